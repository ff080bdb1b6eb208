/-! the reference as functions: what is put in -/
theorem d_M_around_0 : decode b_M_around 0 = .ok (.aload_n 0, 1) := by decide +kernel
theorem d_M_around_1 : decode b_M_around 1 = .ok (.getfield 59, 3) := by decide +kernel
theorem d_M_around_4 : decode b_M_around 4 = .ok (.iload_n 1, 1) := by decide +kernel
theorem d_M_around_5 : decode b_M_around 5 = .ok (.iaload, 1) := by decide +kernel
theorem d_M_around_6 : decode b_M_around 6 = .ok (.istore_n 2, 1) := by decide +kernel
theorem d_M_around_7 : decode b_M_around 7 = .ok (.iload_n 2, 1) := by decide +kernel
theorem d_M_around_8 : decode b_M_around 8 = .ok (.aload_n 0, 1) := by decide +kernel
theorem d_M_around_9 : decode b_M_around 9 = .ok (.getfield 59, 3) := by decide +kernel
theorem d_M_around_12 : decode b_M_around 12 = .ok (.iload_n 1, 1) := by decide +kernel
theorem d_M_around_13 : decode b_M_around 13 = .ok (.iconst 1, 1) := by decide +kernel
theorem d_M_around_14 : decode b_M_around 14 = .ok (.iadd, 1) := by decide +kernel
theorem d_M_around_15 : decode b_M_around 15 = .ok (.iaload, 1) := by decide +kernel
theorem d_M_around_16 : decode b_M_around 16 = .ok (.if_icmp .ge 393, 3) := by decide +kernel
theorem d_M_around_19 : decode b_M_around 19 = .ok (.aload_n 0, 1) := by decide +kernel
theorem d_M_around_20 : decode b_M_around 20 = .ok (.getfield 96, 3) := by decide +kernel
theorem d_M_around_23 : decode b_M_around 23 = .ok (.iload_n 2, 1) := by decide +kernel
theorem d_M_around_24 : decode b_M_around 24 = .ok (.iaload, 1) := by decide +kernel
theorem d_M_around_25 : decode b_M_around 25 = .ok (.istore_n 3, 1) := by decide +kernel
theorem d_M_around_26 : decode b_M_around 26 = .ok (.aload_n 0, 1) := by decide +kernel
theorem d_M_around_27 : decode b_M_around 27 = .ok (.getfield 93, 3) := by decide +kernel
theorem d_M_around_30 : decode b_M_around 30 = .ok (.iload_n 2, 1) := by decide +kernel
theorem d_M_around_31 : decode b_M_around 31 = .ok (.iaload, 1) := by decide +kernel
theorem d_M_around_32 : decode b_M_around 32 = .ok (.istore 4, 2) := by decide +kernel
theorem d_M_around_34 : decode b_M_around 34 = .ok (.iload 4, 2) := by decide +kernel
theorem d_M_around_36 : decode b_M_around 36 = .ok (.aload_n 0, 1) := by decide +kernel
theorem d_M_around_37 : decode b_M_around 37 = .ok (.getfield 93, 3) := by decide +kernel
theorem d_M_around_40 : decode b_M_around 40 = .ok (.iload_n 2, 1) := by decide +kernel
theorem d_M_around_41 : decode b_M_around 41 = .ok (.iconst 1, 1) := by decide +kernel
theorem d_M_around_42 : decode b_M_around 42 = .ok (.iadd, 1) := by decide +kernel
theorem d_M_around_43 : decode b_M_around 43 = .ok (.iaload, 1) := by decide +kernel
theorem d_M_around_44 : decode b_M_around 44 = .ok (.if_icmp .ge 57, 3) := by decide +kernel
theorem d_M_around_47 : decode b_M_around 47 = .ok (.aload_n 0, 1) := by decide +kernel
theorem d_M_around_48 : decode b_M_around 48 = .ok (.getfield 154, 3) := by decide +kernel
theorem d_M_around_51 : decode b_M_around 51 = .ok (.aload_n 0, 1) := by decide +kernel
theorem d_M_around_52 : decode b_M_around 52 = .ok (.getfield 50, 3) := by decide +kernel
theorem d_M_around_55 : decode b_M_around 55 = .ok (.iload_n 1, 1) := by decide +kernel
theorem d_M_around_56 : decode b_M_around 56 = .ok (.iaload, 1) := by decide +kernel
theorem d_M_around_57 : decode b_M_around 57 = .ok (.aload_n 0, 1) := by decide +kernel
theorem d_M_around_58 : decode b_M_around 58 = .ok (.getfield 100, 3) := by decide +kernel
theorem d_M_around_61 : decode b_M_around 61 = .ok (.iload 4, 2) := by decide +kernel
theorem d_M_around_63 : decode b_M_around 63 = .ok (.iaload, 1) := by decide +kernel
theorem d_M_around_64 : decode b_M_around 64 = .ok (.iadd, 1) := by decide +kernel
theorem d_M_around_65 : decode b_M_around 65 = .ok (.iload_n 2, 1) := by decide +kernel
theorem d_M_around_66 : decode b_M_around 66 = .ok (.iastore, 1) := by decide +kernel
theorem d_M_around_67 : decode b_M_around 67 = .ok (.aload_n 0, 1) := by decide +kernel
theorem d_M_around_68 : decode b_M_around 68 = .ok (.getfield 157, 3) := by decide +kernel
theorem d_M_around_71 : decode b_M_around 71 = .ok (.aload_n 0, 1) := by decide +kernel
theorem d_M_around_72 : decode b_M_around 72 = .ok (.getfield 50, 3) := by decide +kernel
theorem d_M_around_75 : decode b_M_around 75 = .ok (.iload_n 1, 1) := by decide +kernel
theorem d_M_around_76 : decode b_M_around 76 = .ok (.iaload, 1) := by decide +kernel
theorem d_M_around_77 : decode b_M_around 77 = .ok (.aload_n 0, 1) := by decide +kernel
theorem d_M_around_78 : decode b_M_around 78 = .ok (.getfield 100, 3) := by decide +kernel
theorem d_M_around_81 : decode b_M_around 81 = .ok (.iload 4, 2) := by decide +kernel
theorem d_M_around_83 : decode b_M_around 83 = .ok (.iaload, 1) := by decide +kernel
theorem d_M_around_84 : decode b_M_around 84 = .ok (.iadd, 1) := by decide +kernel
theorem d_M_around_85 : decode b_M_around 85 = .ok (.iload 4, 2) := by decide +kernel
theorem d_M_around_87 : decode b_M_around 87 = .ok (.aload_n 0, 1) := by decide +kernel
theorem d_M_around_88 : decode b_M_around 88 = .ok (.getfield 93, 3) := by decide +kernel
theorem d_M_around_91 : decode b_M_around 91 = .ok (.iload_n 2, 1) := by decide +kernel
theorem d_M_around_92 : decode b_M_around 92 = .ok (.iaload, 1) := by decide +kernel
theorem d_M_around_93 : decode b_M_around 93 = .ok (.isub, 1) := by decide +kernel
theorem d_M_around_94 : decode b_M_around 94 = .ok (.iastore, 1) := by decide +kernel
theorem d_M_around_95 : decode b_M_around 95 = .ok (.iinc 4 1, 3) := by decide +kernel
theorem d_M_around_98 : decode b_M_around 98 = .ok (.goto (-64), 3) := by decide +kernel
theorem d_M_around_101 : decode b_M_around 101 = .ok (.aload_n 0, 1) := by decide +kernel
theorem d_M_around_102 : decode b_M_around 102 = .ok (.getfield 80, 3) := by decide +kernel
theorem d_M_around_105 : decode b_M_around 105 = .ok (.aload_n 0, 1) := by decide +kernel
theorem d_M_around_106 : decode b_M_around 106 = .ok (.getfield 50, 3) := by decide +kernel
theorem d_M_around_109 : decode b_M_around 109 = .ok (.iload_n 1, 1) := by decide +kernel
theorem d_M_around_110 : decode b_M_around 110 = .ok (.iaload, 1) := by decide +kernel
theorem d_M_around_111 : decode b_M_around 111 = .ok (.aload_n 0, 1) := by decide +kernel
theorem d_M_around_112 : decode b_M_around 112 = .ok (.getfield 100, 3) := by decide +kernel
theorem d_M_around_115 : decode b_M_around 115 = .ok (.aload_n 0, 1) := by decide +kernel
theorem d_M_around_116 : decode b_M_around 116 = .ok (.getfield 93, 3) := by decide +kernel
theorem d_M_around_119 : decode b_M_around 119 = .ok (.iload_n 2, 1) := by decide +kernel
theorem d_M_around_120 : decode b_M_around 120 = .ok (.iaload, 1) := by decide +kernel
theorem d_M_around_121 : decode b_M_around 121 = .ok (.iaload, 1) := by decide +kernel
theorem d_M_around_122 : decode b_M_around 122 = .ok (.iadd, 1) := by decide +kernel
theorem d_M_around_123 : decode b_M_around 123 = .ok (.iaload, 1) := by decide +kernel
theorem d_M_around_124 : decode b_M_around 124 = .ok (.istore 4, 2) := by decide +kernel
theorem d_M_around_126 : decode b_M_around 126 = .ok (.aload_n 0, 1) := by decide +kernel
theorem d_M_around_127 : decode b_M_around 127 = .ok (.getfield 145, 3) := by decide +kernel
theorem d_M_around_130 : decode b_M_around 130 = .ok (.iload_n 3, 1) := by decide +kernel
theorem d_M_around_131 : decode b_M_around 131 = .ok (.aload_n 0, 1) := by decide +kernel
theorem d_M_around_132 : decode b_M_around 132 = .ok (.getfield 124, 3) := by decide +kernel
theorem d_M_around_135 : decode b_M_around 135 = .ok (.iload_n 3, 1) := by decide +kernel
theorem d_M_around_136 : decode b_M_around 136 = .ok (.iaload, 1) := by decide +kernel
theorem d_M_around_137 : decode b_M_around 137 = .ok (.bipush (-2), 2) := by decide +kernel
theorem d_M_around_139 : decode b_M_around 139 = .ok (.if_icmp .ne 8, 3) := by decide +kernel
theorem d_M_around_142 : decode b_M_around 142 = .ok (.iload 4, 2) := by decide +kernel
theorem d_M_around_144 : decode b_M_around 144 = .ok (.goto 9, 3) := by decide +kernel
theorem d_M_around_147 : decode b_M_around 147 = .ok (.aload_n 0, 1) := by decide +kernel
theorem d_M_around_148 : decode b_M_around 148 = .ok (.getfield 124, 3) := by decide +kernel
theorem d_M_around_151 : decode b_M_around 151 = .ok (.iload_n 3, 1) := by decide +kernel
theorem d_M_around_152 : decode b_M_around 152 = .ok (.iaload, 1) := by decide +kernel
theorem d_M_around_153 : decode b_M_around 153 = .ok (.iastore, 1) := by decide +kernel
theorem d_M_around_154 : decode b_M_around 154 = .ok (.aload_n 0, 1) := by decide +kernel
theorem d_M_around_155 : decode b_M_around 155 = .ok (.getfield 148, 3) := by decide +kernel
theorem d_M_around_158 : decode b_M_around 158 = .ok (.iload_n 3, 1) := by decide +kernel
theorem d_M_around_159 : decode b_M_around 159 = .ok (.iload_n 3, 1) := by decide +kernel
theorem d_M_around_160 : decode b_M_around 160 = .ok (.iastore, 1) := by decide +kernel
theorem d_M_around_161 : decode b_M_around 161 = .ok (.iload_n 3, 1) := by decide +kernel
theorem d_M_around_162 : decode b_M_around 162 = .ok (.istore 5, 2) := by decide +kernel
theorem d_M_around_164 : decode b_M_around 164 = .ok (.iload 5, 2) := by decide +kernel
theorem d_M_around_166 : decode b_M_around 166 = .ok (.aload_n 0, 1) := by decide +kernel
theorem d_M_around_167 : decode b_M_around 167 = .ok (.getfield 103, 3) := by decide +kernel
theorem d_M_around_170 : decode b_M_around 170 = .ok (.iload_n 2, 1) := by decide +kernel
theorem d_M_around_171 : decode b_M_around 171 = .ok (.iaload, 1) := by decide +kernel
theorem d_M_around_172 : decode b_M_around 172 = .ok (.if_icmp .lt 177, 3) := by decide +kernel
theorem d_M_around_175 : decode b_M_around 175 = .ok (.iconst 0, 1) := by decide +kernel
theorem d_M_around_176 : decode b_M_around 176 = .ok (.istore 6, 2) := by decide +kernel
theorem d_M_around_178 : decode b_M_around 178 = .ok (.aload_n 0, 1) := by decide +kernel
theorem d_M_around_179 : decode b_M_around 179 = .ok (.getfield 118, 3) := by decide +kernel
theorem d_M_around_182 : decode b_M_around 182 = .ok (.iload 5, 2) := by decide +kernel
theorem d_M_around_184 : decode b_M_around 184 = .ok (.iaload, 1) := by decide +kernel
theorem d_M_around_185 : decode b_M_around 185 = .ok (.istore 7, 2) := by decide +kernel
theorem d_M_around_187 : decode b_M_around 187 = .ok (.iload 7, 2) := by decide +kernel
theorem d_M_around_189 : decode b_M_around 189 = .ok (.ifCond .lt 154, 3) := by decide +kernel
theorem d_M_around_192 : decode b_M_around 192 = .ok (.aload_n 0, 1) := by decide +kernel
theorem d_M_around_193 : decode b_M_around 193 = .ok (.getfield 112, 3) := by decide +kernel
theorem d_M_around_196 : decode b_M_around 196 = .ok (.iload 5, 2) := by decide +kernel
theorem d_M_around_198 : decode b_M_around 198 = .ok (.iaload, 1) := by decide +kernel
theorem d_M_around_199 : decode b_M_around 199 = .ok (.bipush 26, 2) := by decide +kernel
theorem d_M_around_201 : decode b_M_around 201 = .ok (.if_icmp .ne 27, 3) := by decide +kernel
theorem d_M_around_204 : decode b_M_around 204 = .ok (.aload_n 0, 1) := by decide +kernel
theorem d_M_around_205 : decode b_M_around 205 = .ok (.getfield 80, 3) := by decide +kernel
theorem d_M_around_208 : decode b_M_around 208 = .ok (.aload_n 0, 1) := by decide +kernel
theorem d_M_around_209 : decode b_M_around 209 = .ok (.getfield 50, 3) := by decide +kernel
theorem d_M_around_212 : decode b_M_around 212 = .ok (.iload_n 1, 1) := by decide +kernel
theorem d_M_around_213 : decode b_M_around 213 = .ok (.iaload, 1) := by decide +kernel
theorem d_M_around_214 : decode b_M_around 214 = .ok (.aload_n 0, 1) := by decide +kernel
theorem d_M_around_215 : decode b_M_around 215 = .ok (.getfield 115, 3) := by decide +kernel
theorem d_M_around_218 : decode b_M_around 218 = .ok (.iload 5, 2) := by decide +kernel
theorem d_M_around_220 : decode b_M_around 220 = .ok (.iaload, 1) := by decide +kernel
theorem d_M_around_221 : decode b_M_around 221 = .ok (.iconst 2, 1) := by decide +kernel
theorem d_M_around_222 : decode b_M_around 222 = .ok (.idiv, 1) := by decide +kernel
theorem d_M_around_223 : decode b_M_around 223 = .ok (.iadd, 1) := by decide +kernel
theorem d_M_around_224 : decode b_M_around 224 = .ok (.iaload, 1) := by decide +kernel
theorem d_M_around_225 : decode b_M_around 225 = .ok (.goto 10, 3) := by decide +kernel
theorem d_M_around_228 : decode b_M_around 228 = .ok (.aload_n 0, 1) := by decide +kernel
theorem d_M_around_229 : decode b_M_around 229 = .ok (.getfield 145, 3) := by decide +kernel
theorem d_M_around_232 : decode b_M_around 232 = .ok (.iload 5, 2) := by decide +kernel
theorem d_M_around_234 : decode b_M_around 234 = .ok (.iaload, 1) := by decide +kernel
theorem d_M_around_235 : decode b_M_around 235 = .ok (.istore 8, 2) := by decide +kernel
theorem d_M_around_237 : decode b_M_around 237 = .ok (.aload_n 0, 1) := by decide +kernel
theorem d_M_around_238 : decode b_M_around 238 = .ok (.getfield 145, 3) := by decide +kernel
theorem d_M_around_241 : decode b_M_around 241 = .ok (.iload 7, 2) := by decide +kernel
theorem d_M_around_243 : decode b_M_around 243 = .ok (.aload_n 0, 1) := by decide +kernel
theorem d_M_around_244 : decode b_M_around 244 = .ok (.getfield 124, 3) := by decide +kernel
theorem d_M_around_247 : decode b_M_around 247 = .ok (.iload 7, 2) := by decide +kernel
theorem d_M_around_249 : decode b_M_around 249 = .ok (.iaload, 1) := by decide +kernel
theorem d_M_around_250 : decode b_M_around 250 = .ok (.bipush (-2), 2) := by decide +kernel
theorem d_M_around_252 : decode b_M_around 252 = .ok (.if_icmp .ne 8, 3) := by decide +kernel
theorem d_M_around_255 : decode b_M_around 255 = .ok (.iload 8, 2) := by decide +kernel
theorem d_M_around_257 : decode b_M_around 257 = .ok (.goto 10, 3) := by decide +kernel
theorem d_M_around_260 : decode b_M_around 260 = .ok (.aload_n 0, 1) := by decide +kernel
theorem d_M_around_261 : decode b_M_around 261 = .ok (.getfield 124, 3) := by decide +kernel
theorem d_M_around_264 : decode b_M_around 264 = .ok (.iload 7, 2) := by decide +kernel
theorem d_M_around_266 : decode b_M_around 266 = .ok (.iaload, 1) := by decide +kernel
theorem d_M_around_267 : decode b_M_around 267 = .ok (.iastore, 1) := by decide +kernel
theorem d_M_around_268 : decode b_M_around 268 = .ok (.aload_n 0, 1) := by decide +kernel
theorem d_M_around_269 : decode b_M_around 269 = .ok (.getfield 148, 3) := by decide +kernel
theorem d_M_around_272 : decode b_M_around 272 = .ok (.iload 7, 2) := by decide +kernel
theorem d_M_around_274 : decode b_M_around 274 = .ok (.aload_n 0, 1) := by decide +kernel
theorem d_M_around_275 : decode b_M_around 275 = .ok (.getfield 112, 3) := by decide +kernel
theorem d_M_around_278 : decode b_M_around 278 = .ok (.iload 5, 2) := by decide +kernel
theorem d_M_around_280 : decode b_M_around 280 = .ok (.iaload, 1) := by decide +kernel
theorem d_M_around_281 : decode b_M_around 281 = .ok (.bipush 24, 2) := by decide +kernel
theorem d_M_around_283 : decode b_M_around 283 = .ok (.if_icmp .eq 32, 3) := by decide +kernel
theorem d_M_around_286 : decode b_M_around 286 = .ok (.aload_n 0, 1) := by decide +kernel
theorem d_M_around_287 : decode b_M_around 287 = .ok (.getfield 112, 3) := by decide +kernel
theorem d_M_around_290 : decode b_M_around 290 = .ok (.iload 5, 2) := by decide +kernel
theorem d_M_around_292 : decode b_M_around 292 = .ok (.iaload, 1) := by decide +kernel
theorem d_M_around_293 : decode b_M_around 293 = .ok (.iconst 3, 1) := by decide +kernel
theorem d_M_around_294 : decode b_M_around 294 = .ok (.if_icmp .eq 21, 3) := by decide +kernel
theorem d_M_around_297 : decode b_M_around 297 = .ok (.aload_n 0, 1) := by decide +kernel
theorem d_M_around_298 : decode b_M_around 298 = .ok (.getfield 112, 3) := by decide +kernel
theorem d_M_around_301 : decode b_M_around 301 = .ok (.iload 5, 2) := by decide +kernel
theorem d_M_around_303 : decode b_M_around 303 = .ok (.iaload, 1) := by decide +kernel
theorem d_M_around_304 : decode b_M_around 304 = .ok (.bipush 6, 2) := by decide +kernel
theorem d_M_around_306 : decode b_M_around 306 = .ok (.if_icmp .ne 14, 3) := by decide +kernel
theorem d_M_around_309 : decode b_M_around 309 = .ok (.iload 6, 2) := by decide +kernel
theorem d_M_around_311 : decode b_M_around 311 = .ok (.iconst 1, 1) := by decide +kernel
theorem d_M_around_312 : decode b_M_around 312 = .ok (.if_icmp .ne 8, 3) := by decide +kernel
theorem d_M_around_315 : decode b_M_around 315 = .ok (.iload 7, 2) := by decide +kernel
theorem d_M_around_317 : decode b_M_around 317 = .ok (.goto 10, 3) := by decide +kernel
theorem d_M_around_320 : decode b_M_around 320 = .ok (.aload_n 0, 1) := by decide +kernel
theorem d_M_around_321 : decode b_M_around 321 = .ok (.getfield 148, 3) := by decide +kernel
theorem d_M_around_324 : decode b_M_around 324 = .ok (.iload 5, 2) := by decide +kernel
theorem d_M_around_326 : decode b_M_around 326 = .ok (.iaload, 1) := by decide +kernel
theorem d_M_around_327 : decode b_M_around 327 = .ok (.iastore, 1) := by decide +kernel
theorem d_M_around_328 : decode b_M_around 328 = .ok (.iinc 6 1, 3) := by decide +kernel
theorem d_M_around_331 : decode b_M_around 331 = .ok (.aload_n 0, 1) := by decide +kernel
theorem d_M_around_332 : decode b_M_around 332 = .ok (.getfield 121, 3) := by decide +kernel
theorem d_M_around_335 : decode b_M_around 335 = .ok (.iload 7, 2) := by decide +kernel
theorem d_M_around_337 : decode b_M_around 337 = .ok (.iaload, 1) := by decide +kernel
theorem d_M_around_338 : decode b_M_around 338 = .ok (.istore 7, 2) := by decide +kernel
theorem d_M_around_340 : decode b_M_around 340 = .ok (.goto (-153), 3) := by decide +kernel
theorem d_M_around_343 : decode b_M_around 343 = .ok (.iinc 5 (-1), 3) := by decide +kernel
theorem d_M_around_346 : decode b_M_around 346 = .ok (.goto (-182), 3) := by decide +kernel
theorem d_M_around_349 : decode b_M_around 349 = .ok (.aload_n 0, 1) := by decide +kernel
theorem d_M_around_350 : decode b_M_around 350 = .ok (.getfield 103, 3) := by decide +kernel
theorem d_M_around_353 : decode b_M_around 353 = .ok (.iload_n 2, 1) := by decide +kernel
theorem d_M_around_354 : decode b_M_around 354 = .ok (.iaload, 1) := by decide +kernel
theorem d_M_around_355 : decode b_M_around 355 = .ok (.istore 5, 2) := by decide +kernel
theorem d_M_around_357 : decode b_M_around 357 = .ok (.iload 5, 2) := by decide +kernel
theorem d_M_around_359 : decode b_M_around 359 = .ok (.iload_n 3, 1) := by decide +kernel
theorem d_M_around_360 : decode b_M_around 360 = .ok (.if_icmp .gt 43, 3) := by decide +kernel
theorem d_M_around_363 : decode b_M_around 363 = .ok (.aload_n 0, 1) := by decide +kernel
theorem d_M_around_364 : decode b_M_around 364 = .ok (.getfield 151, 3) := by decide +kernel
theorem d_M_around_367 : decode b_M_around 367 = .ok (.iload 5, 2) := by decide +kernel
theorem d_M_around_369 : decode b_M_around 369 = .ok (.aload_n 0, 1) := by decide +kernel
theorem d_M_around_370 : decode b_M_around 370 = .ok (.getfield 118, 3) := by decide +kernel
theorem d_M_around_373 : decode b_M_around 373 = .ok (.iload 5, 2) := by decide +kernel
theorem d_M_around_375 : decode b_M_around 375 = .ok (.iaload, 1) := by decide +kernel
theorem d_M_around_376 : decode b_M_around 376 = .ok (.ifCond .ge 8, 3) := by decide +kernel
theorem d_M_around_379 : decode b_M_around 379 = .ok (.iload 5, 2) := by decide +kernel
theorem d_M_around_381 : decode b_M_around 381 = .ok (.goto 15, 3) := by decide +kernel
theorem d_M_around_384 : decode b_M_around 384 = .ok (.aload_n 0, 1) := by decide +kernel
theorem d_M_around_385 : decode b_M_around 385 = .ok (.getfield 151, 3) := by decide +kernel
theorem d_M_around_388 : decode b_M_around 388 = .ok (.aload_n 0, 1) := by decide +kernel
theorem d_M_around_389 : decode b_M_around 389 = .ok (.getfield 118, 3) := by decide +kernel
theorem d_M_around_392 : decode b_M_around 392 = .ok (.iload 5, 2) := by decide +kernel
theorem d_M_around_394 : decode b_M_around 394 = .ok (.iaload, 1) := by decide +kernel
theorem d_M_around_395 : decode b_M_around 395 = .ok (.iaload, 1) := by decide +kernel
theorem d_M_around_396 : decode b_M_around 396 = .ok (.iastore, 1) := by decide +kernel
theorem d_M_around_397 : decode b_M_around 397 = .ok (.iinc 5 1, 3) := by decide +kernel
theorem d_M_around_400 : decode b_M_around 400 = .ok (.goto (-43), 3) := by decide +kernel
theorem d_M_around_403 : decode b_M_around 403 = .ok (.iinc 2 1, 3) := by decide +kernel
theorem d_M_around_406 : decode b_M_around 406 = .ok (.goto (-399), 3) := by decide +kernel
theorem d_M_around_409 : decode b_M_around 409 = .ok (.return_, 1) := by decide +kernel
abbrev mt_M_around : MT := (R_M, b_M_around, 9, none)
theorem vf_M_around : VF y_M_around mt_M_around 12 1 := ⟨im_M_around, se_M_around, in_M, co_M_around, by decide +kernel, _, _, rfl⟩
def f_M_around_b403 (k7 : St → Int → Int → Option (Int × St)) (γ : St) (x1 : Int) (x2 : Int) : Option (Int × St) :=
  chk (i32 (x2 + 1)) (k7 γ x1 (x2 + 1))
def f_M_around_b396 (k357 : St → Int → Int → Int → Int → Option (Int × St)) (x403 : St → Int → Int → Option (Int × St)) (γ : St) (x6 : Int) (x7 : Int) (x8 : Int) (x9 : Int) (x10 : Int) (x11 : Int) : Option (Int × St) :=
  chk (inb x11 66000) (ap (setA γ 31 x11 x10) fun γ12 =>
  chk (i32 (x9 + 1)) (k357 γ12 x6 x7 x8 (x9 + 1)))
def f_M_around_L357 (x403 : St → Int → Int → Option (Int × St)) : Nat → St → Int → Int → Int → Int → Option (Int × St)
  | 0, _, _, _, _, _ => none
  | n + 1, γ, x20, x21, x22, x23 =>
  if x22 < x23 then
  (x403 γ x20 x21)
  else
  (chk (inb x23 66000) (if 0 ≤ (γ 22 x23) then
  (chk (inb x23 66000) (chk (inb (γ 22 x23) 66000) (f_M_around_b396 (f_M_around_L357 x403 n) x403 γ x20 x21 x22 x23 (γ 31 (γ 22 x23)) x23)))
  else
  (f_M_around_b396 (f_M_around_L357 x403 n) x403 γ x20 x21 x22 x23 x23 x23)))
def f_M_around_b349 (k7 : St → Int → Int → Option (Int × St)) (γ : St) (x33 : Int) (x34 : Int) (x35 : Int) : Option (Int × St) :=
  chk (inb x34 17000) (ap (γ 19 x34) fun x38 =>
  f_M_around_L357 (f_M_around_b403 k7) FU γ x33 x34 x35 x38)
def f_M_around_b343 (k164 : St → Int → Int → Int → Int → Option (Int × St)) (x349 : St → Int → Int → Int → Option (Int × St)) (γ : St) (x41 : Int) (x42 : Int) (x43 : Int) (x44 : Int) : Option (Int × St) :=
  chk (i32 (x44 + (-1))) (k164 γ x41 x42 x43 (x44 + (-1)))
def f_M_around_b327 (k187 : St → Int → Int → Int → Int → Int → Int → Option (Int × St)) (x343 : St → Int → Int → Int → Int → Option (Int × St)) (γ : St) (x53 : Int) (x54 : Int) (x55 : Int) (x56 : Int) (x57 : Int) (x58 : Int) (x59 : Int) (x60 : Int) : Option (Int × St) :=
  chk (inb x60 66000) (ap (setA γ 30 x60 x59) fun γ61 =>
  chk (i32 (x57 + 1)) (chk (inb x58 66000) (ap (γ61 23 x58) fun x65 =>
  k187 γ61 x53 x54 x55 x56 (x57 + 1) x65)))
def f_M_around_b315 (k187 : St → Int → Int → Int → Int → Int → Int → Option (Int × St)) (x343 : St → Int → Int → Int → Int → Option (Int × St)) (γ : St) (x76 : Int) (x77 : Int) (x78 : Int) (x79 : Int) (x80 : Int) (x81 : Int) (x82 : Int) : Option (Int × St) :=
  f_M_around_b327 k187 x343 γ x76 x77 x78 x79 x80 x81 x81 x82
def f_M_around_b320 (k187 : St → Int → Int → Int → Int → Int → Int → Option (Int × St)) (x343 : St → Int → Int → Int → Int → Option (Int × St)) (γ : St) (x93 : Int) (x94 : Int) (x95 : Int) (x96 : Int) (x97 : Int) (x98 : Int) (x99 : Int) : Option (Int × St) :=
  chk (inb x96 66000) (f_M_around_b327 k187 x343 γ x93 x94 x95 x96 x97 x98 (γ 30 x96) x99)
def f_M_around_b267 (k187 : St → Int → Int → Int → Int → Int → Int → Option (Int × St)) (x343 : St → Int → Int → Int → Int → Option (Int × St)) (γ : St) (x112 : Int) (x113 : Int) (x114 : Int) (x115 : Int) (x116 : Int) (x117 : Int) (x118 : Int) (x119 : Int) : Option (Int × St) :=
  chk (inb x119 66000) (ap (setA γ 29 x119 x118) fun γ120 =>
  chk (inb x115 66000) (if (γ120 20 x115) = 24 then
  (f_M_around_b315 k187 x343 γ120 x112 x113 x114 x115 x116 x117 x117)
  else
  (chk (inb x115 66000) (if (γ120 20 x115) = 3 then
  (f_M_around_b315 k187 x343 γ120 x112 x113 x114 x115 x116 x117 x117)
  else
  (chk (inb x115 66000) (if (γ120 20 x115) ≠ 6 then
  (f_M_around_b320 k187 x343 γ120 x112 x113 x114 x115 x116 x117 x117)
  else
  (if x116 ≠ 1 then
  (f_M_around_b320 k187 x343 γ120 x112 x113 x114 x115 x116 x117 x117)
  else
  (f_M_around_b315 k187 x343 γ120 x112 x113 x114 x115 x116 x117 x117))))))))
def f_M_around_b235 (k187 : St → Int → Int → Int → Int → Int → Int → Option (Int × St)) (x343 : St → Int → Int → Int → Int → Option (Int × St)) (γ : St) (x138 : Int) (x139 : Int) (x140 : Int) (x141 : Int) (x142 : Int) (x143 : Int) (x144 : Int) : Option (Int × St) :=
  chk (inb x143 66000) (if (γ 24 x143) ≠ (-2) then
  (chk (inb x143 66000) (f_M_around_b267 k187 x343 γ x138 x139 x140 x141 x142 x143 (γ 24 x143) x143))
  else
  (f_M_around_b267 k187 x343 γ x138 x139 x140 x141 x142 x143 x144 x143))
def f_M_around_L187 (x343 : St → Int → Int → Int → Int → Option (Int × St)) : Nat → St → Int → Int → Int → Int → Int → Int → Option (Int × St)
  | 0, _, _, _, _, _, _, _ => none
  | n + 1, γ, x160, x161, x162, x163, x164, x165 =>
  if x165 < 0 then
  (x343 γ x160 x161 x162 x163)
  else
  (chk (inb x163 66000) (if (γ 20 x163) ≠ 26 then
  (chk (inb x163 66000) (f_M_around_b235 (f_M_around_L187 x343 n) x343 γ x160 x161 x162 x163 x164 x165 (γ 29 x163)))
  else
  (chk (inb x160 61) (chk (inb x163 66000) (chk ((2 : Int) ≠ 0) (chk (i32 ((γ 4 x160) + (idiv (γ 21 x163) 2))) (chk (inb ((γ 4 x160) + (idiv (γ 21 x163) 2)) 6000) (f_M_around_b235 (f_M_around_L187 x343 n) x343 γ x160 x161 x162 x163 x164 x165 (γ 12 ((γ 4 x160) + (idiv (γ 21 x163) 2)))))))))))
def f_M_around_L164 (x349 : St → Int → Int → Int → Option (Int × St)) : Nat → St → Int → Int → Int → Int → Option (Int × St)
  | 0, _, _, _, _, _ => none
  | n + 1, γ, x181, x182, x183, x184 =>
  chk (inb x182 17000) (if x184 < (γ 19 x182) then
  (x349 γ x181 x182 x183)
  else
  (chk (inb x184 66000) (ap (γ 22 x184) fun x189 =>
  f_M_around_L187 (f_M_around_b343 (f_M_around_L164 x349 n) x349) FU γ x181 x182 x183 x184 0 x189)))
def f_M_around_b153 (k7 : St → Int → Int → Option (Int × St)) (γ : St) (x193 : Int) (x194 : Int) (x195 : Int) (x196 : Int) (x197 : Int) : Option (Int × St) :=
  chk (inb x197 66000) (ap (setA γ 29 x197 x196) fun γ198 =>
  chk (inb x195 66000) (ap (setA γ198 30 x195 x195) fun γ200 =>
  f_M_around_L164 (f_M_around_b349 k7) FU γ200 x193 x194 x195 x195))
def f_M_around_b101 (k7 : St → Int → Int → Option (Int × St)) (γ : St) (x203 : Int) (x204 : Int) (x205 : Int) : Option (Int × St) :=
  chk (inb x203 61) (chk (inb x204 17001) (chk (inb (γ 16 x204) 66000) (chk (i32 ((γ 4 x203) + (γ 18 (γ 16 x204)))) (chk (inb ((γ 4 x203) + (γ 18 (γ 16 x204))) 6000) (ap (γ 12 ((γ 4 x203) + (γ 18 (γ 16 x204)))) fun x215 =>
  chk (inb x205 66000) (if (γ 24 x205) ≠ (-2) then
  (chk (inb x205 66000) (f_M_around_b153 k7 γ x203 x204 x205 (γ 24 x205) x205))
  else
  (f_M_around_b153 k7 γ x203 x204 x205 x215 x205)))))))
def f_M_around_L34 (x101 : St → Int → Int → Int → Option (Int × St)) : Nat → St → Int → Int → Int → Int → Option (Int × St)
  | 0, _, _, _, _, _ => none
  | n + 1, γ, x223, x224, x225, x226 =>
  chk (i32 (x224 + 1)) (chk (inb (x224 + 1) 17001) (if (γ 16 (x224 + 1)) ≤ x226 then
  (x101 γ x223 x224 x225)
  else
  (chk (inb x223 61) (chk (inb x226 66000) (chk (i32 ((γ 4 x223) + (γ 18 x226))) (chk (inb ((γ 4 x223) + (γ 18 x226)) 6000) (ap (setA γ 32 ((γ 4 x223) + (γ 18 x226)) x224) fun γ236 =>
  chk (inb x223 61) (chk (inb x226 66000) (chk (i32 ((γ236 4 x223) + (γ236 18 x226))) (chk (inb x224 17001) (chk (i32 (x226 - (γ236 16 x224))) (chk (inb ((γ236 4 x223) + (γ236 18 x226)) 6000) (ap (setA γ236 33 ((γ236 4 x223) + (γ236 18 x226)) (x226 - (γ236 16 x224))) fun γ246 =>
  chk (i32 (x226 + 1)) ((f_M_around_L34 x101 n) γ246 x223 x224 x225 (x226 + 1)))))))))))))))
def f_M_around_L7 : Nat → St → Int → Int → Option (Int × St)
  | 0, _, _, _ => none
  | n + 1, γ, x251, x252 =>
  chk (i32 (x251 + 1)) (chk (inb (x251 + 1) 61) (if (γ 7 (x251 + 1)) ≤ x252 then
  (some (0, γ))
  else
  (chk (inb x252 17000) (ap (γ 17 x252) fun x258 =>
  chk (inb x252 17001) (ap (γ 16 x252) fun x261 =>
  f_M_around_L34 (f_M_around_b101 (f_M_around_L7 n)) FU γ x251 x252 x258 x261)))))
def f_M_around (γ : St) (a0 : Int) : Option (Int × St) :=
  chk (inb a0 61) (ap (γ 7 a0) fun x264 =>
  f_M_around_L7  FU γ a0 x264)
set_option maxHeartbeats 4000000 in
theorem s_M_around_b403 {Γ : Ctx} {k7 : St → Int → Int → Option (Int × St)} (hk7 : ∀ (γ : St) (x4 : Int) (x5 : Int), i32 x4 → i32 x5 → SB Γ BM mt_M_around (RmN 6 240) 0 0 (KN Γ BM mt_M_around.2.2.2) 7 [(0, vR Γ 0), (1, vI x4), (2, vI x5)] [] γ (k7 γ x4 x5)) : ∀ (γ : St) (x1 : Int) (x2 : Int), i32 x1 → i32 x2 → SB Γ BM mt_M_around (RmN 6 240) 0 0 (KN Γ BM mt_M_around.2.2.2) 403 [(0, vR Γ 0), (1, vI x1), (2, vI x2)] [] γ (f_M_around_b403 k7 γ x1 x2) := by
  intro γ x1 x2 hx1 hx2
  unfold f_M_around_b403
  refine sb_iinc 2 [(2, vI (x2 + 1)), (0, vR Γ 0), (1, vI x1)] d_M_around_403 rfl (by decide) rfl ?_
  refine sb_chk (fun c3 => ?_)
  refine sb_goto 7 d_M_around_406 (by decide) ?_
  exact sb_lv [1, 2, 0] rfl (hk7 γ x1 (x2 + 1) hx1 c3)
set_option maxHeartbeats 4000000 in
theorem s_M_around_b396 {Γ : Ctx} {k357 : St → Int → Int → Int → Int → Option (Int × St)} {x403 : St → Int → Int → Option (Int × St)} (hk357 : ∀ (γ : St) (x14 : Int) (x15 : Int) (x16 : Int) (x17 : Int), i32 x14 → i32 x15 → i32 x16 → i32 x17 → SB Γ BM mt_M_around (RmN 6 240) 0 0 (KN Γ BM mt_M_around.2.2.2) 357 [(0, vR Γ 0), (1, vI x14), (2, vI x15), (3, vI x16), (5, vI x17)] [] γ (k357 γ x14 x15 x16 x17)) (hx403 : ∀ (γ : St) (x18 : Int) (x19 : Int), i32 x18 → i32 x19 → SB Γ BM mt_M_around (RmN 6 240) 0 0 (KN Γ BM mt_M_around.2.2.2) 403 [(0, vR Γ 0), (1, vI x18), (2, vI x19)] [] γ (x403 γ x18 x19)) : ∀ (γ : St) (x6 : Int) (x7 : Int) (x8 : Int) (x9 : Int) (x10 : Int) (x11 : Int), i32 x6 → i32 x7 → i32 x8 → i32 x9 → i32 x10 → i32 x11 → SB Γ BM mt_M_around (RmN 6 240) 0 0 (KN Γ BM mt_M_around.2.2.2) 396 [(0, vR Γ 0), (1, vI x6), (2, vI x7), (3, vI x8), (5, vI x9)] [vI x10, vI x11, vR Γ 31] γ (f_M_around_b396 k357 x403 γ x6 x7 x8 x9 x10 x11) := by
  intro γ x6 x7 x8 x9 x10 x11 hx6 hx7 hx8 hx9 hx10 hx11
  unfold f_M_around_b396
  refine as_M_31 hx10 d_M_around_396 (fun _ => ?_)
  refine sb_aps (fun γ12 => ?_)
  refine sb_iinc 4 [(5, vI (x9 + 1)), (0, vR Γ 0), (1, vI x6), (2, vI x7), (3, vI x8)] d_M_around_397 rfl (by decide) rfl ?_
  refine sb_chk (fun c13 => ?_)
  refine sb_goto 357 d_M_around_400 (by decide) ?_
  exact sb_lv [1, 2, 3, 4, 0] rfl (hk357 γ12 x6 x7 x8 (x9 + 1) hx6 hx7 hx8 c13)
set_option maxHeartbeats 4000000 in
theorem s_M_around_L357 {Γ : Ctx} {x403 : St → Int → Int → Option (Int × St)} (hx403 : ∀ (γ : St) (x31 : Int) (x32 : Int), i32 x31 → i32 x32 → SB Γ BM mt_M_around (RmN 6 240) 0 0 (KN Γ BM mt_M_around.2.2.2) 403 [(0, vR Γ 0), (1, vI x31), (2, vI x32)] [] γ (x403 γ x31 x32)) : ∀ (n : Nat) (γ : St) (x20 : Int) (x21 : Int) (x22 : Int) (x23 : Int), i32 x20 → i32 x21 → i32 x22 → i32 x23 → SB Γ BM mt_M_around (RmN 6 240) 0 0 (KN Γ BM mt_M_around.2.2.2) 357 [(0, vR Γ 0), (1, vI x20), (2, vI x21), (3, vI x22), (5, vI x23)] [] γ (f_M_around_L357 x403 n γ x20 x21 x22 x23) := by
  intro n
  induction n with
  | zero => intros; exact sb_none
  | succ n ih =>
    intro γ x20 x21 x22 x23 hx20 hx21 hx22 hx23
    unfold f_M_around_L357
    refine sb_iload 4 d_M_around_357 rfl ?_
    refine sb_iload_n 3 d_M_around_359 rfl ?_
    refine sb_icmp_gt 403 hx23 hx22 d_M_around_360 (by decide) (fun _ => ?_) (fun _ => ?_)
    · exact sb_lv [0, 1, 2] rfl (hx403 γ x20 x21 hx20 hx21)
    · refine sb_aload_n 0 d_M_around_363 rfl ?_
      refine g_M_151 d_M_around_364 ?_
      refine sb_iload 4 d_M_around_367 rfl ?_
      refine sb_aload_n 0 d_M_around_369 rfl ?_
      refine g_M_118 d_M_around_370 ?_
      refine sb_iload 4 d_M_around_373 rfl ?_
      refine al_M_22 d_M_around_375 (fun _ c26 => ?_)
      refine sb_if_ge 384 c26 d_M_around_376 (by decide) (fun _ => ?_) (fun _ => ?_)
      · refine sb_aload_n 0 d_M_around_384 rfl ?_
        refine g_M_151 d_M_around_385 ?_
        refine sb_aload_n 0 d_M_around_388 rfl ?_
        refine g_M_118 d_M_around_389 ?_
        refine sb_iload 4 d_M_around_392 rfl ?_
        refine al_M_22 d_M_around_394 (fun _ c29 => ?_)
        refine al_M_31 d_M_around_395 (fun _ c30 => ?_)
        exact sb_lv [0, 1, 2, 3, 4] rfl (s_M_around_b396 ih hx403 γ x20 x21 x22 x23 (γ 31 (γ 22 x23)) x23 hx20 hx21 hx22 hx23 c30 hx23)
      · refine sb_iload 4 d_M_around_379 rfl ?_
        refine sb_goto 396 d_M_around_381 (by decide) ?_
        exact sb_lv [0, 1, 2, 3, 4] rfl (s_M_around_b396 ih hx403 γ x20 x21 x22 x23 x23 x23 hx20 hx21 hx22 hx23 hx23 hx23)
set_option maxHeartbeats 4000000 in
theorem s_M_around_b349 {Γ : Ctx} {k7 : St → Int → Int → Option (Int × St)} (hk7 : ∀ (γ : St) (x39 : Int) (x40 : Int), i32 x39 → i32 x40 → SB Γ BM mt_M_around (RmN 6 240) 0 0 (KN Γ BM mt_M_around.2.2.2) 7 [(0, vR Γ 0), (1, vI x39), (2, vI x40)] [] γ (k7 γ x39 x40)) : ∀ (γ : St) (x33 : Int) (x34 : Int) (x35 : Int), i32 x33 → i32 x34 → i32 x35 → SB Γ BM mt_M_around (RmN 6 240) 0 0 (KN Γ BM mt_M_around.2.2.2) 349 [(0, vR Γ 0), (1, vI x33), (2, vI x34), (3, vI x35)] [] γ (f_M_around_b349 k7 γ x33 x34 x35) := by
  intro γ x33 x34 x35 hx33 hx34 hx35
  unfold f_M_around_b349
  refine sb_aload_n 0 d_M_around_349 rfl ?_
  refine g_M_103 d_M_around_350 ?_
  refine sb_iload_n 2 d_M_around_353 rfl ?_
  refine al_M_19 d_M_around_354 (fun _ c37 => ?_)
  refine sb_istore [(5, vI (γ 19 x34)), (0, vR Γ 0), (1, vI x33), (2, vI x34), (3, vI x35)] d_M_around_355 (by decide) rfl ?_
  refine sb_nme (e := γ 19 x34) (fun x38 => [(5, vI x38), (0, vR Γ 0), (1, vI x33), (2, vI x34), (3, vI x35)]) c37 (fun x38 hx38 => ?_)
  exact sb_lv [1, 2, 3, 4, 0] rfl (s_M_around_L357 (s_M_around_b403 hk7) FU γ x33 x34 x35 x38 hx33 hx34 hx35 hx38)
set_option maxHeartbeats 4000000 in
theorem s_M_around_b343 {Γ : Ctx} {k164 : St → Int → Int → Int → Int → Option (Int × St)} {x349 : St → Int → Int → Int → Option (Int × St)} (hk164 : ∀ (γ : St) (x46 : Int) (x47 : Int) (x48 : Int) (x49 : Int), i32 x46 → i32 x47 → i32 x48 → i32 x49 → SB Γ BM mt_M_around (RmN 6 240) 0 0 (KN Γ BM mt_M_around.2.2.2) 164 [(0, vR Γ 0), (1, vI x46), (2, vI x47), (3, vI x48), (5, vI x49)] [] γ (k164 γ x46 x47 x48 x49)) (hx349 : ∀ (γ : St) (x50 : Int) (x51 : Int) (x52 : Int), i32 x50 → i32 x51 → i32 x52 → SB Γ BM mt_M_around (RmN 6 240) 0 0 (KN Γ BM mt_M_around.2.2.2) 349 [(0, vR Γ 0), (1, vI x50), (2, vI x51), (3, vI x52)] [] γ (x349 γ x50 x51 x52)) : ∀ (γ : St) (x41 : Int) (x42 : Int) (x43 : Int) (x44 : Int), i32 x41 → i32 x42 → i32 x43 → i32 x44 → SB Γ BM mt_M_around (RmN 6 240) 0 0 (KN Γ BM mt_M_around.2.2.2) 343 [(0, vR Γ 0), (1, vI x41), (2, vI x42), (3, vI x43), (5, vI x44)] [] γ (f_M_around_b343 k164 x349 γ x41 x42 x43 x44) := by
  intro γ x41 x42 x43 x44 hx41 hx42 hx43 hx44
  unfold f_M_around_b343
  refine sb_iinc 4 [(5, vI (x44 + (-1))), (0, vR Γ 0), (1, vI x41), (2, vI x42), (3, vI x43)] d_M_around_343 rfl (by decide) rfl ?_
  refine sb_chk (fun c45 => ?_)
  refine sb_goto 164 d_M_around_346 (by decide) ?_
  exact sb_lv [1, 2, 3, 4, 0] rfl (hk164 γ x41 x42 x43 (x44 + (-1)) hx41 hx42 hx43 c45)
set_option maxHeartbeats 4000000 in
theorem s_M_around_b327 {Γ : Ctx} {k187 : St → Int → Int → Int → Int → Int → Int → Option (Int × St)} {x343 : St → Int → Int → Int → Int → Option (Int × St)} (hk187 : ∀ (γ : St) (x66 : Int) (x67 : Int) (x68 : Int) (x69 : Int) (x70 : Int) (x71 : Int), i32 x66 → i32 x67 → i32 x68 → i32 x69 → i32 x70 → i32 x71 → SB Γ BM mt_M_around (RmN 6 240) 0 0 (KN Γ BM mt_M_around.2.2.2) 187 [(0, vR Γ 0), (1, vI x66), (2, vI x67), (3, vI x68), (5, vI x69), (6, vI x70), (7, vI x71)] [] γ (k187 γ x66 x67 x68 x69 x70 x71)) (hx343 : ∀ (γ : St) (x72 : Int) (x73 : Int) (x74 : Int) (x75 : Int), i32 x72 → i32 x73 → i32 x74 → i32 x75 → SB Γ BM mt_M_around (RmN 6 240) 0 0 (KN Γ BM mt_M_around.2.2.2) 343 [(0, vR Γ 0), (1, vI x72), (2, vI x73), (3, vI x74), (5, vI x75)] [] γ (x343 γ x72 x73 x74 x75)) : ∀ (γ : St) (x53 : Int) (x54 : Int) (x55 : Int) (x56 : Int) (x57 : Int) (x58 : Int) (x59 : Int) (x60 : Int), i32 x53 → i32 x54 → i32 x55 → i32 x56 → i32 x57 → i32 x58 → i32 x59 → i32 x60 → SB Γ BM mt_M_around (RmN 6 240) 0 0 (KN Γ BM mt_M_around.2.2.2) 327 [(0, vR Γ 0), (1, vI x53), (2, vI x54), (3, vI x55), (5, vI x56), (6, vI x57), (7, vI x58)] [vI x59, vI x60, vR Γ 30] γ (f_M_around_b327 k187 x343 γ x53 x54 x55 x56 x57 x58 x59 x60) := by
  intro γ x53 x54 x55 x56 x57 x58 x59 x60 hx53 hx54 hx55 hx56 hx57 hx58 hx59 hx60
  unfold f_M_around_b327
  refine as_M_30 hx59 d_M_around_327 (fun _ => ?_)
  refine sb_aps (fun γ61 => ?_)
  refine sb_iinc 5 [(6, vI (x57 + 1)), (0, vR Γ 0), (1, vI x53), (2, vI x54), (3, vI x55), (5, vI x56), (7, vI x58)] d_M_around_328 rfl (by decide) rfl ?_
  refine sb_chk (fun c62 => ?_)
  refine sb_aload_n 1 d_M_around_331 rfl ?_
  refine g_M_121 d_M_around_332 ?_
  refine sb_iload 6 d_M_around_335 rfl ?_
  refine al_M_23 d_M_around_337 (fun _ c64 => ?_)
  refine sb_istore [(7, vI (γ61 23 x58)), (6, vI (x57 + 1)), (0, vR Γ 0), (1, vI x53), (2, vI x54), (3, vI x55), (5, vI x56)] d_M_around_338 (by decide) rfl ?_
  refine sb_nme (e := γ61 23 x58) (fun x65 => [(7, vI x65), (6, vI (x57 + 1)), (0, vR Γ 0), (1, vI x53), (2, vI x54), (3, vI x55), (5, vI x56)]) c64 (fun x65 hx65 => ?_)
  refine sb_goto 187 d_M_around_340 (by decide) ?_
  exact sb_lv [2, 3, 4, 5, 6, 1, 0] rfl (hk187 γ61 x53 x54 x55 x56 (x57 + 1) x65 hx53 hx54 hx55 hx56 c62 hx65)
set_option maxHeartbeats 4000000 in
theorem s_M_around_b315 {Γ : Ctx} {k187 : St → Int → Int → Int → Int → Int → Int → Option (Int × St)} {x343 : St → Int → Int → Int → Int → Option (Int × St)} (hk187 : ∀ (γ : St) (x83 : Int) (x84 : Int) (x85 : Int) (x86 : Int) (x87 : Int) (x88 : Int), i32 x83 → i32 x84 → i32 x85 → i32 x86 → i32 x87 → i32 x88 → SB Γ BM mt_M_around (RmN 6 240) 0 0 (KN Γ BM mt_M_around.2.2.2) 187 [(0, vR Γ 0), (1, vI x83), (2, vI x84), (3, vI x85), (5, vI x86), (6, vI x87), (7, vI x88)] [] γ (k187 γ x83 x84 x85 x86 x87 x88)) (hx343 : ∀ (γ : St) (x89 : Int) (x90 : Int) (x91 : Int) (x92 : Int), i32 x89 → i32 x90 → i32 x91 → i32 x92 → SB Γ BM mt_M_around (RmN 6 240) 0 0 (KN Γ BM mt_M_around.2.2.2) 343 [(0, vR Γ 0), (1, vI x89), (2, vI x90), (3, vI x91), (5, vI x92)] [] γ (x343 γ x89 x90 x91 x92)) : ∀ (γ : St) (x76 : Int) (x77 : Int) (x78 : Int) (x79 : Int) (x80 : Int) (x81 : Int) (x82 : Int), i32 x76 → i32 x77 → i32 x78 → i32 x79 → i32 x80 → i32 x81 → i32 x82 → SB Γ BM mt_M_around (RmN 6 240) 0 0 (KN Γ BM mt_M_around.2.2.2) 315 [(0, vR Γ 0), (1, vI x76), (2, vI x77), (3, vI x78), (5, vI x79), (6, vI x80), (7, vI x81)] [vI x82, vR Γ 30] γ (f_M_around_b315 k187 x343 γ x76 x77 x78 x79 x80 x81 x82) := by
  intro γ x76 x77 x78 x79 x80 x81 x82 hx76 hx77 hx78 hx79 hx80 hx81 hx82
  unfold f_M_around_b315
  refine sb_iload 6 d_M_around_315 rfl ?_
  refine sb_goto 327 d_M_around_317 (by decide) ?_
  exact sb_lv [0, 1, 2, 3, 4, 5, 6] rfl (s_M_around_b327 hk187 hx343 γ x76 x77 x78 x79 x80 x81 x81 x82 hx76 hx77 hx78 hx79 hx80 hx81 hx81 hx82)
set_option maxHeartbeats 4000000 in
theorem s_M_around_b320 {Γ : Ctx} {k187 : St → Int → Int → Int → Int → Int → Int → Option (Int × St)} {x343 : St → Int → Int → Int → Int → Option (Int × St)} (hk187 : ∀ (γ : St) (x102 : Int) (x103 : Int) (x104 : Int) (x105 : Int) (x106 : Int) (x107 : Int), i32 x102 → i32 x103 → i32 x104 → i32 x105 → i32 x106 → i32 x107 → SB Γ BM mt_M_around (RmN 6 240) 0 0 (KN Γ BM mt_M_around.2.2.2) 187 [(0, vR Γ 0), (1, vI x102), (2, vI x103), (3, vI x104), (5, vI x105), (6, vI x106), (7, vI x107)] [] γ (k187 γ x102 x103 x104 x105 x106 x107)) (hx343 : ∀ (γ : St) (x108 : Int) (x109 : Int) (x110 : Int) (x111 : Int), i32 x108 → i32 x109 → i32 x110 → i32 x111 → SB Γ BM mt_M_around (RmN 6 240) 0 0 (KN Γ BM mt_M_around.2.2.2) 343 [(0, vR Γ 0), (1, vI x108), (2, vI x109), (3, vI x110), (5, vI x111)] [] γ (x343 γ x108 x109 x110 x111)) : ∀ (γ : St) (x93 : Int) (x94 : Int) (x95 : Int) (x96 : Int) (x97 : Int) (x98 : Int) (x99 : Int), i32 x93 → i32 x94 → i32 x95 → i32 x96 → i32 x97 → i32 x98 → i32 x99 → SB Γ BM mt_M_around (RmN 6 240) 0 0 (KN Γ BM mt_M_around.2.2.2) 320 [(0, vR Γ 0), (1, vI x93), (2, vI x94), (3, vI x95), (5, vI x96), (6, vI x97), (7, vI x98)] [vI x99, vR Γ 30] γ (f_M_around_b320 k187 x343 γ x93 x94 x95 x96 x97 x98 x99) := by
  intro γ x93 x94 x95 x96 x97 x98 x99 hx93 hx94 hx95 hx96 hx97 hx98 hx99
  unfold f_M_around_b320
  refine sb_aload_n 0 d_M_around_320 rfl ?_
  refine g_M_148 d_M_around_321 ?_
  refine sb_iload 4 d_M_around_324 rfl ?_
  refine al_M_30 d_M_around_326 (fun _ c101 => ?_)
  exact sb_lv [0, 1, 2, 3, 4, 5, 6] rfl (s_M_around_b327 hk187 hx343 γ x93 x94 x95 x96 x97 x98 (γ 30 x96) x99 hx93 hx94 hx95 hx96 hx97 hx98 c101 hx99)
set_option maxHeartbeats 4000000 in
theorem s_M_around_b267 {Γ : Ctx} {k187 : St → Int → Int → Int → Int → Int → Int → Option (Int × St)} {x343 : St → Int → Int → Int → Int → Option (Int × St)} (hk187 : ∀ (γ : St) (x128 : Int) (x129 : Int) (x130 : Int) (x131 : Int) (x132 : Int) (x133 : Int), i32 x128 → i32 x129 → i32 x130 → i32 x131 → i32 x132 → i32 x133 → SB Γ BM mt_M_around (RmN 6 240) 0 0 (KN Γ BM mt_M_around.2.2.2) 187 [(0, vR Γ 0), (1, vI x128), (2, vI x129), (3, vI x130), (5, vI x131), (6, vI x132), (7, vI x133)] [] γ (k187 γ x128 x129 x130 x131 x132 x133)) (hx343 : ∀ (γ : St) (x134 : Int) (x135 : Int) (x136 : Int) (x137 : Int), i32 x134 → i32 x135 → i32 x136 → i32 x137 → SB Γ BM mt_M_around (RmN 6 240) 0 0 (KN Γ BM mt_M_around.2.2.2) 343 [(0, vR Γ 0), (1, vI x134), (2, vI x135), (3, vI x136), (5, vI x137)] [] γ (x343 γ x134 x135 x136 x137)) : ∀ (γ : St) (x112 : Int) (x113 : Int) (x114 : Int) (x115 : Int) (x116 : Int) (x117 : Int) (x118 : Int) (x119 : Int), i32 x112 → i32 x113 → i32 x114 → i32 x115 → i32 x116 → i32 x117 → i32 x118 → i32 x119 → SB Γ BM mt_M_around (RmN 6 240) 0 0 (KN Γ BM mt_M_around.2.2.2) 267 [(0, vR Γ 0), (1, vI x112), (2, vI x113), (3, vI x114), (5, vI x115), (6, vI x116), (7, vI x117)] [vI x118, vI x119, vR Γ 29] γ (f_M_around_b267 k187 x343 γ x112 x113 x114 x115 x116 x117 x118 x119) := by
  intro γ x112 x113 x114 x115 x116 x117 x118 x119 hx112 hx113 hx114 hx115 hx116 hx117 hx118 hx119
  unfold f_M_around_b267
  refine as_M_29 hx118 d_M_around_267 (fun _ => ?_)
  refine sb_aps (fun γ120 => ?_)
  refine sb_aload_n 0 d_M_around_268 rfl ?_
  refine g_M_148 d_M_around_269 ?_
  refine sb_iload 6 d_M_around_272 rfl ?_
  refine sb_aload_n 0 d_M_around_274 rfl ?_
  refine g_M_112 d_M_around_275 ?_
  refine sb_iload 4 d_M_around_278 rfl ?_
  refine al_M_20 d_M_around_280 (fun _ c123 => ?_)
  refine sb_bipush d_M_around_281 (by decide) ?_
  refine sb_icmp_eq 315 c123 (by decide) d_M_around_283 (by decide) (fun _ => ?_) (fun _ => ?_)
  · exact sb_lv [0, 1, 2, 3, 4, 5, 6] rfl (s_M_around_b315 hk187 hx343 γ120 x112 x113 x114 x115 x116 x117 x117 hx112 hx113 hx114 hx115 hx116 hx117 hx117)
  · refine sb_aload_n 0 d_M_around_286 rfl ?_
    refine g_M_112 d_M_around_287 ?_
    refine sb_iload 4 d_M_around_290 rfl ?_
    refine al_M_20 d_M_around_292 (fun _ c125 => ?_)
    refine sb_iconst d_M_around_293 ?_
    refine sb_icmp_eq 315 c125 (by decide) d_M_around_294 (by decide) (fun _ => ?_) (fun _ => ?_)
    · exact sb_lv [0, 1, 2, 3, 4, 5, 6] rfl (s_M_around_b315 hk187 hx343 γ120 x112 x113 x114 x115 x116 x117 x117 hx112 hx113 hx114 hx115 hx116 hx117 hx117)
    · refine sb_aload_n 0 d_M_around_297 rfl ?_
      refine g_M_112 d_M_around_298 ?_
      refine sb_iload 4 d_M_around_301 rfl ?_
      refine al_M_20 d_M_around_303 (fun _ c127 => ?_)
      refine sb_bipush d_M_around_304 (by decide) ?_
      refine sb_icmp_ne 320 c127 (by decide) d_M_around_306 (by decide) (fun _ => ?_) (fun _ => ?_)
      · exact sb_lv [0, 1, 2, 3, 4, 5, 6] rfl (s_M_around_b320 hk187 hx343 γ120 x112 x113 x114 x115 x116 x117 x117 hx112 hx113 hx114 hx115 hx116 hx117 hx117)
      · refine sb_iload 5 d_M_around_309 rfl ?_
        refine sb_iconst d_M_around_311 ?_
        refine sb_icmp_ne 320 hx116 (by decide) d_M_around_312 (by decide) (fun _ => ?_) (fun _ => ?_)
        · exact sb_lv [0, 1, 2, 3, 4, 5, 6] rfl (s_M_around_b320 hk187 hx343 γ120 x112 x113 x114 x115 x116 x117 x117 hx112 hx113 hx114 hx115 hx116 hx117 hx117)
        · exact sb_lv [0, 1, 2, 3, 4, 5, 6] rfl (s_M_around_b315 hk187 hx343 γ120 x112 x113 x114 x115 x116 x117 x117 hx112 hx113 hx114 hx115 hx116 hx117 hx117)
set_option maxHeartbeats 4000000 in
theorem s_M_around_b235 {Γ : Ctx} {k187 : St → Int → Int → Int → Int → Int → Int → Option (Int × St)} {x343 : St → Int → Int → Int → Int → Option (Int × St)} (hk187 : ∀ (γ : St) (x150 : Int) (x151 : Int) (x152 : Int) (x153 : Int) (x154 : Int) (x155 : Int), i32 x150 → i32 x151 → i32 x152 → i32 x153 → i32 x154 → i32 x155 → SB Γ BM mt_M_around (RmN 6 240) 0 0 (KN Γ BM mt_M_around.2.2.2) 187 [(0, vR Γ 0), (1, vI x150), (2, vI x151), (3, vI x152), (5, vI x153), (6, vI x154), (7, vI x155)] [] γ (k187 γ x150 x151 x152 x153 x154 x155)) (hx343 : ∀ (γ : St) (x156 : Int) (x157 : Int) (x158 : Int) (x159 : Int), i32 x156 → i32 x157 → i32 x158 → i32 x159 → SB Γ BM mt_M_around (RmN 6 240) 0 0 (KN Γ BM mt_M_around.2.2.2) 343 [(0, vR Γ 0), (1, vI x156), (2, vI x157), (3, vI x158), (5, vI x159)] [] γ (x343 γ x156 x157 x158 x159)) : ∀ (γ : St) (x138 : Int) (x139 : Int) (x140 : Int) (x141 : Int) (x142 : Int) (x143 : Int) (x144 : Int), i32 x138 → i32 x139 → i32 x140 → i32 x141 → i32 x142 → i32 x143 → i32 x144 → SB Γ BM mt_M_around (RmN 6 240) 0 0 (KN Γ BM mt_M_around.2.2.2) 235 [(0, vR Γ 0), (1, vI x138), (2, vI x139), (3, vI x140), (5, vI x141), (6, vI x142), (7, vI x143)] [vI x144] γ (f_M_around_b235 k187 x343 γ x138 x139 x140 x141 x142 x143 x144) := by
  intro γ x138 x139 x140 x141 x142 x143 x144 hx138 hx139 hx140 hx141 hx142 hx143 hx144
  unfold f_M_around_b235
  refine sb_istore [(8, vI x144), (0, vR Γ 0), (1, vI x138), (2, vI x139), (3, vI x140), (5, vI x141), (6, vI x142), (7, vI x143)] d_M_around_235 (by decide) rfl ?_
  refine sb_aload_n 1 d_M_around_237 rfl ?_
  refine g_M_145 d_M_around_238 ?_
  refine sb_iload 7 d_M_around_241 rfl ?_
  refine sb_aload_n 1 d_M_around_243 rfl ?_
  refine g_M_124 d_M_around_244 ?_
  refine sb_iload 7 d_M_around_247 rfl ?_
  refine al_M_24 d_M_around_249 (fun _ c147 => ?_)
  refine sb_bipush d_M_around_250 (by decide) ?_
  refine sb_icmp_ne 260 c147 (by decide) d_M_around_252 (by decide) (fun _ => ?_) (fun _ => ?_)
  · refine sb_aload_n 1 d_M_around_260 rfl ?_
    refine g_M_124 d_M_around_261 ?_
    refine sb_iload 7 d_M_around_264 rfl ?_
    refine al_M_24 d_M_around_266 (fun _ c149 => ?_)
    exact sb_lv [1, 2, 3, 4, 5, 6, 7] rfl (s_M_around_b267 hk187 hx343 γ x138 x139 x140 x141 x142 x143 (γ 24 x143) x143 hx138 hx139 hx140 hx141 hx142 hx143 c149 hx143)
  · refine sb_iload 0 d_M_around_255 rfl ?_
    refine sb_goto 267 d_M_around_257 (by decide) ?_
    exact sb_lv [1, 2, 3, 4, 5, 6, 7] rfl (s_M_around_b267 hk187 hx343 γ x138 x139 x140 x141 x142 x143 x144 x143 hx138 hx139 hx140 hx141 hx142 hx143 hx144 hx143)
set_option maxHeartbeats 4000000 in
theorem s_M_around_L187 {Γ : Ctx} {x343 : St → Int → Int → Int → Int → Option (Int × St)} (hx343 : ∀ (γ : St) (x177 : Int) (x178 : Int) (x179 : Int) (x180 : Int), i32 x177 → i32 x178 → i32 x179 → i32 x180 → SB Γ BM mt_M_around (RmN 6 240) 0 0 (KN Γ BM mt_M_around.2.2.2) 343 [(0, vR Γ 0), (1, vI x177), (2, vI x178), (3, vI x179), (5, vI x180)] [] γ (x343 γ x177 x178 x179 x180)) : ∀ (n : Nat) (γ : St) (x160 : Int) (x161 : Int) (x162 : Int) (x163 : Int) (x164 : Int) (x165 : Int), i32 x160 → i32 x161 → i32 x162 → i32 x163 → i32 x164 → i32 x165 → SB Γ BM mt_M_around (RmN 6 240) 0 0 (KN Γ BM mt_M_around.2.2.2) 187 [(0, vR Γ 0), (1, vI x160), (2, vI x161), (3, vI x162), (5, vI x163), (6, vI x164), (7, vI x165)] [] γ (f_M_around_L187 x343 n γ x160 x161 x162 x163 x164 x165) := by
  intro n
  induction n with
  | zero => intros; exact sb_none
  | succ n ih =>
    intro γ x160 x161 x162 x163 x164 x165 hx160 hx161 hx162 hx163 hx164 hx165
    unfold f_M_around_L187
    refine sb_iload 6 d_M_around_187 rfl ?_
    refine sb_if_lt 343 hx165 d_M_around_189 (by decide) (fun _ => ?_) (fun _ => ?_)
    · exact sb_lv [0, 1, 2, 3, 4] rfl (hx343 γ x160 x161 x162 x163 hx160 hx161 hx162 hx163)
    · refine sb_aload_n 0 d_M_around_192 rfl ?_
      refine g_M_112 d_M_around_193 ?_
      refine sb_iload 4 d_M_around_196 rfl ?_
      refine al_M_20 d_M_around_198 (fun _ c167 => ?_)
      refine sb_bipush d_M_around_199 (by decide) ?_
      refine sb_icmp_ne 228 c167 (by decide) d_M_around_201 (by decide) (fun _ => ?_) (fun _ => ?_)
      · refine sb_aload_n 0 d_M_around_228 rfl ?_
        refine g_M_145 d_M_around_229 ?_
        refine sb_iload 4 d_M_around_232 rfl ?_
        refine al_M_29 d_M_around_234 (fun _ c169 => ?_)
        exact sb_lv [0, 1, 2, 3, 4, 5, 6] rfl (s_M_around_b235 ih hx343 γ x160 x161 x162 x163 x164 x165 (γ 29 x163) hx160 hx161 hx162 hx163 hx164 hx165 c169)
      · refine sb_aload_n 0 d_M_around_204 rfl ?_
        refine g_M_80 d_M_around_205 ?_
        refine sb_aload_n 0 d_M_around_208 rfl ?_
        refine g_M_50 d_M_around_209 ?_
        refine sb_iload_n 1 d_M_around_212 rfl ?_
        refine al_M_4 d_M_around_213 (fun _ c172 => ?_)
        refine sb_aload_n 0 d_M_around_214 rfl ?_
        refine g_M_115 d_M_around_215 ?_
        refine sb_iload 4 d_M_around_218 rfl ?_
        refine al_M_21 d_M_around_220 (fun _ c174 => ?_)
        refine sb_iconst d_M_around_221 ?_
        refine sb_idiv (by decide) d_M_around_222 (fun _ => ?_)
        refine sb_iadd d_M_around_223 ?_
        refine sb_chk (fun c175 => ?_)
        refine al_M_12 d_M_around_224 (fun _ c176 => ?_)
        refine sb_goto 235 d_M_around_225 (by decide) ?_
        exact sb_lv [0, 1, 2, 3, 4, 5, 6] rfl (s_M_around_b235 ih hx343 γ x160 x161 x162 x163 x164 x165 (γ 12 ((γ 4 x160) + (idiv (γ 21 x163) 2))) hx160 hx161 hx162 hx163 hx164 hx165 c176)
set_option maxHeartbeats 4000000 in
theorem s_M_around_L164 {Γ : Ctx} {x349 : St → Int → Int → Int → Option (Int × St)} (hx349 : ∀ (γ : St) (x190 : Int) (x191 : Int) (x192 : Int), i32 x190 → i32 x191 → i32 x192 → SB Γ BM mt_M_around (RmN 6 240) 0 0 (KN Γ BM mt_M_around.2.2.2) 349 [(0, vR Γ 0), (1, vI x190), (2, vI x191), (3, vI x192)] [] γ (x349 γ x190 x191 x192)) : ∀ (n : Nat) (γ : St) (x181 : Int) (x182 : Int) (x183 : Int) (x184 : Int), i32 x181 → i32 x182 → i32 x183 → i32 x184 → SB Γ BM mt_M_around (RmN 6 240) 0 0 (KN Γ BM mt_M_around.2.2.2) 164 [(0, vR Γ 0), (1, vI x181), (2, vI x182), (3, vI x183), (5, vI x184)] [] γ (f_M_around_L164 x349 n γ x181 x182 x183 x184) := by
  intro n
  induction n with
  | zero => intros; exact sb_none
  | succ n ih =>
    intro γ x181 x182 x183 x184 hx181 hx182 hx183 hx184
    unfold f_M_around_L164
    refine sb_iload 4 d_M_around_164 rfl ?_
    refine sb_aload_n 0 d_M_around_166 rfl ?_
    refine g_M_103 d_M_around_167 ?_
    refine sb_iload_n 2 d_M_around_170 rfl ?_
    refine al_M_19 d_M_around_171 (fun _ c186 => ?_)
    refine sb_icmp_lt 349 hx184 c186 d_M_around_172 (by decide) (fun _ => ?_) (fun _ => ?_)
    · exact sb_lv [0, 1, 2, 3] rfl (hx349 γ x181 x182 x183 hx181 hx182 hx183)
    · refine sb_iconst d_M_around_175 ?_
      refine sb_istore [(6, vI 0), (0, vR Γ 0), (1, vI x181), (2, vI x182), (3, vI x183), (5, vI x184)] d_M_around_176 (by decide) rfl ?_
      refine sb_aload_n 1 d_M_around_178 rfl ?_
      refine g_M_118 d_M_around_179 ?_
      refine sb_iload 5 d_M_around_182 rfl ?_
      refine al_M_22 d_M_around_184 (fun _ c188 => ?_)
      refine sb_istore [(7, vI (γ 22 x184)), (6, vI 0), (0, vR Γ 0), (1, vI x181), (2, vI x182), (3, vI x183), (5, vI x184)] d_M_around_185 (by decide) rfl ?_
      refine sb_nme (e := γ 22 x184) (fun x189 => [(7, vI x189), (6, vI 0), (0, vR Γ 0), (1, vI x181), (2, vI x182), (3, vI x183), (5, vI x184)]) c188 (fun x189 hx189 => ?_)
      exact sb_lv [2, 3, 4, 5, 6, 1, 0] rfl (s_M_around_L187 (s_M_around_b343 ih hx349) FU γ x181 x182 x183 x184 0 x189 hx181 hx182 hx183 hx184 (by decide) hx189)
set_option maxHeartbeats 4000000 in
theorem s_M_around_b153 {Γ : Ctx} {k7 : St → Int → Int → Option (Int × St)} (hk7 : ∀ (γ : St) (x201 : Int) (x202 : Int), i32 x201 → i32 x202 → SB Γ BM mt_M_around (RmN 6 240) 0 0 (KN Γ BM mt_M_around.2.2.2) 7 [(0, vR Γ 0), (1, vI x201), (2, vI x202)] [] γ (k7 γ x201 x202)) : ∀ (γ : St) (x193 : Int) (x194 : Int) (x195 : Int) (x196 : Int) (x197 : Int), i32 x193 → i32 x194 → i32 x195 → i32 x196 → i32 x197 → SB Γ BM mt_M_around (RmN 6 240) 0 0 (KN Γ BM mt_M_around.2.2.2) 153 [(0, vR Γ 0), (1, vI x193), (2, vI x194), (3, vI x195)] [vI x196, vI x197, vR Γ 29] γ (f_M_around_b153 k7 γ x193 x194 x195 x196 x197) := by
  intro γ x193 x194 x195 x196 x197 hx193 hx194 hx195 hx196 hx197
  unfold f_M_around_b153
  refine as_M_29 hx196 d_M_around_153 (fun _ => ?_)
  refine sb_aps (fun γ198 => ?_)
  refine sb_aload_n 0 d_M_around_154 rfl ?_
  refine g_M_148 d_M_around_155 ?_
  refine sb_iload_n 3 d_M_around_158 rfl ?_
  refine sb_iload_n 3 d_M_around_159 rfl ?_
  refine as_M_30 hx195 d_M_around_160 (fun _ => ?_)
  refine sb_aps (fun γ200 => ?_)
  refine sb_iload_n 3 d_M_around_161 rfl ?_
  refine sb_istore [(5, vI x195), (0, vR Γ 0), (1, vI x193), (2, vI x194), (3, vI x195)] d_M_around_162 (by decide) rfl ?_
  exact sb_lv [1, 2, 3, 4, 0] rfl (s_M_around_L164 (s_M_around_b349 hk7) FU γ200 x193 x194 x195 x195 hx193 hx194 hx195 hx195)
set_option maxHeartbeats 4000000 in
theorem s_M_around_b101 {Γ : Ctx} {k7 : St → Int → Int → Option (Int × St)} (hk7 : ∀ (γ : St) (x221 : Int) (x222 : Int), i32 x221 → i32 x222 → SB Γ BM mt_M_around (RmN 6 240) 0 0 (KN Γ BM mt_M_around.2.2.2) 7 [(0, vR Γ 0), (1, vI x221), (2, vI x222)] [] γ (k7 γ x221 x222)) : ∀ (γ : St) (x203 : Int) (x204 : Int) (x205 : Int), i32 x203 → i32 x204 → i32 x205 → SB Γ BM mt_M_around (RmN 6 240) 0 0 (KN Γ BM mt_M_around.2.2.2) 101 [(0, vR Γ 0), (1, vI x203), (2, vI x204), (3, vI x205)] [] γ (f_M_around_b101 k7 γ x203 x204 x205) := by
  intro γ x203 x204 x205 hx203 hx204 hx205
  unfold f_M_around_b101
  refine sb_aload_n 0 d_M_around_101 rfl ?_
  refine g_M_80 d_M_around_102 ?_
  refine sb_aload_n 0 d_M_around_105 rfl ?_
  refine g_M_50 d_M_around_106 ?_
  refine sb_iload_n 1 d_M_around_109 rfl ?_
  refine al_M_4 d_M_around_110 (fun _ c208 => ?_)
  refine sb_aload_n 0 d_M_around_111 rfl ?_
  refine g_M_100 d_M_around_112 ?_
  refine sb_aload_n 0 d_M_around_115 rfl ?_
  refine g_M_93 d_M_around_116 ?_
  refine sb_iload_n 2 d_M_around_119 rfl ?_
  refine al_M_16 d_M_around_120 (fun _ c211 => ?_)
  refine al_M_18 d_M_around_121 (fun _ c212 => ?_)
  refine sb_iadd d_M_around_122 ?_
  refine sb_chk (fun c213 => ?_)
  refine al_M_12 d_M_around_123 (fun _ c214 => ?_)
  refine sb_istore [(4, vI (γ 12 ((γ 4 x203) + (γ 18 (γ 16 x204))))), (0, vR Γ 0), (1, vI x203), (2, vI x204), (3, vI x205)] d_M_around_124 (by decide) rfl ?_
  refine sb_nme (e := γ 12 ((γ 4 x203) + (γ 18 (γ 16 x204)))) (fun x215 => [(4, vI x215), (0, vR Γ 0), (1, vI x203), (2, vI x204), (3, vI x205)]) c214 (fun x215 hx215 => ?_)
  refine sb_aload_n 1 d_M_around_126 rfl ?_
  refine g_M_145 d_M_around_127 ?_
  refine sb_iload_n 4 d_M_around_130 rfl ?_
  refine sb_aload_n 1 d_M_around_131 rfl ?_
  refine g_M_124 d_M_around_132 ?_
  refine sb_iload_n 4 d_M_around_135 rfl ?_
  refine al_M_24 d_M_around_136 (fun _ c218 => ?_)
  refine sb_bipush d_M_around_137 (by decide) ?_
  refine sb_icmp_ne 147 c218 (by decide) d_M_around_139 (by decide) (fun _ => ?_) (fun _ => ?_)
  · refine sb_aload_n 1 d_M_around_147 rfl ?_
    refine g_M_124 d_M_around_148 ?_
    refine sb_iload_n 4 d_M_around_151 rfl ?_
    refine al_M_24 d_M_around_152 (fun _ c220 => ?_)
    exact sb_lv [1, 2, 3, 4] rfl (s_M_around_b153 hk7 γ x203 x204 x205 (γ 24 x205) x205 hx203 hx204 hx205 c220 hx205)
  · refine sb_iload 0 d_M_around_142 rfl ?_
    refine sb_goto 153 d_M_around_144 (by decide) ?_
    exact sb_lv [1, 2, 3, 4] rfl (s_M_around_b153 hk7 γ x203 x204 x205 x215 x205 hx203 hx204 hx205 hx215 hx205)
set_option maxHeartbeats 4000000 in
theorem s_M_around_L34 {Γ : Ctx} {x101 : St → Int → Int → Int → Option (Int × St)} (hx101 : ∀ (γ : St) (x248 : Int) (x249 : Int) (x250 : Int), i32 x248 → i32 x249 → i32 x250 → SB Γ BM mt_M_around (RmN 6 240) 0 0 (KN Γ BM mt_M_around.2.2.2) 101 [(0, vR Γ 0), (1, vI x248), (2, vI x249), (3, vI x250)] [] γ (x101 γ x248 x249 x250)) : ∀ (n : Nat) (γ : St) (x223 : Int) (x224 : Int) (x225 : Int) (x226 : Int), i32 x223 → i32 x224 → i32 x225 → i32 x226 → SB Γ BM mt_M_around (RmN 6 240) 0 0 (KN Γ BM mt_M_around.2.2.2) 34 [(0, vR Γ 0), (1, vI x223), (2, vI x224), (3, vI x225), (4, vI x226)] [] γ (f_M_around_L34 x101 n γ x223 x224 x225 x226) := by
  intro n
  induction n with
  | zero => intros; exact sb_none
  | succ n ih =>
    intro γ x223 x224 x225 x226 hx223 hx224 hx225 hx226
    unfold f_M_around_L34
    refine sb_iload 4 d_M_around_34 rfl ?_
    refine sb_aload_n 0 d_M_around_36 rfl ?_
    refine g_M_93 d_M_around_37 ?_
    refine sb_iload_n 2 d_M_around_40 rfl ?_
    refine sb_iconst d_M_around_41 ?_
    refine sb_iadd d_M_around_42 ?_
    refine sb_chk (fun c228 => ?_)
    refine al_M_16 d_M_around_43 (fun _ c229 => ?_)
    refine sb_icmp_ge 101 hx226 c229 d_M_around_44 (by decide) (fun _ => ?_) (fun _ => ?_)
    · exact sb_lv [0, 1, 2, 3] rfl (hx101 γ x223 x224 x225 hx223 hx224 hx225)
    · refine sb_aload_n 0 d_M_around_47 rfl ?_
      refine g_M_154 d_M_around_48 ?_
      refine sb_aload_n 0 d_M_around_51 rfl ?_
      refine g_M_50 d_M_around_52 ?_
      refine sb_iload_n 1 d_M_around_55 rfl ?_
      refine al_M_4 d_M_around_56 (fun _ c232 => ?_)
      refine sb_aload_n 0 d_M_around_57 rfl ?_
      refine g_M_100 d_M_around_58 ?_
      refine sb_iload 4 d_M_around_61 rfl ?_
      refine al_M_18 d_M_around_63 (fun _ c234 => ?_)
      refine sb_iadd d_M_around_64 ?_
      refine sb_chk (fun c235 => ?_)
      refine sb_iload_n 2 d_M_around_65 rfl ?_
      refine as_M_32 hx224 d_M_around_66 (fun _ => ?_)
      refine sb_aps (fun γ236 => ?_)
      refine sb_aload_n 0 d_M_around_67 rfl ?_
      refine g_M_157 d_M_around_68 ?_
      refine sb_aload_n 0 d_M_around_71 rfl ?_
      refine g_M_50 d_M_around_72 ?_
      refine sb_iload_n 1 d_M_around_75 rfl ?_
      refine al_M_4 d_M_around_76 (fun _ c239 => ?_)
      refine sb_aload_n 0 d_M_around_77 rfl ?_
      refine g_M_100 d_M_around_78 ?_
      refine sb_iload 4 d_M_around_81 rfl ?_
      refine al_M_18 d_M_around_83 (fun _ c241 => ?_)
      refine sb_iadd d_M_around_84 ?_
      refine sb_chk (fun c242 => ?_)
      refine sb_iload 4 d_M_around_85 rfl ?_
      refine sb_aload_n 0 d_M_around_87 rfl ?_
      refine g_M_93 d_M_around_88 ?_
      refine sb_iload_n 2 d_M_around_91 rfl ?_
      refine al_M_16 d_M_around_92 (fun _ c244 => ?_)
      refine sb_isub d_M_around_93 ?_
      refine sb_chk (fun c245 => ?_)
      refine as_M_33 c245 d_M_around_94 (fun _ => ?_)
      refine sb_aps (fun γ246 => ?_)
      refine sb_iinc 4 [(4, vI (x226 + 1)), (0, vR Γ 0), (1, vI x223), (2, vI x224), (3, vI x225)] d_M_around_95 rfl (by decide) rfl ?_
      refine sb_chk (fun c247 => ?_)
      refine sb_goto 34 d_M_around_98 (by decide) ?_
      exact sb_lv [1, 2, 3, 4, 0] rfl (ih γ246 x223 x224 x225 (x226 + 1) hx223 hx224 hx225 c247)
set_option maxHeartbeats 4000000 in
theorem s_M_around_L7 {Γ : Ctx} : ∀ (n : Nat) (γ : St) (x251 : Int) (x252 : Int), i32 x251 → i32 x252 → SB Γ BM mt_M_around (RmN 6 240) 0 0 (KN Γ BM mt_M_around.2.2.2) 7 [(0, vR Γ 0), (1, vI x251), (2, vI x252)] [] γ (f_M_around_L7 n γ x251 x252) := by
  intro n
  induction n with
  | zero => intros; exact sb_none
  | succ n ih =>
    intro γ x251 x252 hx251 hx252
    unfold f_M_around_L7
    refine sb_iload_n 2 d_M_around_7 rfl ?_
    refine sb_aload_n 0 d_M_around_8 rfl ?_
    refine g_M_59 d_M_around_9 ?_
    refine sb_iload_n 1 d_M_around_12 rfl ?_
    refine sb_iconst d_M_around_13 ?_
    refine sb_iadd d_M_around_14 ?_
    refine sb_chk (fun c254 => ?_)
    refine al_M_7 d_M_around_15 (fun _ c255 => ?_)
    refine sb_icmp_ge 409 hx252 c255 d_M_around_16 (by decide) (fun _ => ?_) (fun _ => ?_)
    · exact sn_v rfl d_M_around_409
    · refine sb_aload_n 0 d_M_around_19 rfl ?_
      refine g_M_96 d_M_around_20 ?_
      refine sb_iload_n 2 d_M_around_23 rfl ?_
      refine al_M_17 d_M_around_24 (fun _ c257 => ?_)
      refine sb_istore_n [(3, vI (γ 17 x252)), (0, vR Γ 0), (1, vI x251), (2, vI x252)] d_M_around_25 (by decide) rfl ?_
      refine sb_nme (e := γ 17 x252) (fun x258 => [(3, vI x258), (0, vR Γ 0), (1, vI x251), (2, vI x252)]) c257 (fun x258 hx258 => ?_)
      refine sb_aload_n 1 d_M_around_26 rfl ?_
      refine g_M_93 d_M_around_27 ?_
      refine sb_iload_n 3 d_M_around_30 rfl ?_
      refine al_M_16 d_M_around_31 (fun _ c260 => ?_)
      refine sb_istore [(4, vI (γ 16 x252)), (3, vI x258), (0, vR Γ 0), (1, vI x251), (2, vI x252)] d_M_around_32 (by decide) rfl ?_
      refine sb_nme (e := γ 16 x252) (fun x261 => [(4, vI x261), (3, vI x258), (0, vR Γ 0), (1, vI x251), (2, vI x252)]) c260 (fun x261 hx261 => ?_)
      exact sb_lv [2, 3, 4, 1, 0] rfl (s_M_around_L34 (s_M_around_b101 ih) FU γ x251 x252 x258 x261 hx251 hx252 hx258 hx261)
set_option maxHeartbeats 4000000 in
theorem c_M_around {Γ : Ctx} (γ : St) (a0 : Int) (ha0 : i32 a0) : NC Γ BM y_M_around mt_M_around 6 240 [vR Γ 0, vI a0] γ (f_M_around γ a0) := by
  refine nc_of (by decide) rfl (Nat.le_of_ble_eq_true rfl) ?_
  show SB Γ BM mt_M_around (RmN 6 240) 0 0 (KN Γ BM mt_M_around.2.2.2) 0 [(0, vR Γ 0), (1, vI a0)] [] γ _
  unfold f_M_around
  refine sb_aload_n 0 d_M_around_0 rfl ?_
  refine g_M_59 d_M_around_1 ?_
  refine sb_iload_n 1 d_M_around_4 rfl ?_
  refine al_M_7 d_M_around_5 (fun _ c263 => ?_)
  refine sb_istore_n [(2, vI (γ 7 a0)), (0, vR Γ 0), (1, vI a0)] d_M_around_6 (by decide) rfl ?_
  refine sb_nme (e := γ 7 a0) (fun x264 => [(2, vI x264), (0, vR Γ 0), (1, vI a0)]) c263 (fun x264 hx264 => ?_)
  exact sb_lv [1, 2, 0] rfl (s_M_around_L7  FU γ a0 x264 ha0 hx264)
theorem d_M_countParts_0 : decode b_M_countParts 0 = .ok (.iconst 0, 1) := by decide +kernel
theorem d_M_countParts_1 : decode b_M_countParts 1 = .ok (.istore_n 2, 1) := by decide +kernel
theorem d_M_countParts_2 : decode b_M_countParts 2 = .ok (.aload_n 0, 1) := by decide +kernel
theorem d_M_countParts_3 : decode b_M_countParts 3 = .ok (.getfield 59, 3) := by decide +kernel
theorem d_M_countParts_6 : decode b_M_countParts 6 = .ok (.iload_n 1, 1) := by decide +kernel
theorem d_M_countParts_7 : decode b_M_countParts 7 = .ok (.iaload, 1) := by decide +kernel
theorem d_M_countParts_8 : decode b_M_countParts 8 = .ok (.istore_n 3, 1) := by decide +kernel
theorem d_M_countParts_9 : decode b_M_countParts 9 = .ok (.iload_n 3, 1) := by decide +kernel
theorem d_M_countParts_10 : decode b_M_countParts 10 = .ok (.aload_n 0, 1) := by decide +kernel
theorem d_M_countParts_11 : decode b_M_countParts 11 = .ok (.getfield 59, 3) := by decide +kernel
theorem d_M_countParts_14 : decode b_M_countParts 14 = .ok (.iload_n 1, 1) := by decide +kernel
theorem d_M_countParts_15 : decode b_M_countParts 15 = .ok (.iconst 1, 1) := by decide +kernel
theorem d_M_countParts_16 : decode b_M_countParts 16 = .ok (.iadd, 1) := by decide +kernel
theorem d_M_countParts_17 : decode b_M_countParts 17 = .ok (.iaload, 1) := by decide +kernel
theorem d_M_countParts_18 : decode b_M_countParts 18 = .ok (.if_icmp .ge 88, 3) := by decide +kernel
theorem d_M_countParts_21 : decode b_M_countParts 21 = .ok (.ldc_w 470, 3) := by decide +kernel
theorem d_M_countParts_24 : decode b_M_countParts 24 = .ok (.iload_n 2, 1) := by decide +kernel
theorem d_M_countParts_25 : decode b_M_countParts 25 = .ok (.iconst 1, 1) := by decide +kernel
theorem d_M_countParts_26 : decode b_M_countParts 26 = .ok (.iadd, 1) := by decide +kernel
theorem d_M_countParts_27 : decode b_M_countParts 27 = .ok (.aload_n 0, 1) := by decide +kernel
theorem d_M_countParts_28 : decode b_M_countParts 28 = .ok (.getfield 130, 3) := by decide +kernel
theorem d_M_countParts_31 : decode b_M_countParts 31 = .ok (.aload_n 0, 1) := by decide +kernel
theorem d_M_countParts_32 : decode b_M_countParts 32 = .ok (.getfield 96, 3) := by decide +kernel
theorem d_M_countParts_35 : decode b_M_countParts 35 = .ok (.iload_n 3, 1) := by decide +kernel
theorem d_M_countParts_36 : decode b_M_countParts 36 = .ok (.iaload, 1) := by decide +kernel
theorem d_M_countParts_37 : decode b_M_countParts 37 = .ok (.iaload, 1) := by decide +kernel
theorem d_M_countParts_38 : decode b_M_countParts 38 = .ok (.iadd, 1) := by decide +kernel
theorem d_M_countParts_39 : decode b_M_countParts 39 = .ok (.invokestatic 471, 3) := by decide +kernel
theorem d_M_countParts_42 : decode b_M_countParts 42 = .ok (.istore_n 2, 1) := by decide +kernel
theorem d_M_countParts_43 : decode b_M_countParts 43 = .ok (.aload_n 0, 1) := by decide +kernel
theorem d_M_countParts_44 : decode b_M_countParts 44 = .ok (.getfield 103, 3) := by decide +kernel
theorem d_M_countParts_47 : decode b_M_countParts 47 = .ok (.iload_n 3, 1) := by decide +kernel
theorem d_M_countParts_48 : decode b_M_countParts 48 = .ok (.iaload, 1) := by decide +kernel
theorem d_M_countParts_49 : decode b_M_countParts 49 = .ok (.istore 4, 2) := by decide +kernel
theorem d_M_countParts_51 : decode b_M_countParts 51 = .ok (.iload 4, 2) := by decide +kernel
theorem d_M_countParts_53 : decode b_M_countParts 53 = .ok (.aload_n 0, 1) := by decide +kernel
theorem d_M_countParts_54 : decode b_M_countParts 54 = .ok (.getfield 96, 3) := by decide +kernel
theorem d_M_countParts_57 : decode b_M_countParts 57 = .ok (.iload_n 3, 1) := by decide +kernel
theorem d_M_countParts_58 : decode b_M_countParts 58 = .ok (.iaload, 1) := by decide +kernel
theorem d_M_countParts_59 : decode b_M_countParts 59 = .ok (.if_icmp .gt 41, 3) := by decide +kernel
theorem d_M_countParts_62 : decode b_M_countParts 62 = .ok (.aload_n 0, 1) := by decide +kernel
theorem d_M_countParts_63 : decode b_M_countParts 63 = .ok (.getfield 112, 3) := by decide +kernel
theorem d_M_countParts_66 : decode b_M_countParts 66 = .ok (.iload 4, 2) := by decide +kernel
theorem d_M_countParts_68 : decode b_M_countParts 68 = .ok (.iaload, 1) := by decide +kernel
theorem d_M_countParts_69 : decode b_M_countParts 69 = .ok (.iconst 3, 1) := by decide +kernel
theorem d_M_countParts_70 : decode b_M_countParts 70 = .ok (.if_icmp .ne 24, 3) := by decide +kernel
theorem d_M_countParts_73 : decode b_M_countParts 73 = .ok (.ldc_w 470, 3) := by decide +kernel
theorem d_M_countParts_76 : decode b_M_countParts 76 = .ok (.iload_n 2, 1) := by decide +kernel
theorem d_M_countParts_77 : decode b_M_countParts 77 = .ok (.aload_n 0, 1) := by decide +kernel
theorem d_M_countParts_78 : decode b_M_countParts 78 = .ok (.getfield 160, 3) := by decide +kernel
theorem d_M_countParts_81 : decode b_M_countParts 81 = .ok (.aload_n 0, 1) := by decide +kernel
theorem d_M_countParts_82 : decode b_M_countParts 82 = .ok (.getfield 115, 3) := by decide +kernel
theorem d_M_countParts_85 : decode b_M_countParts 85 = .ok (.iload 4, 2) := by decide +kernel
theorem d_M_countParts_87 : decode b_M_countParts 87 = .ok (.iaload, 1) := by decide +kernel
theorem d_M_countParts_88 : decode b_M_countParts 88 = .ok (.iaload, 1) := by decide +kernel
theorem d_M_countParts_89 : decode b_M_countParts 89 = .ok (.iadd, 1) := by decide +kernel
theorem d_M_countParts_90 : decode b_M_countParts 90 = .ok (.invokestatic 471, 3) := by decide +kernel
theorem d_M_countParts_93 : decode b_M_countParts 93 = .ok (.istore_n 2, 1) := by decide +kernel
theorem d_M_countParts_94 : decode b_M_countParts 94 = .ok (.iinc 4 1, 3) := by decide +kernel
theorem d_M_countParts_97 : decode b_M_countParts 97 = .ok (.goto (-46), 3) := by decide +kernel
theorem d_M_countParts_100 : decode b_M_countParts 100 = .ok (.iinc 3 1, 3) := by decide +kernel
theorem d_M_countParts_103 : decode b_M_countParts 103 = .ok (.goto (-94), 3) := by decide +kernel
theorem d_M_countParts_106 : decode b_M_countParts 106 = .ok (.aload_n 0, 1) := by decide +kernel
theorem d_M_countParts_107 : decode b_M_countParts 107 = .ok (.getfield 160, 3) := by decide +kernel
theorem d_M_countParts_110 : decode b_M_countParts 110 = .ok (.iload_n 1, 1) := by decide +kernel
theorem d_M_countParts_111 : decode b_M_countParts 111 = .ok (.iload_n 2, 1) := by decide +kernel
theorem d_M_countParts_112 : decode b_M_countParts 112 = .ok (.iastore, 1) := by decide +kernel
theorem d_M_countParts_113 : decode b_M_countParts 113 = .ok (.return_, 1) := by decide +kernel
abbrev mt_M_countParts : MT := (R_M, b_M_countParts, 5, none)
theorem vf_M_countParts : VF y_M_countParts mt_M_countParts 12 1 := ⟨im_M_countParts, se_M_countParts, in_M, co_M_countParts, by decide +kernel, _, _, rfl⟩
def f_M_countParts_b106 (γ : St) (x1 : Int) (x2 : Int) : Option (Int × St) :=
  chk (inb x1 60) (ap (setA γ 34 x1 x2) fun γ4 =>
  some (0, γ4))
def f_M_countParts_b100 (k9 : St → Int → Int → Int → Option (Int × St)) (x106 : St → Int → Int → Option (Int × St)) (γ : St) (x5 : Int) (x6 : Int) (x7 : Int) : Option (Int × St) :=
  chk (i32 (x7 + 1)) (k9 γ x5 x6 (x7 + 1))
def f_M_countParts_b94 (k51 : St → Int → Int → Int → Int → Option (Int × St)) (x100 : St → Int → Int → Int → Option (Int × St)) (γ : St) (x14 : Int) (x15 : Int) (x16 : Int) (x17 : Int) : Option (Int × St) :=
  chk (i32 (x17 + 1)) (k51 γ x14 x15 x16 (x17 + 1))
def f_M_countParts_L51 (x100 : St → Int → Int → Int → Option (Int × St)) : Nat → St → Int → Int → Int → Int → Option (Int × St)
  | 0, _, _, _, _, _ => none
  | n + 1, γ, x26, x27, x28, x29 =>
  chk (inb x28 17000) (if (γ 17 x28) < x29 then
  (x100 γ x26 x27 x28)
  else
  (chk (inb x29 66000) (if (γ 20 x29) ≠ 3 then
  (f_M_countParts_b94 (f_M_countParts_L51 x100 n) x100 γ x26 x27 x28 x29)
  else
  (chk (inb x29 66000) (chk (inb (γ 21 x29) 60) (chk (i32 (x27 + (γ 34 (γ 21 x29)))) (ap (min 100000 (x27 + (γ 34 (γ 21 x29)))) fun x39 =>
  f_M_countParts_b94 (f_M_countParts_L51 x100 n) x100 γ x26 x39 x28 x29)))))))
def f_M_countParts_L9 (x106 : St → Int → Int → Option (Int × St)) : Nat → St → Int → Int → Int → Option (Int × St)
  | 0, _, _, _, _ => none
  | n + 1, γ, x43, x44, x45 =>
  chk (i32 (x43 + 1)) (chk (inb (x43 + 1) 61) (if (γ 7 (x43 + 1)) ≤ x45 then
  (x106 γ x43 x44)
  else
  (chk (i32 (x44 + 1)) (chk (inb x45 17000) (chk (inb (γ 17 x45) 66000) (chk (i32 ((x44 + 1) + (γ 26 (γ 17 x45)))) (ap (min 100000 ((x44 + 1) + (γ 26 (γ 17 x45)))) fun x55 =>
  chk (inb x45 17000) (ap (γ 19 x45) fun x58 =>
  f_M_countParts_L51 (f_M_countParts_b100 (f_M_countParts_L9 x106 n) x106) FU γ x43 x55 x45 x58))))))))
def f_M_countParts (γ : St) (a0 : Int) : Option (Int × St) :=
  chk (inb a0 61) (ap (γ 7 a0) fun x63 =>
  f_M_countParts_L9 (f_M_countParts_b106) FU γ a0 0 x63)
set_option maxHeartbeats 4000000 in
theorem s_M_countParts_b106 {Γ : Ctx} : ∀ (γ : St) (x1 : Int) (x2 : Int), i32 x1 → i32 x2 → SB Γ BM mt_M_countParts (RmN 6 240) 0 0 (KN Γ BM mt_M_countParts.2.2.2) 106 [(0, vR Γ 0), (1, vI x1), (2, vI x2)] [] γ (f_M_countParts_b106 γ x1 x2) := by
  intro γ x1 x2 hx1 hx2
  unfold f_M_countParts_b106
  refine sb_aload_n 0 d_M_countParts_106 rfl ?_
  refine g_M_160 d_M_countParts_107 ?_
  refine sb_iload_n 1 d_M_countParts_110 rfl ?_
  refine sb_iload_n 2 d_M_countParts_111 rfl ?_
  refine as_M_34 hx2 d_M_countParts_112 (fun _ => ?_)
  refine sb_aps (fun γ4 => ?_)
  exact sn_v rfl d_M_countParts_113
set_option maxHeartbeats 4000000 in
theorem s_M_countParts_b100 {Γ : Ctx} {k9 : St → Int → Int → Int → Option (Int × St)} {x106 : St → Int → Int → Option (Int × St)} (hk9 : ∀ (γ : St) (x9 : Int) (x10 : Int) (x11 : Int), i32 x9 → i32 x10 → i32 x11 → SB Γ BM mt_M_countParts (RmN 6 240) 0 0 (KN Γ BM mt_M_countParts.2.2.2) 9 [(0, vR Γ 0), (1, vI x9), (2, vI x10), (3, vI x11)] [] γ (k9 γ x9 x10 x11)) (hx106 : ∀ (γ : St) (x12 : Int) (x13 : Int), i32 x12 → i32 x13 → SB Γ BM mt_M_countParts (RmN 6 240) 0 0 (KN Γ BM mt_M_countParts.2.2.2) 106 [(0, vR Γ 0), (1, vI x12), (2, vI x13)] [] γ (x106 γ x12 x13)) : ∀ (γ : St) (x5 : Int) (x6 : Int) (x7 : Int), i32 x5 → i32 x6 → i32 x7 → SB Γ BM mt_M_countParts (RmN 6 240) 0 0 (KN Γ BM mt_M_countParts.2.2.2) 100 [(0, vR Γ 0), (1, vI x5), (2, vI x6), (3, vI x7)] [] γ (f_M_countParts_b100 k9 x106 γ x5 x6 x7) := by
  intro γ x5 x6 x7 hx5 hx6 hx7
  unfold f_M_countParts_b100
  refine sb_iinc 3 [(3, vI (x7 + 1)), (0, vR Γ 0), (1, vI x5), (2, vI x6)] d_M_countParts_100 rfl (by decide) rfl ?_
  refine sb_chk (fun c8 => ?_)
  refine sb_goto 9 d_M_countParts_103 (by decide) ?_
  exact sb_lv [1, 2, 3, 0] rfl (hk9 γ x5 x6 (x7 + 1) hx5 hx6 c8)
set_option maxHeartbeats 4000000 in
theorem s_M_countParts_b94 {Γ : Ctx} {k51 : St → Int → Int → Int → Int → Option (Int × St)} {x100 : St → Int → Int → Int → Option (Int × St)} (hk51 : ∀ (γ : St) (x19 : Int) (x20 : Int) (x21 : Int) (x22 : Int), i32 x19 → i32 x20 → i32 x21 → i32 x22 → SB Γ BM mt_M_countParts (RmN 6 240) 0 0 (KN Γ BM mt_M_countParts.2.2.2) 51 [(0, vR Γ 0), (1, vI x19), (2, vI x20), (3, vI x21), (4, vI x22)] [] γ (k51 γ x19 x20 x21 x22)) (hx100 : ∀ (γ : St) (x23 : Int) (x24 : Int) (x25 : Int), i32 x23 → i32 x24 → i32 x25 → SB Γ BM mt_M_countParts (RmN 6 240) 0 0 (KN Γ BM mt_M_countParts.2.2.2) 100 [(0, vR Γ 0), (1, vI x23), (2, vI x24), (3, vI x25)] [] γ (x100 γ x23 x24 x25)) : ∀ (γ : St) (x14 : Int) (x15 : Int) (x16 : Int) (x17 : Int), i32 x14 → i32 x15 → i32 x16 → i32 x17 → SB Γ BM mt_M_countParts (RmN 6 240) 0 0 (KN Γ BM mt_M_countParts.2.2.2) 94 [(0, vR Γ 0), (1, vI x14), (2, vI x15), (3, vI x16), (4, vI x17)] [] γ (f_M_countParts_b94 k51 x100 γ x14 x15 x16 x17) := by
  intro γ x14 x15 x16 x17 hx14 hx15 hx16 hx17
  unfold f_M_countParts_b94
  refine sb_iinc 4 [(4, vI (x17 + 1)), (0, vR Γ 0), (1, vI x14), (2, vI x15), (3, vI x16)] d_M_countParts_94 rfl (by decide) rfl ?_
  refine sb_chk (fun c18 => ?_)
  refine sb_goto 51 d_M_countParts_97 (by decide) ?_
  exact sb_lv [1, 2, 3, 4, 0] rfl (hk51 γ x14 x15 x16 (x17 + 1) hx14 hx15 hx16 c18)
set_option maxHeartbeats 4000000 in
theorem s_M_countParts_L51 {Γ : Ctx} {x100 : St → Int → Int → Int → Option (Int × St)} (hx100 : ∀ (γ : St) (x40 : Int) (x41 : Int) (x42 : Int), i32 x40 → i32 x41 → i32 x42 → SB Γ BM mt_M_countParts (RmN 6 240) 0 0 (KN Γ BM mt_M_countParts.2.2.2) 100 [(0, vR Γ 0), (1, vI x40), (2, vI x41), (3, vI x42)] [] γ (x100 γ x40 x41 x42)) : ∀ (n : Nat) (γ : St) (x26 : Int) (x27 : Int) (x28 : Int) (x29 : Int), i32 x26 → i32 x27 → i32 x28 → i32 x29 → SB Γ BM mt_M_countParts (RmN 6 240) 0 0 (KN Γ BM mt_M_countParts.2.2.2) 51 [(0, vR Γ 0), (1, vI x26), (2, vI x27), (3, vI x28), (4, vI x29)] [] γ (f_M_countParts_L51 x100 n γ x26 x27 x28 x29) := by
  intro n
  induction n with
  | zero => intros; exact sb_none
  | succ n ih =>
    intro γ x26 x27 x28 x29 hx26 hx27 hx28 hx29
    unfold f_M_countParts_L51
    refine sb_iload 4 d_M_countParts_51 rfl ?_
    refine sb_aload_n 0 d_M_countParts_53 rfl ?_
    refine g_M_96 d_M_countParts_54 ?_
    refine sb_iload_n 3 d_M_countParts_57 rfl ?_
    refine al_M_17 d_M_countParts_58 (fun _ c31 => ?_)
    refine sb_icmp_gt 100 hx29 c31 d_M_countParts_59 (by decide) (fun _ => ?_) (fun _ => ?_)
    · exact sb_lv [0, 1, 2, 3] rfl (hx100 γ x26 x27 x28 hx26 hx27 hx28)
    · refine sb_aload_n 0 d_M_countParts_62 rfl ?_
      refine g_M_112 d_M_countParts_63 ?_
      refine sb_iload 4 d_M_countParts_66 rfl ?_
      refine al_M_20 d_M_countParts_68 (fun _ c33 => ?_)
      refine sb_iconst d_M_countParts_69 ?_
      refine sb_icmp_ne 94 c33 (by decide) d_M_countParts_70 (by decide) (fun _ => ?_) (fun _ => ?_)
      · exact sb_lv [0, 1, 2, 3, 4] rfl (s_M_countParts_b94 ih hx100 γ x26 x27 x28 x29 hx26 hx27 hx28 hx29)
      · refine sb_ldcw 100000 (by decide) ct_M_470 d_M_countParts_73 ?_
        refine sb_iload_n 2 d_M_countParts_76 rfl ?_
        refine sb_aload_n 0 d_M_countParts_77 rfl ?_
        refine g_M_160 d_M_countParts_78 ?_
        refine sb_aload_n 0 d_M_countParts_81 rfl ?_
        refine g_M_115 d_M_countParts_82 ?_
        refine sb_iload 4 d_M_countParts_85 rfl ?_
        refine al_M_21 d_M_countParts_87 (fun _ c36 => ?_)
        refine al_M_34 d_M_countParts_88 (fun _ c37 => ?_)
        refine sb_iadd d_M_countParts_89 ?_
        refine sb_chk (fun c38 => ?_)
        refine sb_mmin (by decide) c38 ml_M_471 sm_java_lang_Math_min in_java_lang_Math co_java_lang_Math_min ⟨by first | decide | (simp only [RmT, RmN]; omega), by first | exact Nat.le_of_ble_eq_true rfl | (simp [RmT, RmN, Value.category] <;> omega)⟩ d_M_countParts_90 ?_
        refine sb_istore_n [(2, vI (min 100000 (x27 + (γ 34 (γ 21 x29))))), (0, vR Γ 0), (1, vI x26), (3, vI x28), (4, vI x29)] d_M_countParts_93 (by decide) rfl ?_
        refine sb_nme (e := min 100000 (x27 + (γ 34 (γ 21 x29)))) (fun x39 => [(2, vI x39), (0, vR Γ 0), (1, vI x26), (3, vI x28), (4, vI x29)]) ((mm_b (by decide) c38).2) (fun x39 hx39 => ?_)
        exact sb_lv [1, 2, 0, 3, 4] rfl (s_M_countParts_b94 ih hx100 γ x26 x39 x28 x29 hx26 hx39 hx28 hx29)
set_option maxHeartbeats 4000000 in
theorem s_M_countParts_L9 {Γ : Ctx} {x106 : St → Int → Int → Option (Int × St)} (hx106 : ∀ (γ : St) (x59 : Int) (x60 : Int), i32 x59 → i32 x60 → SB Γ BM mt_M_countParts (RmN 6 240) 0 0 (KN Γ BM mt_M_countParts.2.2.2) 106 [(0, vR Γ 0), (1, vI x59), (2, vI x60)] [] γ (x106 γ x59 x60)) : ∀ (n : Nat) (γ : St) (x43 : Int) (x44 : Int) (x45 : Int), i32 x43 → i32 x44 → i32 x45 → SB Γ BM mt_M_countParts (RmN 6 240) 0 0 (KN Γ BM mt_M_countParts.2.2.2) 9 [(0, vR Γ 0), (1, vI x43), (2, vI x44), (3, vI x45)] [] γ (f_M_countParts_L9 x106 n γ x43 x44 x45) := by
  intro n
  induction n with
  | zero => intros; exact sb_none
  | succ n ih =>
    intro γ x43 x44 x45 hx43 hx44 hx45
    unfold f_M_countParts_L9
    refine sb_iload_n 3 d_M_countParts_9 rfl ?_
    refine sb_aload_n 0 d_M_countParts_10 rfl ?_
    refine g_M_59 d_M_countParts_11 ?_
    refine sb_iload_n 1 d_M_countParts_14 rfl ?_
    refine sb_iconst d_M_countParts_15 ?_
    refine sb_iadd d_M_countParts_16 ?_
    refine sb_chk (fun c47 => ?_)
    refine al_M_7 d_M_countParts_17 (fun _ c48 => ?_)
    refine sb_icmp_ge 106 hx45 c48 d_M_countParts_18 (by decide) (fun _ => ?_) (fun _ => ?_)
    · exact sb_lv [0, 1, 2] rfl (hx106 γ x43 x44 hx43 hx44)
    · refine sb_ldcw 100000 (by decide) ct_M_470 d_M_countParts_21 ?_
      refine sb_iload_n 2 d_M_countParts_24 rfl ?_
      refine sb_iconst d_M_countParts_25 ?_
      refine sb_iadd d_M_countParts_26 ?_
      refine sb_chk (fun c49 => ?_)
      refine sb_aload_n 0 d_M_countParts_27 rfl ?_
      refine g_M_130 d_M_countParts_28 ?_
      refine sb_aload_n 0 d_M_countParts_31 rfl ?_
      refine g_M_96 d_M_countParts_32 ?_
      refine sb_iload_n 3 d_M_countParts_35 rfl ?_
      refine al_M_17 d_M_countParts_36 (fun _ c52 => ?_)
      refine al_M_26 d_M_countParts_37 (fun _ c53 => ?_)
      refine sb_iadd d_M_countParts_38 ?_
      refine sb_chk (fun c54 => ?_)
      refine sb_mmin (by decide) c54 ml_M_471 sm_java_lang_Math_min in_java_lang_Math co_java_lang_Math_min ⟨by first | decide | (simp only [RmT, RmN]; omega), by first | exact Nat.le_of_ble_eq_true rfl | (simp [RmT, RmN, Value.category] <;> omega)⟩ d_M_countParts_39 ?_
      refine sb_istore_n [(2, vI (min 100000 ((x44 + 1) + (γ 26 (γ 17 x45))))), (0, vR Γ 0), (1, vI x43), (3, vI x45)] d_M_countParts_42 (by decide) rfl ?_
      refine sb_nme (e := min 100000 ((x44 + 1) + (γ 26 (γ 17 x45)))) (fun x55 => [(2, vI x55), (0, vR Γ 0), (1, vI x43), (3, vI x45)]) ((mm_b (by decide) c54).2) (fun x55 hx55 => ?_)
      refine sb_aload_n 1 d_M_countParts_43 rfl ?_
      refine g_M_103 d_M_countParts_44 ?_
      refine sb_iload_n 3 d_M_countParts_47 rfl ?_
      refine al_M_19 d_M_countParts_48 (fun _ c57 => ?_)
      refine sb_istore [(4, vI (γ 19 x45)), (2, vI x55), (0, vR Γ 0), (1, vI x43), (3, vI x45)] d_M_countParts_49 (by decide) rfl ?_
      refine sb_nme (e := γ 19 x45) (fun x58 => [(4, vI x58), (2, vI x55), (0, vR Γ 0), (1, vI x43), (3, vI x45)]) c57 (fun x58 hx58 => ?_)
      exact sb_lv [2, 3, 1, 4, 0] rfl (s_M_countParts_L51 (s_M_countParts_b100 ih hx106) FU γ x43 x55 x45 x58 hx43 hx55 hx45 hx58)
set_option maxHeartbeats 4000000 in
theorem c_M_countParts {Γ : Ctx} (γ : St) (a0 : Int) (ha0 : i32 a0) : NC Γ BM y_M_countParts mt_M_countParts 6 240 [vR Γ 0, vI a0] γ (f_M_countParts γ a0) := by
  refine nc_of (by decide) rfl (Nat.le_of_ble_eq_true rfl) ?_
  show SB Γ BM mt_M_countParts (RmN 6 240) 0 0 (KN Γ BM mt_M_countParts.2.2.2) 0 [(0, vR Γ 0), (1, vI a0)] [] γ _
  unfold f_M_countParts
  refine sb_iconst d_M_countParts_0 ?_
  refine sb_istore_n [(2, vI 0), (0, vR Γ 0), (1, vI a0)] d_M_countParts_1 (by decide) rfl ?_
  refine sb_aload_n 1 d_M_countParts_2 rfl ?_
  refine g_M_59 d_M_countParts_3 ?_
  refine sb_iload_n 2 d_M_countParts_6 rfl ?_
  refine al_M_7 d_M_countParts_7 (fun _ c62 => ?_)
  refine sb_istore_n [(3, vI (γ 7 a0)), (2, vI 0), (0, vR Γ 0), (1, vI a0)] d_M_countParts_8 (by decide) rfl ?_
  refine sb_nme (e := γ 7 a0) (fun x63 => [(3, vI x63), (2, vI 0), (0, vR Γ 0), (1, vI a0)]) c62 (fun x63 hx63 => ?_)
  exact sb_lv [2, 3, 1, 0] rfl (s_M_countParts_L9 (s_M_countParts_b106) FU γ a0 0 x63 ha0 (by decide) hx63)
theorem d_M_putIn_0 : decode b_M_putIn 0 = .ok (.aload_n 0, 1) := by decide +kernel
theorem d_M_putIn_1 : decode b_M_putIn 1 = .ok (.dup, 1) := by decide +kernel
theorem d_M_putIn_2 : decode b_M_putIn 2 = .ok (.getfield 166, 3) := by decide +kernel
theorem d_M_putIn_5 : decode b_M_putIn 5 = .ok (.dup_x1, 1) := by decide +kernel
theorem d_M_putIn_6 : decode b_M_putIn 6 = .ok (.iconst 1, 1) := by decide +kernel
theorem d_M_putIn_7 : decode b_M_putIn 7 = .ok (.iadd, 1) := by decide +kernel
theorem d_M_putIn_8 : decode b_M_putIn 8 = .ok (.putfield 166, 3) := by decide +kernel
theorem d_M_putIn_11 : decode b_M_putIn 11 = .ok (.istore 4, 2) := by decide +kernel
theorem d_M_putIn_13 : decode b_M_putIn 13 = .ok (.aload_n 0, 1) := by decide +kernel
theorem d_M_putIn_14 : decode b_M_putIn 14 = .ok (.getfield 184, 3) := by decide +kernel
theorem d_M_putIn_17 : decode b_M_putIn 17 = .ok (.iload 4, 2) := by decide +kernel
theorem d_M_putIn_19 : decode b_M_putIn 19 = .ok (.iload_n 1, 1) := by decide +kernel
theorem d_M_putIn_20 : decode b_M_putIn 20 = .ok (.iastore, 1) := by decide +kernel
theorem d_M_putIn_21 : decode b_M_putIn 21 = .ok (.aload_n 0, 1) := by decide +kernel
theorem d_M_putIn_22 : decode b_M_putIn 22 = .ok (.getfield 187, 3) := by decide +kernel
theorem d_M_putIn_25 : decode b_M_putIn 25 = .ok (.iload 4, 2) := by decide +kernel
theorem d_M_putIn_27 : decode b_M_putIn 27 = .ok (.iload_n 2, 1) := by decide +kernel
theorem d_M_putIn_28 : decode b_M_putIn 28 = .ok (.iastore, 1) := by decide +kernel
theorem d_M_putIn_29 : decode b_M_putIn 29 = .ok (.aload_n 0, 1) := by decide +kernel
theorem d_M_putIn_30 : decode b_M_putIn 30 = .ok (.getfield 190, 3) := by decide +kernel
theorem d_M_putIn_33 : decode b_M_putIn 33 = .ok (.iload 4, 2) := by decide +kernel
theorem d_M_putIn_35 : decode b_M_putIn 35 = .ok (.iload_n 3, 1) := by decide +kernel
theorem d_M_putIn_36 : decode b_M_putIn 36 = .ok (.iastore, 1) := by decide +kernel
theorem d_M_putIn_37 : decode b_M_putIn 37 = .ok (.aload_n 0, 1) := by decide +kernel
theorem d_M_putIn_38 : decode b_M_putIn 38 = .ok (.getfield 193, 3) := by decide +kernel
theorem d_M_putIn_41 : decode b_M_putIn 41 = .ok (.iload 4, 2) := by decide +kernel
theorem d_M_putIn_43 : decode b_M_putIn 43 = .ok (.aload_n 0, 1) := by decide +kernel
theorem d_M_putIn_44 : decode b_M_putIn 44 = .ok (.getfield 169, 3) := by decide +kernel
theorem d_M_putIn_47 : decode b_M_putIn 47 = .ok (.iastore, 1) := by decide +kernel
theorem d_M_putIn_48 : decode b_M_putIn 48 = .ok (.aload_n 0, 1) := by decide +kernel
theorem d_M_putIn_49 : decode b_M_putIn 49 = .ok (.getfield 196, 3) := by decide +kernel
theorem d_M_putIn_52 : decode b_M_putIn 52 = .ok (.iload 4, 2) := by decide +kernel
theorem d_M_putIn_54 : decode b_M_putIn 54 = .ok (.aload_n 0, 1) := by decide +kernel
theorem d_M_putIn_55 : decode b_M_putIn 55 = .ok (.getfield 172, 3) := by decide +kernel
theorem d_M_putIn_58 : decode b_M_putIn 58 = .ok (.iastore, 1) := by decide +kernel
theorem d_M_putIn_59 : decode b_M_putIn 59 = .ok (.aload_n 0, 1) := by decide +kernel
theorem d_M_putIn_60 : decode b_M_putIn 60 = .ok (.getfield 199, 3) := by decide +kernel
theorem d_M_putIn_63 : decode b_M_putIn 63 = .ok (.iload 4, 2) := by decide +kernel
theorem d_M_putIn_65 : decode b_M_putIn 65 = .ok (.aload_n 0, 1) := by decide +kernel
theorem d_M_putIn_66 : decode b_M_putIn 66 = .ok (.getfield 178, 3) := by decide +kernel
theorem d_M_putIn_69 : decode b_M_putIn 69 = .ok (.iastore, 1) := by decide +kernel
theorem d_M_putIn_70 : decode b_M_putIn 70 = .ok (.aload_n 0, 1) := by decide +kernel
theorem d_M_putIn_71 : decode b_M_putIn 71 = .ok (.dup, 1) := by decide +kernel
theorem d_M_putIn_72 : decode b_M_putIn 72 = .ok (.getfield 172, 3) := by decide +kernel
theorem d_M_putIn_75 : decode b_M_putIn 75 = .ok (.aload_n 0, 1) := by decide +kernel
theorem d_M_putIn_76 : decode b_M_putIn 76 = .ok (.getfield 65, 3) := by decide +kernel
theorem d_M_putIn_79 : decode b_M_putIn 79 = .ok (.iload_n 1, 1) := by decide +kernel
theorem d_M_putIn_80 : decode b_M_putIn 80 = .ok (.iaload, 1) := by decide +kernel
theorem d_M_putIn_81 : decode b_M_putIn 81 = .ok (.iadd, 1) := by decide +kernel
theorem d_M_putIn_82 : decode b_M_putIn 82 = .ok (.putfield 172, 3) := by decide +kernel
theorem d_M_putIn_85 : decode b_M_putIn 85 = .ok (.aload_n 0, 1) := by decide +kernel
theorem d_M_putIn_86 : decode b_M_putIn 86 = .ok (.dup, 1) := by decide +kernel
theorem d_M_putIn_87 : decode b_M_putIn 87 = .ok (.getfield 178, 3) := by decide +kernel
theorem d_M_putIn_90 : decode b_M_putIn 90 = .ok (.aload_n 0, 1) := by decide +kernel
theorem d_M_putIn_91 : decode b_M_putIn 91 = .ok (.getfield 62, 3) := by decide +kernel
theorem d_M_putIn_94 : decode b_M_putIn 94 = .ok (.iload_n 1, 1) := by decide +kernel
theorem d_M_putIn_95 : decode b_M_putIn 95 = .ok (.iaload, 1) := by decide +kernel
theorem d_M_putIn_96 : decode b_M_putIn 96 = .ok (.iadd, 1) := by decide +kernel
theorem d_M_putIn_97 : decode b_M_putIn 97 = .ok (.putfield 178, 3) := by decide +kernel
theorem d_M_putIn_100 : decode b_M_putIn 100 = .ok (.aload_n 0, 1) := by decide +kernel
theorem d_M_putIn_101 : decode b_M_putIn 101 = .ok (.getfield 169, 3) := by decide +kernel
theorem d_M_putIn_104 : decode b_M_putIn 104 = .ok (.aload_n 0, 1) := by decide +kernel
theorem d_M_putIn_105 : decode b_M_putIn 105 = .ok (.getfield 50, 3) := by decide +kernel
theorem d_M_putIn_108 : decode b_M_putIn 108 = .ok (.iload_n 1, 1) := by decide +kernel
theorem d_M_putIn_109 : decode b_M_putIn 109 = .ok (.iconst 1, 1) := by decide +kernel
theorem d_M_putIn_110 : decode b_M_putIn 110 = .ok (.iadd, 1) := by decide +kernel
theorem d_M_putIn_111 : decode b_M_putIn 111 = .ok (.iaload, 1) := by decide +kernel
theorem d_M_putIn_112 : decode b_M_putIn 112 = .ok (.iadd, 1) := by decide +kernel
theorem d_M_putIn_113 : decode b_M_putIn 113 = .ok (.aload_n 0, 1) := by decide +kernel
theorem d_M_putIn_114 : decode b_M_putIn 114 = .ok (.getfield 50, 3) := by decide +kernel
theorem d_M_putIn_117 : decode b_M_putIn 117 = .ok (.iload_n 1, 1) := by decide +kernel
theorem d_M_putIn_118 : decode b_M_putIn 118 = .ok (.iaload, 1) := by decide +kernel
theorem d_M_putIn_119 : decode b_M_putIn 119 = .ok (.isub, 1) := by decide +kernel
theorem d_M_putIn_120 : decode b_M_putIn 120 = .ok (.sipush 6000, 3) := by decide +kernel
theorem d_M_putIn_123 : decode b_M_putIn 123 = .ok (.if_icmp .le 16, 3) := by decide +kernel
theorem d_M_putIn_126 : decode b_M_putIn 126 = .ok (.new 296, 3) := by decide +kernel
theorem d_M_putIn_129 : decode b_M_putIn 129 = .ok (.dup, 1) := by decide +kernel
theorem d_M_putIn_130 : decode b_M_putIn 130 = .ok (.iconst 3, 1) := by decide +kernel
theorem d_M_putIn_131 : decode b_M_putIn 131 = .ok (.aload_n 0, 1) := by decide +kernel
theorem d_M_putIn_132 : decode b_M_putIn 132 = .ok (.getfield 14, 3) := by decide +kernel
theorem d_M_putIn_135 : decode b_M_putIn 135 = .ok (.invokespecial 298, 3) := by decide +kernel
theorem d_M_putIn_138 : decode b_M_putIn 138 = .ok (.athrow, 1) := by decide +kernel
theorem d_M_putIn_139 : decode b_M_putIn 139 = .ok (.aload_n 0, 1) := by decide +kernel
theorem d_M_putIn_140 : decode b_M_putIn 140 = .ok (.getfield 50, 3) := by decide +kernel
theorem d_M_putIn_143 : decode b_M_putIn 143 = .ok (.iload_n 1, 1) := by decide +kernel
theorem d_M_putIn_144 : decode b_M_putIn 144 = .ok (.iaload, 1) := by decide +kernel
theorem d_M_putIn_145 : decode b_M_putIn 145 = .ok (.istore 5, 2) := by decide +kernel
theorem d_M_putIn_147 : decode b_M_putIn 147 = .ok (.iload 5, 2) := by decide +kernel
theorem d_M_putIn_149 : decode b_M_putIn 149 = .ok (.aload_n 0, 1) := by decide +kernel
theorem d_M_putIn_150 : decode b_M_putIn 150 = .ok (.getfield 50, 3) := by decide +kernel
theorem d_M_putIn_153 : decode b_M_putIn 153 = .ok (.iload_n 1, 1) := by decide +kernel
theorem d_M_putIn_154 : decode b_M_putIn 154 = .ok (.iconst 1, 1) := by decide +kernel
theorem d_M_putIn_155 : decode b_M_putIn 155 = .ok (.iadd, 1) := by decide +kernel
theorem d_M_putIn_156 : decode b_M_putIn 156 = .ok (.iaload, 1) := by decide +kernel
theorem d_M_putIn_157 : decode b_M_putIn 157 = .ok (.if_icmp .ge 45, 3) := by decide +kernel
theorem d_M_putIn_160 : decode b_M_putIn 160 = .ok (.aload_n 0, 1) := by decide +kernel
theorem d_M_putIn_161 : decode b_M_putIn 161 = .ok (.getfield 205, 3) := by decide +kernel
theorem d_M_putIn_164 : decode b_M_putIn 164 = .ok (.aload_n 0, 1) := by decide +kernel
theorem d_M_putIn_165 : decode b_M_putIn 165 = .ok (.getfield 169, 3) := by decide +kernel
theorem d_M_putIn_168 : decode b_M_putIn 168 = .ok (.iload 4, 2) := by decide +kernel
theorem d_M_putIn_170 : decode b_M_putIn 170 = .ok (.iastore, 1) := by decide +kernel
theorem d_M_putIn_171 : decode b_M_putIn 171 = .ok (.aload_n 0, 1) := by decide +kernel
theorem d_M_putIn_172 : decode b_M_putIn 172 = .ok (.getfield 208, 3) := by decide +kernel
theorem d_M_putIn_175 : decode b_M_putIn 175 = .ok (.aload_n 0, 1) := by decide +kernel
theorem d_M_putIn_176 : decode b_M_putIn 176 = .ok (.dup, 1) := by decide +kernel
theorem d_M_putIn_177 : decode b_M_putIn 177 = .ok (.getfield 169, 3) := by decide +kernel
theorem d_M_putIn_180 : decode b_M_putIn 180 = .ok (.dup_x1, 1) := by decide +kernel
theorem d_M_putIn_181 : decode b_M_putIn 181 = .ok (.iconst 1, 1) := by decide +kernel
theorem d_M_putIn_182 : decode b_M_putIn 182 = .ok (.iadd, 1) := by decide +kernel
theorem d_M_putIn_183 : decode b_M_putIn 183 = .ok (.putfield 169, 3) := by decide +kernel
theorem d_M_putIn_186 : decode b_M_putIn 186 = .ok (.iload 5, 2) := by decide +kernel
theorem d_M_putIn_188 : decode b_M_putIn 188 = .ok (.aload_n 0, 1) := by decide +kernel
theorem d_M_putIn_189 : decode b_M_putIn 189 = .ok (.getfield 50, 3) := by decide +kernel
theorem d_M_putIn_192 : decode b_M_putIn 192 = .ok (.iload_n 1, 1) := by decide +kernel
theorem d_M_putIn_193 : decode b_M_putIn 193 = .ok (.iaload, 1) := by decide +kernel
theorem d_M_putIn_194 : decode b_M_putIn 194 = .ok (.isub, 1) := by decide +kernel
theorem d_M_putIn_195 : decode b_M_putIn 195 = .ok (.iastore, 1) := by decide +kernel
theorem d_M_putIn_196 : decode b_M_putIn 196 = .ok (.iinc 5 1, 3) := by decide +kernel
theorem d_M_putIn_199 : decode b_M_putIn 199 = .ok (.goto (-52), 3) := by decide +kernel
theorem d_M_putIn_202 : decode b_M_putIn 202 = .ok (.aload_n 0, 1) := by decide +kernel
theorem d_M_putIn_203 : decode b_M_putIn 203 = .ok (.getfield 59, 3) := by decide +kernel
theorem d_M_putIn_206 : decode b_M_putIn 206 = .ok (.iload_n 1, 1) := by decide +kernel
theorem d_M_putIn_207 : decode b_M_putIn 207 = .ok (.iaload, 1) := by decide +kernel
theorem d_M_putIn_208 : decode b_M_putIn 208 = .ok (.istore 5, 2) := by decide +kernel
theorem d_M_putIn_210 : decode b_M_putIn 210 = .ok (.iload 5, 2) := by decide +kernel
theorem d_M_putIn_212 : decode b_M_putIn 212 = .ok (.aload_n 0, 1) := by decide +kernel
theorem d_M_putIn_213 : decode b_M_putIn 213 = .ok (.getfield 59, 3) := by decide +kernel
theorem d_M_putIn_216 : decode b_M_putIn 216 = .ok (.iload_n 1, 1) := by decide +kernel
theorem d_M_putIn_217 : decode b_M_putIn 217 = .ok (.iconst 1, 1) := by decide +kernel
theorem d_M_putIn_218 : decode b_M_putIn 218 = .ok (.iadd, 1) := by decide +kernel
theorem d_M_putIn_219 : decode b_M_putIn 219 = .ok (.iaload, 1) := by decide +kernel
theorem d_M_putIn_220 : decode b_M_putIn 220 = .ok (.if_icmp .ge 149, 3) := by decide +kernel
theorem d_M_putIn_223 : decode b_M_putIn 223 = .ok (.aload_n 0, 1) := by decide +kernel
theorem d_M_putIn_224 : decode b_M_putIn 224 = .ok (.getfield 103, 3) := by decide +kernel
theorem d_M_putIn_227 : decode b_M_putIn 227 = .ok (.iload 5, 2) := by decide +kernel
theorem d_M_putIn_229 : decode b_M_putIn 229 = .ok (.iaload, 1) := by decide +kernel
theorem d_M_putIn_230 : decode b_M_putIn 230 = .ok (.istore 6, 2) := by decide +kernel
theorem d_M_putIn_232 : decode b_M_putIn 232 = .ok (.iload 6, 2) := by decide +kernel
theorem d_M_putIn_234 : decode b_M_putIn 234 = .ok (.aload_n 0, 1) := by decide +kernel
theorem d_M_putIn_235 : decode b_M_putIn 235 = .ok (.getfield 96, 3) := by decide +kernel
theorem d_M_putIn_238 : decode b_M_putIn 238 = .ok (.iload 5, 2) := by decide +kernel
theorem d_M_putIn_240 : decode b_M_putIn 240 = .ok (.iaload, 1) := by decide +kernel
theorem d_M_putIn_241 : decode b_M_putIn 241 = .ok (.if_icmp .gt 122, 3) := by decide +kernel
theorem d_M_putIn_244 : decode b_M_putIn 244 = .ok (.aload_n 0, 1) := by decide +kernel
theorem d_M_putIn_245 : decode b_M_putIn 245 = .ok (.getfield 112, 3) := by decide +kernel
theorem d_M_putIn_248 : decode b_M_putIn 248 = .ok (.iload 6, 2) := by decide +kernel
theorem d_M_putIn_250 : decode b_M_putIn 250 = .ok (.iaload, 1) := by decide +kernel
theorem d_M_putIn_251 : decode b_M_putIn 251 = .ok (.iconst 3, 1) := by decide +kernel
theorem d_M_putIn_252 : decode b_M_putIn 252 = .ok (.if_icmp .ne 38, 3) := by decide +kernel
theorem d_M_putIn_255 : decode b_M_putIn 255 = .ok (.aload_n 0, 1) := by decide +kernel
theorem d_M_putIn_256 : decode b_M_putIn 256 = .ok (.getfield 202, 3) := by decide +kernel
theorem d_M_putIn_259 : decode b_M_putIn 259 = .ok (.aload_n 0, 1) := by decide +kernel
theorem d_M_putIn_260 : decode b_M_putIn 260 = .ok (.getfield 199, 3) := by decide +kernel
theorem d_M_putIn_263 : decode b_M_putIn 263 = .ok (.iload 4, 2) := by decide +kernel
theorem d_M_putIn_265 : decode b_M_putIn 265 = .ok (.iaload, 1) := by decide +kernel
theorem d_M_putIn_266 : decode b_M_putIn 266 = .ok (.aload_n 0, 1) := by decide +kernel
theorem d_M_putIn_267 : decode b_M_putIn 267 = .ok (.getfield 127, 3) := by decide +kernel
theorem d_M_putIn_270 : decode b_M_putIn 270 = .ok (.iload 6, 2) := by decide +kernel
theorem d_M_putIn_272 : decode b_M_putIn 272 = .ok (.iaload, 1) := by decide +kernel
theorem d_M_putIn_273 : decode b_M_putIn 273 = .ok (.iadd, 1) := by decide +kernel
theorem d_M_putIn_274 : decode b_M_putIn 274 = .ok (.aload_n 0, 1) := by decide +kernel
theorem d_M_putIn_275 : decode b_M_putIn 275 = .ok (.aload_n 0, 1) := by decide +kernel
theorem d_M_putIn_276 : decode b_M_putIn 276 = .ok (.getfield 115, 3) := by decide +kernel
theorem d_M_putIn_279 : decode b_M_putIn 279 = .ok (.iload 6, 2) := by decide +kernel
theorem d_M_putIn_281 : decode b_M_putIn 281 = .ok (.iaload, 1) := by decide +kernel
theorem d_M_putIn_282 : decode b_M_putIn 282 = .ok (.iload 4, 2) := by decide +kernel
theorem d_M_putIn_284 : decode b_M_putIn 284 = .ok (.iload 6, 2) := by decide +kernel
theorem d_M_putIn_286 : decode b_M_putIn 286 = .ok (.invokevirtual 474, 3) := by decide +kernel
theorem d_M_putIn_289 : decode b_M_putIn 289 = .ok (.iastore, 1) := by decide +kernel
theorem d_M_putIn_290 : decode b_M_putIn 290 = .ok (.aload_n 0, 1) := by decide +kernel
theorem d_M_putIn_291 : decode b_M_putIn 291 = .ok (.getfield 112, 3) := by decide +kernel
theorem d_M_putIn_294 : decode b_M_putIn 294 = .ok (.iload 6, 2) := by decide +kernel
theorem d_M_putIn_296 : decode b_M_putIn 296 = .ok (.iaload, 1) := by decide +kernel
theorem d_M_putIn_297 : decode b_M_putIn 297 = .ok (.bipush 24, 2) := by decide +kernel
theorem d_M_putIn_299 : decode b_M_putIn 299 = .ok (.if_icmp .eq 26, 3) := by decide +kernel
theorem d_M_putIn_302 : decode b_M_putIn 302 = .ok (.aload_n 0, 1) := by decide +kernel
theorem d_M_putIn_303 : decode b_M_putIn 303 = .ok (.getfield 112, 3) := by decide +kernel
theorem d_M_putIn_306 : decode b_M_putIn 306 = .ok (.iload 6, 2) := by decide +kernel
theorem d_M_putIn_308 : decode b_M_putIn 308 = .ok (.iaload, 1) := by decide +kernel
theorem d_M_putIn_309 : decode b_M_putIn 309 = .ok (.iconst 5, 1) := by decide +kernel
theorem d_M_putIn_310 : decode b_M_putIn 310 = .ok (.if_icmp .eq 15, 3) := by decide +kernel
theorem d_M_putIn_313 : decode b_M_putIn 313 = .ok (.aload_n 0, 1) := by decide +kernel
theorem d_M_putIn_314 : decode b_M_putIn 314 = .ok (.getfield 112, 3) := by decide +kernel
theorem d_M_putIn_317 : decode b_M_putIn 317 = .ok (.iload 6, 2) := by decide +kernel
theorem d_M_putIn_319 : decode b_M_putIn 319 = .ok (.iaload, 1) := by decide +kernel
theorem d_M_putIn_320 : decode b_M_putIn 320 = .ok (.bipush 25, 2) := by decide +kernel
theorem d_M_putIn_322 : decode b_M_putIn 322 = .ok (.if_icmp .ne 13, 3) := by decide +kernel
theorem d_M_putIn_325 : decode b_M_putIn 325 = .ok (.aload_n 0, 1) := by decide +kernel
theorem d_M_putIn_326 : decode b_M_putIn 326 = .ok (.dup, 1) := by decide +kernel
theorem d_M_putIn_327 : decode b_M_putIn 327 = .ok (.getfield 175, 3) := by decide +kernel
theorem d_M_putIn_330 : decode b_M_putIn 330 = .ok (.iconst 1, 1) := by decide +kernel
theorem d_M_putIn_331 : decode b_M_putIn 331 = .ok (.iadd, 1) := by decide +kernel
theorem d_M_putIn_332 : decode b_M_putIn 332 = .ok (.putfield 175, 3) := by decide +kernel
theorem d_M_putIn_335 : decode b_M_putIn 335 = .ok (.aload_n 0, 1) := by decide +kernel
theorem d_M_putIn_336 : decode b_M_putIn 336 = .ok (.getfield 112, 3) := by decide +kernel
theorem d_M_putIn_339 : decode b_M_putIn 339 = .ok (.iload 6, 2) := by decide +kernel
theorem d_M_putIn_341 : decode b_M_putIn 341 = .ok (.iaload, 1) := by decide +kernel
theorem d_M_putIn_342 : decode b_M_putIn 342 = .ok (.bipush 6, 2) := by decide +kernel
theorem d_M_putIn_344 : decode b_M_putIn 344 = .ok (.if_icmp .ne 13, 3) := by decide +kernel
theorem d_M_putIn_347 : decode b_M_putIn 347 = .ok (.aload_n 0, 1) := by decide +kernel
theorem d_M_putIn_348 : decode b_M_putIn 348 = .ok (.dup, 1) := by decide +kernel
theorem d_M_putIn_349 : decode b_M_putIn 349 = .ok (.getfield 175, 3) := by decide +kernel
theorem d_M_putIn_352 : decode b_M_putIn 352 = .ok (.iconst 2, 1) := by decide +kernel
theorem d_M_putIn_353 : decode b_M_putIn 353 = .ok (.iadd, 1) := by decide +kernel
theorem d_M_putIn_354 : decode b_M_putIn 354 = .ok (.putfield 175, 3) := by decide +kernel
theorem d_M_putIn_357 : decode b_M_putIn 357 = .ok (.iinc 6 1, 3) := by decide +kernel
theorem d_M_putIn_360 : decode b_M_putIn 360 = .ok (.goto (-128), 3) := by decide +kernel
theorem d_M_putIn_363 : decode b_M_putIn 363 = .ok (.iinc 5 1, 3) := by decide +kernel
theorem d_M_putIn_366 : decode b_M_putIn 366 = .ok (.goto (-156), 3) := by decide +kernel
theorem d_M_putIn_369 : decode b_M_putIn 369 = .ok (.iload 4, 2) := by decide +kernel
theorem d_M_putIn_371 : decode b_M_putIn 371 = .ok (.ireturn, 1) := by decide +kernel
abbrev mt_M_putIn : MT := (R_M, b_M_putIn, 7, some .int)
theorem vf_M_putIn : VF y_M_putIn mt_M_putIn 12 3 := ⟨im_M_putIn, se_M_putIn, in_M, co_M_putIn, by decide +kernel, _, _, rfl⟩
def f_M_putIn_b363 (E : Nat → St → Int → Int → Int → Option Res) (k210 : St → Int → Int → Int → Option Res) (γ : St) (x1 : Int) (x2 : Int) (x3 : Int) : Option Res :=
  chk (i32 (x3 + 1)) (k210 γ x1 x2 (x3 + 1))
def f_M_putIn_b357 (E : Nat → St → Int → Int → Int → Option Res) (k232 : St → Int → Int → Int → Int → Option Res) (x363 : St → Int → Int → Int → Option Res) (γ : St) (x8 : Int) (x9 : Int) (x10 : Int) (x11 : Int) : Option Res :=
  chk (i32 (x11 + 1)) (k232 γ x8 x9 x10 (x11 + 1))
def f_M_putIn_b335 (E : Nat → St → Int → Int → Int → Option Res) (k232 : St → Int → Int → Int → Int → Option Res) (x363 : St → Int → Int → Int → Option Res) (γ : St) (x20 : Int) (x21 : Int) (x22 : Int) (x23 : Int) : Option Res :=
  chk (inb x23 66000) (if (γ 20 x23) ≠ 6 then
  (f_M_putIn_b357 E k232 x363 γ x20 x21 x22 x23)
  else
  (chk (i32 ((γ 0 53) + 2)) (ap (setA γ 0 53 ((γ 0 53) + 2)) fun γ28 =>
  f_M_putIn_b357 E k232 x363 γ28 x20 x21 x22 x23)))
def f_M_putIn_b325 (E : Nat → St → Int → Int → Int → Option Res) (k232 : St → Int → Int → Int → Int → Option Res) (x363 : St → Int → Int → Int → Option Res) (γ : St) (x36 : Int) (x37 : Int) (x38 : Int) (x39 : Int) : Option Res :=
  chk (i32 ((γ 0 53) + 1)) (ap (setA γ 0 53 ((γ 0 53) + 1)) fun γ42 =>
  f_M_putIn_b335 E k232 x363 γ42 x36 x37 x38 x39)
def f_M_putIn_b290 (E : Nat → St → Int → Int → Int → Option Res) (k232 : St → Int → Int → Int → Int → Option Res) (x363 : St → Int → Int → Int → Option Res) (γ : St) (x50 : Int) (x51 : Int) (x52 : Int) (x53 : Int) : Option Res :=
  chk (inb x53 66000) (if (γ 20 x53) = 24 then
  (f_M_putIn_b325 E k232 x363 γ x50 x51 x52 x53)
  else
  (chk (inb x53 66000) (if (γ 20 x53) = 5 then
  (f_M_putIn_b325 E k232 x363 γ x50 x51 x52 x53)
  else
  (chk (inb x53 66000) (if (γ 20 x53) ≠ 25 then
  (f_M_putIn_b335 E k232 x363 γ x50 x51 x52 x53)
  else
  (f_M_putIn_b325 E k232 x363 γ x50 x51 x52 x53))))))
def f_M_putIn_L232 (E : Nat → St → Int → Int → Int → Option Res) (x363 : St → Int → Int → Int → Option Res) : Nat → St → Int → Int → Int → Int → Option Res
  | 0, _, _, _, _, _ => none
  | n + 1, γ, x67, x68, x69, x70 =>
  chk (inb x69 17000) (if (γ 17 x69) < x70 then
  (x363 γ x67 x68 x69)
  else
  (chk (inb x70 66000) (if (γ 20 x70) ≠ 3 then
  (f_M_putIn_b290 E (f_M_putIn_L232 E x363 n) x363 γ x67 x68 x69 x70)
  else
  (chk (inb x68 3200) (chk (inb x70 66000) (chk (i32 ((γ 40 x68) + (γ 25 x70))) (chk (inb x70 66000) (bndT (E 0 γ (γ 21 x70) x68 x70) fun r83 γ84 =>
  chk (inb ((γ 40 x68) + (γ 25 x70)) 3200) (ap (setA γ84 41 ((γ 40 x68) + (γ 25 x70)) r83) fun γ85 =>
  f_M_putIn_b290 E (f_M_putIn_L232 E x363 n) x363 γ85 x67 x68 x69 x70)))))))))
def f_M_putIn_L210 (E : Nat → St → Int → Int → Int → Option Res) : Nat → St → Int → Int → Int → Option Res
  | 0, _, _, _, _ => none
  | n + 1, γ, x89, x90, x91 =>
  chk (i32 (x89 + 1)) (chk (inb (x89 + 1) 61) (if (γ 7 (x89 + 1)) ≤ x91 then
  (some (.inr x90, γ))
  else
  (chk (inb x91 17000) (ap (γ 19 x91) fun x97 =>
  f_M_putIn_L232 E (f_M_putIn_b363 E (f_M_putIn_L210 E n)) FU γ x89 x90 x91 x97))))
def f_M_putIn_b202 (E : Nat → St → Int → Int → Int → Option Res) (γ : St) (x98 : Int) (x99 : Int) : Option Res :=
  chk (inb x98 61) (ap (γ 7 x98) fun x102 =>
  f_M_putIn_L210 E  FU γ x98 x99 x102)
def f_M_putIn_L147 (E : Nat → St → Int → Int → Int → Option Res) (x202 : St → Int → Int → Option Res) : Nat → St → Int → Int → Int → Option Res
  | 0, _, _, _, _ => none
  | n + 1, γ, x103, x104, x105 =>
  chk (i32 (x103 + 1)) (chk (inb (x103 + 1) 61) (if (γ 4 (x103 + 1)) ≤ x105 then
  (x202 γ x103 x104)
  else
  (chk (inb (γ 0 51) 6100) (ap (setA γ 42 (γ 0 51) x104) fun γ111 =>
  chk (i32 ((γ111 0 51) + 1)) (ap (setA γ111 0 51 ((γ111 0 51) + 1)) fun γ115 =>
  chk (inb x103 61) (chk (i32 (x105 - (γ115 4 x103))) (chk (inb (γ111 0 51) 6100) (ap (setA γ115 43 (γ111 0 51) (x105 - (γ115 4 x103))) fun γ119 =>
  chk (i32 (x105 + 1)) ((f_M_putIn_L147 E x202 n) γ119 x103 x104 (x105 + 1))))))))))
def f_M_putIn (E : Nat → St → Int → Int → Int → Option Res) (γ : St) (a0 : Int) (a1 : Int) (a2 : Int) : Option Res :=
  chk (i32 ((γ 0 50) + 1)) (ap (setA γ 0 50 ((γ 0 50) + 1)) fun γ125 =>
  ap (γ 0 50) fun x126 =>
  chk (inb x126 3200) (ap (setA γ125 35 x126 a0) fun γ128 =>
  chk (inb x126 3200) (ap (setA γ128 36 x126 a1) fun γ130 =>
  chk (inb x126 3200) (ap (setA γ130 37 x126 a2) fun γ132 =>
  chk (inb x126 3200) (ap (setA γ132 38 x126 (γ132 0 51)) fun γ135 =>
  chk (inb x126 3200) (ap (setA γ135 39 x126 (γ135 0 52)) fun γ138 =>
  chk (inb x126 3200) (ap (setA γ138 40 x126 (γ138 0 54)) fun γ141 =>
  chk (inb a0 60) (chk (i32 ((γ141 0 52) + (γ141 9 a0))) (ap (setA γ141 0 52 ((γ141 0 52) + (γ141 9 a0))) fun γ146 =>
  chk (inb a0 60) (chk (i32 ((γ146 0 54) + (γ146 8 a0))) (ap (setA γ146 0 54 ((γ146 0 54) + (γ146 8 a0))) fun γ151 =>
  chk (i32 (a0 + 1)) (chk (inb (a0 + 1) 61) (chk (i32 ((γ151 0 51) + (γ151 4 (a0 + 1)))) (chk (inb a0 61) (chk (i32 (((γ151 0 51) + (γ151 4 (a0 + 1))) - (γ151 4 a0))) (if (((γ151 0 51) + (γ151 4 (a0 + 1))) - (γ151 4 a0)) ≤ 6000 then
  (chk (inb a0 61) (ap (γ151 4 a0) fun x162 =>
  f_M_putIn_L147 E (f_M_putIn_b202 E) FU γ151 a0 x126 x162))
  else
  (some (.inl (3, γ151 0 1), γ151))))))))))))))))))
set_option maxHeartbeats 4000000 in
theorem s_M_putIn_b363 {Γ : Ctx} {k210 : St → Int → Int → Int → Option Res} {n9 : Nat} {E : Nat → St → Int → Int → Int → Option Res} (hE0 : ∀ (γ : St) (a0 : Int) (a1 : Int) (a2 : Int), i32 a0 → i32 a1 → i32 a2 → TC Γ BM y_M_putIn mt_M_putIn (n9 + 6) (70 * n9 + 240) [vR Γ 0, vI a0, vI a1, vI a2] γ (E 0 γ a0 a1 a2)) (hk210 : ∀ (γ : St) (x5 : Int) (x6 : Int) (x7 : Int), i32 x5 → i32 x6 → i32 x7 → SB Γ BM mt_M_putIn (RmT (n9 + 1 + 6) (70 * (n9 + 1) + 240)) 0 0 (KT Γ BM mt_M_putIn.2.2.2) 210 [(0, vR Γ 0), (1, vI x5), (4, vI x6), (5, vI x7)] [] γ (k210 γ x5 x6 x7)) : ∀ (γ : St) (x1 : Int) (x2 : Int) (x3 : Int), i32 x1 → i32 x2 → i32 x3 → SB Γ BM mt_M_putIn (RmT (n9 + 1 + 6) (70 * (n9 + 1) + 240)) 0 0 (KT Γ BM mt_M_putIn.2.2.2) 363 [(0, vR Γ 0), (1, vI x1), (4, vI x2), (5, vI x3)] [] γ (f_M_putIn_b363 E k210 γ x1 x2 x3) := by
  intro γ x1 x2 x3 hx1 hx2 hx3
  unfold f_M_putIn_b363
  refine sb_iinc 3 [(5, vI (x3 + 1)), (0, vR Γ 0), (1, vI x1), (4, vI x2)] d_M_putIn_363 rfl (by decide) rfl ?_
  refine sb_chk (fun c4 => ?_)
  refine sb_goto 210 d_M_putIn_366 (by decide) ?_
  exact sb_lv [1, 2, 3, 0] rfl (hk210 γ x1 x2 (x3 + 1) hx1 hx2 c4)
set_option maxHeartbeats 4000000 in
theorem s_M_putIn_b357 {Γ : Ctx} {k232 : St → Int → Int → Int → Int → Option Res} {x363 : St → Int → Int → Int → Option Res} {n9 : Nat} {E : Nat → St → Int → Int → Int → Option Res} (hE0 : ∀ (γ : St) (a0 : Int) (a1 : Int) (a2 : Int), i32 a0 → i32 a1 → i32 a2 → TC Γ BM y_M_putIn mt_M_putIn (n9 + 6) (70 * n9 + 240) [vR Γ 0, vI a0, vI a1, vI a2] γ (E 0 γ a0 a1 a2)) (hk232 : ∀ (γ : St) (x13 : Int) (x14 : Int) (x15 : Int) (x16 : Int), i32 x13 → i32 x14 → i32 x15 → i32 x16 → SB Γ BM mt_M_putIn (RmT (n9 + 1 + 6) (70 * (n9 + 1) + 240)) 0 0 (KT Γ BM mt_M_putIn.2.2.2) 232 [(0, vR Γ 0), (1, vI x13), (4, vI x14), (5, vI x15), (6, vI x16)] [] γ (k232 γ x13 x14 x15 x16)) (hx363 : ∀ (γ : St) (x17 : Int) (x18 : Int) (x19 : Int), i32 x17 → i32 x18 → i32 x19 → SB Γ BM mt_M_putIn (RmT (n9 + 1 + 6) (70 * (n9 + 1) + 240)) 0 0 (KT Γ BM mt_M_putIn.2.2.2) 363 [(0, vR Γ 0), (1, vI x17), (4, vI x18), (5, vI x19)] [] γ (x363 γ x17 x18 x19)) : ∀ (γ : St) (x8 : Int) (x9 : Int) (x10 : Int) (x11 : Int), i32 x8 → i32 x9 → i32 x10 → i32 x11 → SB Γ BM mt_M_putIn (RmT (n9 + 1 + 6) (70 * (n9 + 1) + 240)) 0 0 (KT Γ BM mt_M_putIn.2.2.2) 357 [(0, vR Γ 0), (1, vI x8), (4, vI x9), (5, vI x10), (6, vI x11)] [] γ (f_M_putIn_b357 E k232 x363 γ x8 x9 x10 x11) := by
  intro γ x8 x9 x10 x11 hx8 hx9 hx10 hx11
  unfold f_M_putIn_b357
  refine sb_iinc 4 [(6, vI (x11 + 1)), (0, vR Γ 0), (1, vI x8), (4, vI x9), (5, vI x10)] d_M_putIn_357 rfl (by decide) rfl ?_
  refine sb_chk (fun c12 => ?_)
  refine sb_goto 232 d_M_putIn_360 (by decide) ?_
  exact sb_lv [1, 2, 3, 4, 0] rfl (hk232 γ x8 x9 x10 (x11 + 1) hx8 hx9 hx10 c12)
set_option maxHeartbeats 4000000 in
theorem s_M_putIn_b335 {Γ : Ctx} {k232 : St → Int → Int → Int → Int → Option Res} {x363 : St → Int → Int → Int → Option Res} {n9 : Nat} {E : Nat → St → Int → Int → Int → Option Res} (hE0 : ∀ (γ : St) (a0 : Int) (a1 : Int) (a2 : Int), i32 a0 → i32 a1 → i32 a2 → TC Γ BM y_M_putIn mt_M_putIn (n9 + 6) (70 * n9 + 240) [vR Γ 0, vI a0, vI a1, vI a2] γ (E 0 γ a0 a1 a2)) (hk232 : ∀ (γ : St) (x29 : Int) (x30 : Int) (x31 : Int) (x32 : Int), i32 x29 → i32 x30 → i32 x31 → i32 x32 → SB Γ BM mt_M_putIn (RmT (n9 + 1 + 6) (70 * (n9 + 1) + 240)) 0 0 (KT Γ BM mt_M_putIn.2.2.2) 232 [(0, vR Γ 0), (1, vI x29), (4, vI x30), (5, vI x31), (6, vI x32)] [] γ (k232 γ x29 x30 x31 x32)) (hx363 : ∀ (γ : St) (x33 : Int) (x34 : Int) (x35 : Int), i32 x33 → i32 x34 → i32 x35 → SB Γ BM mt_M_putIn (RmT (n9 + 1 + 6) (70 * (n9 + 1) + 240)) 0 0 (KT Γ BM mt_M_putIn.2.2.2) 363 [(0, vR Γ 0), (1, vI x33), (4, vI x34), (5, vI x35)] [] γ (x363 γ x33 x34 x35)) : ∀ (γ : St) (x20 : Int) (x21 : Int) (x22 : Int) (x23 : Int), i32 x20 → i32 x21 → i32 x22 → i32 x23 → SB Γ BM mt_M_putIn (RmT (n9 + 1 + 6) (70 * (n9 + 1) + 240)) 0 0 (KT Γ BM mt_M_putIn.2.2.2) 335 [(0, vR Γ 0), (1, vI x20), (4, vI x21), (5, vI x22), (6, vI x23)] [] γ (f_M_putIn_b335 E k232 x363 γ x20 x21 x22 x23) := by
  intro γ x20 x21 x22 x23 hx20 hx21 hx22 hx23
  unfold f_M_putIn_b335
  refine sb_aload_n 0 d_M_putIn_335 rfl ?_
  refine g_M_112 d_M_putIn_336 ?_
  refine sb_iload 4 d_M_putIn_339 rfl ?_
  refine al_M_20 d_M_putIn_341 (fun _ c25 => ?_)
  refine sb_bipush d_M_putIn_342 (by decide) ?_
  refine sb_icmp_ne 357 c25 (by decide) d_M_putIn_344 (by decide) (fun _ => ?_) (fun _ => ?_)
  · exact sb_lv [0, 1, 2, 3, 4] rfl (s_M_putIn_b357 hE0 hk232 hx363 γ x20 x21 x22 x23 hx20 hx21 hx22 hx23)
  · refine sb_aload_n 0 d_M_putIn_347 rfl ?_
    refine sb_dup d_M_putIn_348 rfl ?_
    refine g_M_175 d_M_putIn_349 (fun c26 => ?_)
    refine sb_iconst d_M_putIn_352 ?_
    refine sb_iadd d_M_putIn_353 ?_
    refine sb_chk (fun c27 => ?_)
    refine p_M_175 c27 d_M_putIn_354 ?_
    refine sb_aps (fun γ28 => ?_)
    exact sb_lv [0, 1, 2, 3, 4] rfl (s_M_putIn_b357 hE0 hk232 hx363 γ28 x20 x21 x22 x23 hx20 hx21 hx22 hx23)
set_option maxHeartbeats 4000000 in
theorem s_M_putIn_b325 {Γ : Ctx} {k232 : St → Int → Int → Int → Int → Option Res} {x363 : St → Int → Int → Int → Option Res} {n9 : Nat} {E : Nat → St → Int → Int → Int → Option Res} (hE0 : ∀ (γ : St) (a0 : Int) (a1 : Int) (a2 : Int), i32 a0 → i32 a1 → i32 a2 → TC Γ BM y_M_putIn mt_M_putIn (n9 + 6) (70 * n9 + 240) [vR Γ 0, vI a0, vI a1, vI a2] γ (E 0 γ a0 a1 a2)) (hk232 : ∀ (γ : St) (x43 : Int) (x44 : Int) (x45 : Int) (x46 : Int), i32 x43 → i32 x44 → i32 x45 → i32 x46 → SB Γ BM mt_M_putIn (RmT (n9 + 1 + 6) (70 * (n9 + 1) + 240)) 0 0 (KT Γ BM mt_M_putIn.2.2.2) 232 [(0, vR Γ 0), (1, vI x43), (4, vI x44), (5, vI x45), (6, vI x46)] [] γ (k232 γ x43 x44 x45 x46)) (hx363 : ∀ (γ : St) (x47 : Int) (x48 : Int) (x49 : Int), i32 x47 → i32 x48 → i32 x49 → SB Γ BM mt_M_putIn (RmT (n9 + 1 + 6) (70 * (n9 + 1) + 240)) 0 0 (KT Γ BM mt_M_putIn.2.2.2) 363 [(0, vR Γ 0), (1, vI x47), (4, vI x48), (5, vI x49)] [] γ (x363 γ x47 x48 x49)) : ∀ (γ : St) (x36 : Int) (x37 : Int) (x38 : Int) (x39 : Int), i32 x36 → i32 x37 → i32 x38 → i32 x39 → SB Γ BM mt_M_putIn (RmT (n9 + 1 + 6) (70 * (n9 + 1) + 240)) 0 0 (KT Γ BM mt_M_putIn.2.2.2) 325 [(0, vR Γ 0), (1, vI x36), (4, vI x37), (5, vI x38), (6, vI x39)] [] γ (f_M_putIn_b325 E k232 x363 γ x36 x37 x38 x39) := by
  intro γ x36 x37 x38 x39 hx36 hx37 hx38 hx39
  unfold f_M_putIn_b325
  refine sb_aload_n 0 d_M_putIn_325 rfl ?_
  refine sb_dup d_M_putIn_326 rfl ?_
  refine g_M_175 d_M_putIn_327 (fun c40 => ?_)
  refine sb_iconst d_M_putIn_330 ?_
  refine sb_iadd d_M_putIn_331 ?_
  refine sb_chk (fun c41 => ?_)
  refine p_M_175 c41 d_M_putIn_332 ?_
  refine sb_aps (fun γ42 => ?_)
  exact sb_lv [0, 1, 2, 3, 4] rfl (s_M_putIn_b335 hE0 hk232 hx363 γ42 x36 x37 x38 x39 hx36 hx37 hx38 hx39)
set_option maxHeartbeats 4000000 in
theorem s_M_putIn_b290 {Γ : Ctx} {k232 : St → Int → Int → Int → Int → Option Res} {x363 : St → Int → Int → Int → Option Res} {n9 : Nat} {E : Nat → St → Int → Int → Int → Option Res} (hE0 : ∀ (γ : St) (a0 : Int) (a1 : Int) (a2 : Int), i32 a0 → i32 a1 → i32 a2 → TC Γ BM y_M_putIn mt_M_putIn (n9 + 6) (70 * n9 + 240) [vR Γ 0, vI a0, vI a1, vI a2] γ (E 0 γ a0 a1 a2)) (hk232 : ∀ (γ : St) (x60 : Int) (x61 : Int) (x62 : Int) (x63 : Int), i32 x60 → i32 x61 → i32 x62 → i32 x63 → SB Γ BM mt_M_putIn (RmT (n9 + 1 + 6) (70 * (n9 + 1) + 240)) 0 0 (KT Γ BM mt_M_putIn.2.2.2) 232 [(0, vR Γ 0), (1, vI x60), (4, vI x61), (5, vI x62), (6, vI x63)] [] γ (k232 γ x60 x61 x62 x63)) (hx363 : ∀ (γ : St) (x64 : Int) (x65 : Int) (x66 : Int), i32 x64 → i32 x65 → i32 x66 → SB Γ BM mt_M_putIn (RmT (n9 + 1 + 6) (70 * (n9 + 1) + 240)) 0 0 (KT Γ BM mt_M_putIn.2.2.2) 363 [(0, vR Γ 0), (1, vI x64), (4, vI x65), (5, vI x66)] [] γ (x363 γ x64 x65 x66)) : ∀ (γ : St) (x50 : Int) (x51 : Int) (x52 : Int) (x53 : Int), i32 x50 → i32 x51 → i32 x52 → i32 x53 → SB Γ BM mt_M_putIn (RmT (n9 + 1 + 6) (70 * (n9 + 1) + 240)) 0 0 (KT Γ BM mt_M_putIn.2.2.2) 290 [(0, vR Γ 0), (1, vI x50), (4, vI x51), (5, vI x52), (6, vI x53)] [] γ (f_M_putIn_b290 E k232 x363 γ x50 x51 x52 x53) := by
  intro γ x50 x51 x52 x53 hx50 hx51 hx52 hx53
  unfold f_M_putIn_b290
  refine sb_aload_n 0 d_M_putIn_290 rfl ?_
  refine g_M_112 d_M_putIn_291 ?_
  refine sb_iload 4 d_M_putIn_294 rfl ?_
  refine al_M_20 d_M_putIn_296 (fun _ c55 => ?_)
  refine sb_bipush d_M_putIn_297 (by decide) ?_
  refine sb_icmp_eq 325 c55 (by decide) d_M_putIn_299 (by decide) (fun _ => ?_) (fun _ => ?_)
  · exact sb_lv [0, 1, 2, 3, 4] rfl (s_M_putIn_b325 hE0 hk232 hx363 γ x50 x51 x52 x53 hx50 hx51 hx52 hx53)
  · refine sb_aload_n 0 d_M_putIn_302 rfl ?_
    refine g_M_112 d_M_putIn_303 ?_
    refine sb_iload 4 d_M_putIn_306 rfl ?_
    refine al_M_20 d_M_putIn_308 (fun _ c57 => ?_)
    refine sb_iconst d_M_putIn_309 ?_
    refine sb_icmp_eq 325 c57 (by decide) d_M_putIn_310 (by decide) (fun _ => ?_) (fun _ => ?_)
    · exact sb_lv [0, 1, 2, 3, 4] rfl (s_M_putIn_b325 hE0 hk232 hx363 γ x50 x51 x52 x53 hx50 hx51 hx52 hx53)
    · refine sb_aload_n 0 d_M_putIn_313 rfl ?_
      refine g_M_112 d_M_putIn_314 ?_
      refine sb_iload 4 d_M_putIn_317 rfl ?_
      refine al_M_20 d_M_putIn_319 (fun _ c59 => ?_)
      refine sb_bipush d_M_putIn_320 (by decide) ?_
      refine sb_icmp_ne 335 c59 (by decide) d_M_putIn_322 (by decide) (fun _ => ?_) (fun _ => ?_)
      · exact sb_lv [0, 1, 2, 3, 4] rfl (s_M_putIn_b335 hE0 hk232 hx363 γ x50 x51 x52 x53 hx50 hx51 hx52 hx53)
      · exact sb_lv [0, 1, 2, 3, 4] rfl (s_M_putIn_b325 hE0 hk232 hx363 γ x50 x51 x52 x53 hx50 hx51 hx52 hx53)
set_option maxHeartbeats 4000000 in
theorem s_M_putIn_L232 {Γ : Ctx} {x363 : St → Int → Int → Int → Option Res} {n9 : Nat} {E : Nat → St → Int → Int → Int → Option Res} (hE0 : ∀ (γ : St) (a0 : Int) (a1 : Int) (a2 : Int), i32 a0 → i32 a1 → i32 a2 → TC Γ BM y_M_putIn mt_M_putIn (n9 + 6) (70 * n9 + 240) [vR Γ 0, vI a0, vI a1, vI a2] γ (E 0 γ a0 a1 a2)) (hx363 : ∀ (γ : St) (x86 : Int) (x87 : Int) (x88 : Int), i32 x86 → i32 x87 → i32 x88 → SB Γ BM mt_M_putIn (RmT (n9 + 1 + 6) (70 * (n9 + 1) + 240)) 0 0 (KT Γ BM mt_M_putIn.2.2.2) 363 [(0, vR Γ 0), (1, vI x86), (4, vI x87), (5, vI x88)] [] γ (x363 γ x86 x87 x88)) : ∀ (n : Nat) (γ : St) (x67 : Int) (x68 : Int) (x69 : Int) (x70 : Int), i32 x67 → i32 x68 → i32 x69 → i32 x70 → SB Γ BM mt_M_putIn (RmT (n9 + 1 + 6) (70 * (n9 + 1) + 240)) 0 0 (KT Γ BM mt_M_putIn.2.2.2) 232 [(0, vR Γ 0), (1, vI x67), (4, vI x68), (5, vI x69), (6, vI x70)] [] γ (f_M_putIn_L232 E x363 n γ x67 x68 x69 x70) := by
  intro n
  induction n with
  | zero => intros; exact sb_none
  | succ n ih =>
    intro γ x67 x68 x69 x70 hx67 hx68 hx69 hx70
    unfold f_M_putIn_L232
    refine sb_iload 4 d_M_putIn_232 rfl ?_
    refine sb_aload_n 0 d_M_putIn_234 rfl ?_
    refine g_M_96 d_M_putIn_235 ?_
    refine sb_iload 3 d_M_putIn_238 rfl ?_
    refine al_M_17 d_M_putIn_240 (fun _ c72 => ?_)
    refine sb_icmp_gt 363 hx70 c72 d_M_putIn_241 (by decide) (fun _ => ?_) (fun _ => ?_)
    · exact sb_lv [0, 1, 2, 3] rfl (hx363 γ x67 x68 x69 hx67 hx68 hx69)
    · refine sb_aload_n 0 d_M_putIn_244 rfl ?_
      refine g_M_112 d_M_putIn_245 ?_
      refine sb_iload 4 d_M_putIn_248 rfl ?_
      refine al_M_20 d_M_putIn_250 (fun _ c74 => ?_)
      refine sb_iconst d_M_putIn_251 ?_
      refine sb_icmp_ne 290 c74 (by decide) d_M_putIn_252 (by decide) (fun _ => ?_) (fun _ => ?_)
      · exact sb_lv [0, 1, 2, 3, 4] rfl (s_M_putIn_b290 hE0 ih hx363 γ x67 x68 x69 x70 hx67 hx68 hx69 hx70)
      · refine sb_aload_n 0 d_M_putIn_255 rfl ?_
        refine g_M_202 d_M_putIn_256 ?_
        refine sb_aload_n 0 d_M_putIn_259 rfl ?_
        refine g_M_199 d_M_putIn_260 ?_
        refine sb_iload 2 d_M_putIn_263 rfl ?_
        refine al_M_40 d_M_putIn_265 (fun _ c77 => ?_)
        refine sb_aload_n 0 d_M_putIn_266 rfl ?_
        refine g_M_127 d_M_putIn_267 ?_
        refine sb_iload 4 d_M_putIn_270 rfl ?_
        refine al_M_25 d_M_putIn_272 (fun _ c79 => ?_)
        refine sb_iadd d_M_putIn_273 ?_
        refine sb_chk (fun c80 => ?_)
        refine sb_aload_n 0 d_M_putIn_274 rfl ?_
        refine sb_aload_n 0 d_M_putIn_275 rfl ?_
        refine g_M_115 d_M_putIn_276 ?_
        refine sb_iload 4 d_M_putIn_279 rfl ?_
        refine al_M_21 d_M_putIn_281 (fun _ c82 => ?_)
        refine sb_iload 2 d_M_putIn_282 rfl ?_
        refine sb_iload 4 d_M_putIn_284 rfl ?_
        refine sb_cTi vf_M_putIn (hE0 γ (γ 21 x70) x68 x70 c82 hx68 hx70) rfl ml_M_474 (As := [vI (γ 21 x70), vI x68, vI x70]) rfl rfl (Nat.le_of_ble_eq_true rfl) ⟨by first | omega | (simp only [RmT, RmN]; omega), by first | omega | (simp only [RmT, RmN]; omega)⟩ d_M_putIn_286 (fun r83 γ84 hr83 => ?_)
        refine as_M_41 hr83 d_M_putIn_289 (fun _ => ?_)
        refine sb_aps (fun γ85 => ?_)
        exact sb_lv [0, 1, 2, 3, 4] rfl (s_M_putIn_b290 hE0 ih hx363 γ85 x67 x68 x69 x70 hx67 hx68 hx69 hx70)
set_option maxHeartbeats 4000000 in
theorem s_M_putIn_L210 {Γ : Ctx} {n9 : Nat} {E : Nat → St → Int → Int → Int → Option Res} (hE0 : ∀ (γ : St) (a0 : Int) (a1 : Int) (a2 : Int), i32 a0 → i32 a1 → i32 a2 → TC Γ BM y_M_putIn mt_M_putIn (n9 + 6) (70 * n9 + 240) [vR Γ 0, vI a0, vI a1, vI a2] γ (E 0 γ a0 a1 a2)) : ∀ (n : Nat) (γ : St) (x89 : Int) (x90 : Int) (x91 : Int), i32 x89 → i32 x90 → i32 x91 → SB Γ BM mt_M_putIn (RmT (n9 + 1 + 6) (70 * (n9 + 1) + 240)) 0 0 (KT Γ BM mt_M_putIn.2.2.2) 210 [(0, vR Γ 0), (1, vI x89), (4, vI x90), (5, vI x91)] [] γ (f_M_putIn_L210 E n γ x89 x90 x91) := by
  intro n
  induction n with
  | zero => intros; exact sb_none
  | succ n ih =>
    intro γ x89 x90 x91 hx89 hx90 hx91
    unfold f_M_putIn_L210
    refine sb_iload 3 d_M_putIn_210 rfl ?_
    refine sb_aload_n 0 d_M_putIn_212 rfl ?_
    refine g_M_59 d_M_putIn_213 ?_
    refine sb_iload_n 1 d_M_putIn_216 rfl ?_
    refine sb_iconst d_M_putIn_217 ?_
    refine sb_iadd d_M_putIn_218 ?_
    refine sb_chk (fun c93 => ?_)
    refine al_M_7 d_M_putIn_219 (fun _ c94 => ?_)
    refine sb_icmp_ge 369 hx91 c94 d_M_putIn_220 (by decide) (fun _ => ?_) (fun _ => ?_)
    · refine sb_iload 2 d_M_putIn_369 rfl ?_
      exact st_i rfl hx90 d_M_putIn_371
    · refine sb_aload_n 0 d_M_putIn_223 rfl ?_
      refine g_M_103 d_M_putIn_224 ?_
      refine sb_iload 3 d_M_putIn_227 rfl ?_
      refine al_M_19 d_M_putIn_229 (fun _ c96 => ?_)
      refine sb_istore [(6, vI (γ 19 x91)), (0, vR Γ 0), (1, vI x89), (4, vI x90), (5, vI x91)] d_M_putIn_230 (by decide) rfl ?_
      refine sb_nme (e := γ 19 x91) (fun x97 => [(6, vI x97), (0, vR Γ 0), (1, vI x89), (4, vI x90), (5, vI x91)]) c96 (fun x97 hx97 => ?_)
      exact sb_lv [1, 2, 3, 4, 0] rfl (s_M_putIn_L232 hE0 (s_M_putIn_b363 hE0 ih) FU γ x89 x90 x91 x97 hx89 hx90 hx91 hx97)
set_option maxHeartbeats 4000000 in
theorem s_M_putIn_b202 {Γ : Ctx} {n9 : Nat} {E : Nat → St → Int → Int → Int → Option Res} (hE0 : ∀ (γ : St) (a0 : Int) (a1 : Int) (a2 : Int), i32 a0 → i32 a1 → i32 a2 → TC Γ BM y_M_putIn mt_M_putIn (n9 + 6) (70 * n9 + 240) [vR Γ 0, vI a0, vI a1, vI a2] γ (E 0 γ a0 a1 a2)) : ∀ (γ : St) (x98 : Int) (x99 : Int), i32 x98 → i32 x99 → SB Γ BM mt_M_putIn (RmT (n9 + 1 + 6) (70 * (n9 + 1) + 240)) 0 0 (KT Γ BM mt_M_putIn.2.2.2) 202 [(0, vR Γ 0), (1, vI x98), (4, vI x99)] [] γ (f_M_putIn_b202 E γ x98 x99) := by
  intro γ x98 x99 hx98 hx99
  unfold f_M_putIn_b202
  refine sb_aload_n 0 d_M_putIn_202 rfl ?_
  refine g_M_59 d_M_putIn_203 ?_
  refine sb_iload_n 1 d_M_putIn_206 rfl ?_
  refine al_M_7 d_M_putIn_207 (fun _ c101 => ?_)
  refine sb_istore [(5, vI (γ 7 x98)), (0, vR Γ 0), (1, vI x98), (4, vI x99)] d_M_putIn_208 (by decide) rfl ?_
  refine sb_nme (e := γ 7 x98) (fun x102 => [(5, vI x102), (0, vR Γ 0), (1, vI x98), (4, vI x99)]) c101 (fun x102 hx102 => ?_)
  exact sb_lv [1, 2, 3, 0] rfl (s_M_putIn_L210 hE0  FU γ x98 x99 x102 hx98 hx99 hx102)
set_option maxHeartbeats 4000000 in
theorem s_M_putIn_L147 {Γ : Ctx} {x202 : St → Int → Int → Option Res} {n9 : Nat} {E : Nat → St → Int → Int → Int → Option Res} (hE0 : ∀ (γ : St) (a0 : Int) (a1 : Int) (a2 : Int), i32 a0 → i32 a1 → i32 a2 → TC Γ BM y_M_putIn mt_M_putIn (n9 + 6) (70 * n9 + 240) [vR Γ 0, vI a0, vI a1, vI a2] γ (E 0 γ a0 a1 a2)) (hx202 : ∀ (γ : St) (x121 : Int) (x122 : Int), i32 x121 → i32 x122 → SB Γ BM mt_M_putIn (RmT (n9 + 1 + 6) (70 * (n9 + 1) + 240)) 0 0 (KT Γ BM mt_M_putIn.2.2.2) 202 [(0, vR Γ 0), (1, vI x121), (4, vI x122)] [] γ (x202 γ x121 x122)) : ∀ (n : Nat) (γ : St) (x103 : Int) (x104 : Int) (x105 : Int), i32 x103 → i32 x104 → i32 x105 → SB Γ BM mt_M_putIn (RmT (n9 + 1 + 6) (70 * (n9 + 1) + 240)) 0 0 (KT Γ BM mt_M_putIn.2.2.2) 147 [(0, vR Γ 0), (1, vI x103), (4, vI x104), (5, vI x105)] [] γ (f_M_putIn_L147 E x202 n γ x103 x104 x105) := by
  intro n
  induction n with
  | zero => intros; exact sb_none
  | succ n ih =>
    intro γ x103 x104 x105 hx103 hx104 hx105
    unfold f_M_putIn_L147
    refine sb_iload 3 d_M_putIn_147 rfl ?_
    refine sb_aload_n 0 d_M_putIn_149 rfl ?_
    refine g_M_50 d_M_putIn_150 ?_
    refine sb_iload_n 1 d_M_putIn_153 rfl ?_
    refine sb_iconst d_M_putIn_154 ?_
    refine sb_iadd d_M_putIn_155 ?_
    refine sb_chk (fun c107 => ?_)
    refine al_M_4 d_M_putIn_156 (fun _ c108 => ?_)
    refine sb_icmp_ge 202 hx105 c108 d_M_putIn_157 (by decide) (fun _ => ?_) (fun _ => ?_)
    · exact sb_lv [0, 1, 2] rfl (hx202 γ x103 x104 hx103 hx104)
    · refine sb_aload_n 0 d_M_putIn_160 rfl ?_
      refine g_M_205 d_M_putIn_161 ?_
      refine sb_aload_n 0 d_M_putIn_164 rfl ?_
      refine g_M_169 d_M_putIn_165 (fun c110 => ?_)
      refine sb_iload 2 d_M_putIn_168 rfl ?_
      refine as_M_42 hx104 d_M_putIn_170 (fun _ => ?_)
      refine sb_aps (fun γ111 => ?_)
      refine sb_aload_n 0 d_M_putIn_171 rfl ?_
      refine g_M_208 d_M_putIn_172 ?_
      refine sb_aload_n 0 d_M_putIn_175 rfl ?_
      refine sb_dup d_M_putIn_176 rfl ?_
      refine g_M_169 d_M_putIn_177 (fun c113 => ?_)
      refine sb_dup_x1 d_M_putIn_180 rfl rfl ?_
      refine sb_iconst d_M_putIn_181 ?_
      refine sb_iadd d_M_putIn_182 ?_
      refine sb_chk (fun c114 => ?_)
      refine p_M_169 c114 d_M_putIn_183 ?_
      refine sb_aps (fun γ115 => ?_)
      refine sb_iload 3 d_M_putIn_186 rfl ?_
      refine sb_aload_n 0 d_M_putIn_188 rfl ?_
      refine g_M_50 d_M_putIn_189 ?_
      refine sb_iload_n 1 d_M_putIn_192 rfl ?_
      refine al_M_4 d_M_putIn_193 (fun _ c117 => ?_)
      refine sb_isub d_M_putIn_194 ?_
      refine sb_chk (fun c118 => ?_)
      refine as_M_43 c118 d_M_putIn_195 (fun _ => ?_)
      refine sb_aps (fun γ119 => ?_)
      refine sb_iinc 3 [(5, vI (x105 + 1)), (0, vR Γ 0), (1, vI x103), (4, vI x104)] d_M_putIn_196 rfl (by decide) rfl ?_
      refine sb_chk (fun c120 => ?_)
      refine sb_goto 147 d_M_putIn_199 (by decide) ?_
      exact sb_lv [1, 2, 3, 0] rfl (ih γ119 x103 x104 (x105 + 1) hx103 hx104 c120)
set_option maxHeartbeats 4000000 in
theorem c_M_putIn {Γ : Ctx} {n9 : Nat} {E : Nat → St → Int → Int → Int → Option Res} (hE0 : ∀ (γ : St) (a0 : Int) (a1 : Int) (a2 : Int), i32 a0 → i32 a1 → i32 a2 → TC Γ BM y_M_putIn mt_M_putIn (n9 + 6) (70 * n9 + 240) [vR Γ 0, vI a0, vI a1, vI a2] γ (E 0 γ a0 a1 a2)) (γ : St) (a0 : Int) (a1 : Int) (a2 : Int) (ha0 : i32 a0) (ha1 : i32 a1) (ha2 : i32 a2) : TC Γ BM y_M_putIn mt_M_putIn (n9 + 1 + 6) (70 * (n9 + 1) + 240) [vR Γ 0, vI a0, vI a1, vI a2] γ (f_M_putIn E γ a0 a1 a2) := by
  refine tc_of (by decide) rfl (Nat.le_of_ble_eq_true rfl) ?_
  show SB Γ BM mt_M_putIn (RmT (n9 + 1 + 6) (70 * (n9 + 1) + 240)) 0 0 (KT Γ BM mt_M_putIn.2.2.2) 0 [(0, vR Γ 0), (1, vI a0), (2, vI a1), (3, vI a2)] [] γ _
  unfold f_M_putIn
  refine sb_aload_n 0 d_M_putIn_0 rfl ?_
  refine sb_dup d_M_putIn_1 rfl ?_
  refine g_M_166 d_M_putIn_2 (fun c123 => ?_)
  refine sb_dup_x1 d_M_putIn_5 rfl rfl ?_
  refine sb_iconst d_M_putIn_6 ?_
  refine sb_iadd d_M_putIn_7 ?_
  refine sb_chk (fun c124 => ?_)
  refine p_M_166 c124 d_M_putIn_8 ?_
  refine sb_aps (fun γ125 => ?_)
  refine sb_istore [(4, vI (γ 0 50)), (0, vR Γ 0), (1, vI a0), (2, vI a1), (3, vI a2)] d_M_putIn_11 (by decide) rfl ?_
  refine sb_nme (e := γ 0 50) (fun x126 => [(4, vI x126), (0, vR Γ 0), (1, vI a0), (2, vI a1), (3, vI a2)]) c123 (fun x126 hx126 => ?_)
  refine sb_aload_n 1 d_M_putIn_13 rfl ?_
  refine g_M_184 d_M_putIn_14 ?_
  refine sb_iload 0 d_M_putIn_17 rfl ?_
  refine sb_iload_n 2 d_M_putIn_19 rfl ?_
  refine as_M_35 ha0 d_M_putIn_20 (fun _ => ?_)
  refine sb_aps (fun γ128 => ?_)
  refine sb_aload_n 1 d_M_putIn_21 rfl ?_
  refine g_M_187 d_M_putIn_22 ?_
  refine sb_iload 0 d_M_putIn_25 rfl ?_
  refine sb_iload_n 3 d_M_putIn_27 rfl ?_
  refine as_M_36 ha1 d_M_putIn_28 (fun _ => ?_)
  refine sb_aps (fun γ130 => ?_)
  refine sb_aload_n 1 d_M_putIn_29 rfl ?_
  refine g_M_190 d_M_putIn_30 ?_
  refine sb_iload 0 d_M_putIn_33 rfl ?_
  refine sb_iload_n 4 d_M_putIn_35 rfl ?_
  refine as_M_37 ha2 d_M_putIn_36 (fun _ => ?_)
  refine sb_aps (fun γ132 => ?_)
  refine sb_aload_n 1 d_M_putIn_37 rfl ?_
  refine g_M_193 d_M_putIn_38 ?_
  refine sb_iload 0 d_M_putIn_41 rfl ?_
  refine sb_aload_n 1 d_M_putIn_43 rfl ?_
  refine g_M_169 d_M_putIn_44 (fun c134 => ?_)
  refine as_M_38 c134 d_M_putIn_47 (fun _ => ?_)
  refine sb_aps (fun γ135 => ?_)
  refine sb_aload_n 1 d_M_putIn_48 rfl ?_
  refine g_M_196 d_M_putIn_49 ?_
  refine sb_iload 0 d_M_putIn_52 rfl ?_
  refine sb_aload_n 1 d_M_putIn_54 rfl ?_
  refine g_M_172 d_M_putIn_55 (fun c137 => ?_)
  refine as_M_39 c137 d_M_putIn_58 (fun _ => ?_)
  refine sb_aps (fun γ138 => ?_)
  refine sb_aload_n 1 d_M_putIn_59 rfl ?_
  refine g_M_199 d_M_putIn_60 ?_
  refine sb_iload 0 d_M_putIn_63 rfl ?_
  refine sb_aload_n 1 d_M_putIn_65 rfl ?_
  refine g_M_178 d_M_putIn_66 (fun c140 => ?_)
  refine as_M_40 c140 d_M_putIn_69 (fun _ => ?_)
  refine sb_aps (fun γ141 => ?_)
  refine sb_aload_n 1 d_M_putIn_70 rfl ?_
  refine sb_dup d_M_putIn_71 rfl ?_
  refine g_M_172 d_M_putIn_72 (fun c142 => ?_)
  refine sb_aload_n 1 d_M_putIn_75 rfl ?_
  refine g_M_65 d_M_putIn_76 ?_
  refine sb_iload_n 2 d_M_putIn_79 rfl ?_
  refine al_M_9 d_M_putIn_80 (fun _ c144 => ?_)
  refine sb_iadd d_M_putIn_81 ?_
  refine sb_chk (fun c145 => ?_)
  refine p_M_172 c145 d_M_putIn_82 ?_
  refine sb_aps (fun γ146 => ?_)
  refine sb_aload_n 1 d_M_putIn_85 rfl ?_
  refine sb_dup d_M_putIn_86 rfl ?_
  refine g_M_178 d_M_putIn_87 (fun c147 => ?_)
  refine sb_aload_n 1 d_M_putIn_90 rfl ?_
  refine g_M_62 d_M_putIn_91 ?_
  refine sb_iload_n 2 d_M_putIn_94 rfl ?_
  refine al_M_8 d_M_putIn_95 (fun _ c149 => ?_)
  refine sb_iadd d_M_putIn_96 ?_
  refine sb_chk (fun c150 => ?_)
  refine p_M_178 c150 d_M_putIn_97 ?_
  refine sb_aps (fun γ151 => ?_)
  refine sb_aload_n 1 d_M_putIn_100 rfl ?_
  refine g_M_169 d_M_putIn_101 (fun c152 => ?_)
  refine sb_aload_n 1 d_M_putIn_104 rfl ?_
  refine g_M_50 d_M_putIn_105 ?_
  refine sb_iload_n 2 d_M_putIn_108 rfl ?_
  refine sb_iconst d_M_putIn_109 ?_
  refine sb_iadd d_M_putIn_110 ?_
  refine sb_chk (fun c154 => ?_)
  refine al_M_4 d_M_putIn_111 (fun _ c155 => ?_)
  refine sb_iadd d_M_putIn_112 ?_
  refine sb_chk (fun c156 => ?_)
  refine sb_aload_n 1 d_M_putIn_113 rfl ?_
  refine g_M_50 d_M_putIn_114 ?_
  refine sb_iload_n 2 d_M_putIn_117 rfl ?_
  refine al_M_4 d_M_putIn_118 (fun _ c158 => ?_)
  refine sb_isub d_M_putIn_119 ?_
  refine sb_chk (fun c159 => ?_)
  refine sb_sipush d_M_putIn_120 (by decide) ?_
  refine sb_icmp_le 139 c159 (by decide) d_M_putIn_123 (by decide) (fun _ => ?_) (fun _ => ?_)
  · refine sb_aload_n 1 d_M_putIn_139 rfl ?_
    refine g_M_50 d_M_putIn_140 ?_
    refine sb_iload_n 2 d_M_putIn_143 rfl ?_
    refine al_M_4 d_M_putIn_144 (fun _ c161 => ?_)
    refine sb_istore [(5, vI (γ151 4 a0)), (4, vI x126), (0, vR Γ 0), (1, vI a0), (2, vI a1), (3, vI a2)] d_M_putIn_145 (by decide) rfl ?_
    refine sb_nme (e := γ151 4 a0) (fun x162 => [(5, vI x162), (4, vI x126), (0, vR Γ 0), (1, vI a0), (2, vI a1), (3, vI a2)]) c161 (fun x162 hx162 => ?_)
    exact sb_lv [2, 3, 1, 0] rfl (s_M_putIn_L147 hE0 (s_M_putIn_b202 hE0) FU γ151 a0 x126 x162 ha0 hx126 hx162)
  · refine sb_bd (j := 0) (i := 1) rfl (fun c163 => ?_)
    exact sb_thr rfl d_M_putIn_126 d_M_putIn_129 (pu_iconst d_M_putIn_130) (pu_fld kf_M 1 1 rfl rfl rfl (by decide) fl_M_14 d_M_putIn_131 d_M_putIn_132) d_M_putIn_135 d_M_putIn_138 (by decide) c163 ⟨by first | omega | (simp only [RmT, RmN]; omega), by first | omega | (simp only [RmT, RmN]; omega)⟩
def MP : Nat → Nat → St → Int → Int → Int → Option Res
  | 0, _, _, _, _, _ => none
  | n + 1, t, γ, a0, a1, a2 =>
    if t = 0 then f_M_putIn (MP n) γ a0 a1 a2 else none
theorem MP_c {Γ : Ctx} : ∀ n : Nat, (∀ (γ : St) (a0 : Int) (a1 : Int) (a2 : Int), i32 a0 → i32 a1 → i32 a2 → TC Γ BM y_M_putIn mt_M_putIn (n + 6) (70 * n + 240) [vR Γ 0, vI a0, vI a1, vI a2] γ (MP n 0 γ a0 a1 a2)) := by
  intro n
  induction n with
  | zero => exact fun _ _ _ _ _ _ _ => tc_none
  | succ n ih =>
    have h0 := ih
    exact fun γ a0 a1 a2 ha0 ha1 ha2 => c_M_putIn h0 γ a0 a1 a2 ha0 ha1 ha2
def F_M_putIn (γ : St) (a0 : Int) (a1 : Int) (a2 : Int) : Option Res := MP 100 0 γ a0 a1 a2
theorem C_M_putIn {Γ : Ctx} (γ : St) (a0 : Int) (a1 : Int) (a2 : Int) (ha0 : i32 a0) (ha1 : i32 a1) (ha2 : i32 a2) : TC Γ BM y_M_putIn mt_M_putIn 106 7240 [vR Γ 0, vI a0, vI a1, vI a2] γ (F_M_putIn γ a0 a1 a2) := (MP_c 100) γ a0 a1 a2 ha0 ha1 ha2
