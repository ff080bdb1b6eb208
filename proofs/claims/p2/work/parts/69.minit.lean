/-! the constructor of the reference -/
theorem d_M_init_0 : decode b_M_init 0 = .ok (.aload_n 0, 1) := by decide +kernel
theorem d_M_init_1 : decode b_M_init 1 = .ok (.invokespecial 1, 3) := by decide +kernel
theorem d_M_init_4 : decode b_M_init 4 = .ok (.aload_n 0, 1) := by decide +kernel
theorem d_M_init_5 : decode b_M_init 5 = .ok (.ldc 7, 2) := by decide +kernel
theorem d_M_init_7 : decode b_M_init 7 = .ok (.newarray .byte, 2) := by decide +kernel
theorem d_M_init_9 : decode b_M_init 9 = .ok (.putfield 8, 3) := by decide +kernel
theorem d_M_init_12 : decode b_M_init 12 = .ok (.aload_n 0, 1) := by decide +kernel
theorem d_M_init_13 : decode b_M_init 13 = .ok (.iconst 0, 1) := by decide +kernel
theorem d_M_init_14 : decode b_M_init 14 = .ok (.putfield 14, 3) := by decide +kernel
theorem d_M_init_17 : decode b_M_init 17 = .ok (.aload_n 0, 1) := by decide +kernel
theorem d_M_init_18 : decode b_M_init 18 = .ok (.iconst 0, 1) := by decide +kernel
theorem d_M_init_19 : decode b_M_init 19 = .ok (.putfield 18, 3) := by decide +kernel
theorem d_M_init_22 : decode b_M_init 22 = .ok (.aload_n 0, 1) := by decide +kernel
theorem d_M_init_23 : decode b_M_init 23 = .ok (.iconst 0, 1) := by decide +kernel
theorem d_M_init_24 : decode b_M_init 24 = .ok (.putfield 21, 3) := by decide +kernel
theorem d_M_init_27 : decode b_M_init 27 = .ok (.aload_n 0, 1) := by decide +kernel
theorem d_M_init_28 : decode b_M_init 28 = .ok (.iconst 0, 1) := by decide +kernel
theorem d_M_init_29 : decode b_M_init 29 = .ok (.putfield 24, 3) := by decide +kernel
theorem d_M_init_32 : decode b_M_init 32 = .ok (.aload_n 0, 1) := by decide +kernel
theorem d_M_init_33 : decode b_M_init 33 = .ok (.iconst 0, 1) := by decide +kernel
theorem d_M_init_34 : decode b_M_init 34 = .ok (.putfield 27, 3) := by decide +kernel
theorem d_M_init_37 : decode b_M_init 37 = .ok (.aload_n 0, 1) := by decide +kernel
theorem d_M_init_38 : decode b_M_init 38 = .ok (.iconst 0, 1) := by decide +kernel
theorem d_M_init_39 : decode b_M_init 39 = .ok (.putfield 30, 3) := by decide +kernel
theorem d_M_init_42 : decode b_M_init 42 = .ok (.aload_n 0, 1) := by decide +kernel
theorem d_M_init_43 : decode b_M_init 43 = .ok (.iconst 0, 1) := by decide +kernel
theorem d_M_init_44 : decode b_M_init 44 = .ok (.putfield 33, 3) := by decide +kernel
theorem d_M_init_47 : decode b_M_init 47 = .ok (.aload_n 0, 1) := by decide +kernel
theorem d_M_init_48 : decode b_M_init 48 = .ok (.iconst 0, 1) := by decide +kernel
theorem d_M_init_49 : decode b_M_init 49 = .ok (.putfield 36, 3) := by decide +kernel
theorem d_M_init_52 : decode b_M_init 52 = .ok (.aload_n 0, 1) := by decide +kernel
theorem d_M_init_53 : decode b_M_init 53 = .ok (.iconst 0, 1) := by decide +kernel
theorem d_M_init_54 : decode b_M_init 54 = .ok (.putfield 39, 3) := by decide +kernel
theorem d_M_init_57 : decode b_M_init 57 = .ok (.aload_n 0, 1) := by decide +kernel
theorem d_M_init_58 : decode b_M_init 58 = .ok (.bipush 60, 2) := by decide +kernel
theorem d_M_init_60 : decode b_M_init 60 = .ok (.newarray .int, 2) := by decide +kernel
theorem d_M_init_62 : decode b_M_init 62 = .ok (.putfield 43, 3) := by decide +kernel
theorem d_M_init_65 : decode b_M_init 65 = .ok (.aload_n 0, 1) := by decide +kernel
theorem d_M_init_66 : decode b_M_init 66 = .ok (.bipush 60, 2) := by decide +kernel
theorem d_M_init_68 : decode b_M_init 68 = .ok (.newarray .int, 2) := by decide +kernel
theorem d_M_init_70 : decode b_M_init 70 = .ok (.putfield 47, 3) := by decide +kernel
theorem d_M_init_73 : decode b_M_init 73 = .ok (.aload_n 0, 1) := by decide +kernel
theorem d_M_init_74 : decode b_M_init 74 = .ok (.bipush 61, 2) := by decide +kernel
theorem d_M_init_76 : decode b_M_init 76 = .ok (.newarray .int, 2) := by decide +kernel
theorem d_M_init_78 : decode b_M_init 78 = .ok (.putfield 50, 3) := by decide +kernel
theorem d_M_init_81 : decode b_M_init 81 = .ok (.aload_n 0, 1) := by decide +kernel
theorem d_M_init_82 : decode b_M_init 82 = .ok (.bipush 60, 2) := by decide +kernel
theorem d_M_init_84 : decode b_M_init 84 = .ok (.newarray .int, 2) := by decide +kernel
theorem d_M_init_86 : decode b_M_init 86 = .ok (.putfield 53, 3) := by decide +kernel
theorem d_M_init_89 : decode b_M_init 89 = .ok (.aload_n 0, 1) := by decide +kernel
theorem d_M_init_90 : decode b_M_init 90 = .ok (.bipush 60, 2) := by decide +kernel
theorem d_M_init_92 : decode b_M_init 92 = .ok (.newarray .int, 2) := by decide +kernel
theorem d_M_init_94 : decode b_M_init 94 = .ok (.putfield 56, 3) := by decide +kernel
theorem d_M_init_97 : decode b_M_init 97 = .ok (.aload_n 0, 1) := by decide +kernel
theorem d_M_init_98 : decode b_M_init 98 = .ok (.bipush 61, 2) := by decide +kernel
theorem d_M_init_100 : decode b_M_init 100 = .ok (.newarray .int, 2) := by decide +kernel
theorem d_M_init_102 : decode b_M_init 102 = .ok (.putfield 59, 3) := by decide +kernel
theorem d_M_init_105 : decode b_M_init 105 = .ok (.aload_n 0, 1) := by decide +kernel
theorem d_M_init_106 : decode b_M_init 106 = .ok (.bipush 60, 2) := by decide +kernel
theorem d_M_init_108 : decode b_M_init 108 = .ok (.newarray .int, 2) := by decide +kernel
theorem d_M_init_110 : decode b_M_init 110 = .ok (.putfield 62, 3) := by decide +kernel
theorem d_M_init_113 : decode b_M_init 113 = .ok (.aload_n 0, 1) := by decide +kernel
theorem d_M_init_114 : decode b_M_init 114 = .ok (.bipush 60, 2) := by decide +kernel
theorem d_M_init_116 : decode b_M_init 116 = .ok (.newarray .int, 2) := by decide +kernel
theorem d_M_init_118 : decode b_M_init 118 = .ok (.putfield 65, 3) := by decide +kernel
theorem d_M_init_121 : decode b_M_init 121 = .ok (.aload_n 0, 1) := by decide +kernel
theorem d_M_init_122 : decode b_M_init 122 = .ok (.iconst 0, 1) := by decide +kernel
theorem d_M_init_123 : decode b_M_init 123 = .ok (.putfield 68, 3) := by decide +kernel
theorem d_M_init_126 : decode b_M_init 126 = .ok (.aload_n 0, 1) := by decide +kernel
theorem d_M_init_127 : decode b_M_init 127 = .ok (.iconst 0, 1) := by decide +kernel
theorem d_M_init_128 : decode b_M_init 128 = .ok (.putfield 71, 3) := by decide +kernel
theorem d_M_init_131 : decode b_M_init 131 = .ok (.aload_n 0, 1) := by decide +kernel
theorem d_M_init_132 : decode b_M_init 132 = .ok (.sipush 6000, 3) := by decide +kernel
theorem d_M_init_135 : decode b_M_init 135 = .ok (.newarray .int, 2) := by decide +kernel
theorem d_M_init_137 : decode b_M_init 137 = .ok (.putfield 74, 3) := by decide +kernel
theorem d_M_init_140 : decode b_M_init 140 = .ok (.aload_n 0, 1) := by decide +kernel
theorem d_M_init_141 : decode b_M_init 141 = .ok (.sipush 6000, 3) := by decide +kernel
theorem d_M_init_144 : decode b_M_init 144 = .ok (.newarray .int, 2) := by decide +kernel
theorem d_M_init_146 : decode b_M_init 146 = .ok (.putfield 77, 3) := by decide +kernel
theorem d_M_init_149 : decode b_M_init 149 = .ok (.aload_n 0, 1) := by decide +kernel
theorem d_M_init_150 : decode b_M_init 150 = .ok (.sipush 6000, 3) := by decide +kernel
theorem d_M_init_153 : decode b_M_init 153 = .ok (.newarray .int, 2) := by decide +kernel
theorem d_M_init_155 : decode b_M_init 155 = .ok (.putfield 80, 3) := by decide +kernel
theorem d_M_init_158 : decode b_M_init 158 = .ok (.aload_n 0, 1) := by decide +kernel
theorem d_M_init_159 : decode b_M_init 159 = .ok (.sipush 6000, 3) := by decide +kernel
theorem d_M_init_162 : decode b_M_init 162 = .ok (.newarray .int, 2) := by decide +kernel
theorem d_M_init_164 : decode b_M_init 164 = .ok (.putfield 83, 3) := by decide +kernel
theorem d_M_init_167 : decode b_M_init 167 = .ok (.aload_n 0, 1) := by decide +kernel
theorem d_M_init_168 : decode b_M_init 168 = .ok (.sipush 6000, 3) := by decide +kernel
theorem d_M_init_171 : decode b_M_init 171 = .ok (.newarray .boolean, 2) := by decide +kernel
theorem d_M_init_173 : decode b_M_init 173 = .ok (.putfield 86, 3) := by decide +kernel
theorem d_M_init_176 : decode b_M_init 176 = .ok (.aload_n 0, 1) := by decide +kernel
theorem d_M_init_177 : decode b_M_init 177 = .ok (.sipush 17000, 3) := by decide +kernel
theorem d_M_init_180 : decode b_M_init 180 = .ok (.newarray .int, 2) := by decide +kernel
theorem d_M_init_182 : decode b_M_init 182 = .ok (.putfield 90, 3) := by decide +kernel
theorem d_M_init_185 : decode b_M_init 185 = .ok (.aload_n 0, 1) := by decide +kernel
theorem d_M_init_186 : decode b_M_init 186 = .ok (.sipush 17001, 3) := by decide +kernel
theorem d_M_init_189 : decode b_M_init 189 = .ok (.newarray .int, 2) := by decide +kernel
theorem d_M_init_191 : decode b_M_init 191 = .ok (.putfield 93, 3) := by decide +kernel
theorem d_M_init_194 : decode b_M_init 194 = .ok (.aload_n 0, 1) := by decide +kernel
theorem d_M_init_195 : decode b_M_init 195 = .ok (.sipush 17000, 3) := by decide +kernel
theorem d_M_init_198 : decode b_M_init 198 = .ok (.newarray .int, 2) := by decide +kernel
theorem d_M_init_200 : decode b_M_init 200 = .ok (.putfield 96, 3) := by decide +kernel
theorem d_M_init_203 : decode b_M_init 203 = .ok (.aload_n 0, 1) := by decide +kernel
theorem d_M_init_204 : decode b_M_init 204 = .ok (.ldc 99, 2) := by decide +kernel
theorem d_M_init_206 : decode b_M_init 206 = .ok (.newarray .int, 2) := by decide +kernel
theorem d_M_init_208 : decode b_M_init 208 = .ok (.putfield 100, 3) := by decide +kernel
theorem d_M_init_211 : decode b_M_init 211 = .ok (.aload_n 0, 1) := by decide +kernel
theorem d_M_init_212 : decode b_M_init 212 = .ok (.sipush 17000, 3) := by decide +kernel
theorem d_M_init_215 : decode b_M_init 215 = .ok (.newarray .int, 2) := by decide +kernel
theorem d_M_init_217 : decode b_M_init 217 = .ok (.putfield 103, 3) := by decide +kernel
theorem d_M_init_220 : decode b_M_init 220 = .ok (.aload_n 0, 1) := by decide +kernel
theorem d_M_init_221 : decode b_M_init 221 = .ok (.iconst 0, 1) := by decide +kernel
theorem d_M_init_222 : decode b_M_init 222 = .ok (.putfield 106, 3) := by decide +kernel
theorem d_M_init_225 : decode b_M_init 225 = .ok (.aload_n 0, 1) := by decide +kernel
theorem d_M_init_226 : decode b_M_init 226 = .ok (.iconst 0, 1) := by decide +kernel
theorem d_M_init_227 : decode b_M_init 227 = .ok (.putfield 109, 3) := by decide +kernel
theorem d_M_init_230 : decode b_M_init 230 = .ok (.aload_n 0, 1) := by decide +kernel
theorem d_M_init_231 : decode b_M_init 231 = .ok (.ldc 99, 2) := by decide +kernel
theorem d_M_init_233 : decode b_M_init 233 = .ok (.newarray .int, 2) := by decide +kernel
theorem d_M_init_235 : decode b_M_init 235 = .ok (.putfield 112, 3) := by decide +kernel
theorem d_M_init_238 : decode b_M_init 238 = .ok (.aload_n 0, 1) := by decide +kernel
theorem d_M_init_239 : decode b_M_init 239 = .ok (.ldc 99, 2) := by decide +kernel
theorem d_M_init_241 : decode b_M_init 241 = .ok (.newarray .int, 2) := by decide +kernel
theorem d_M_init_243 : decode b_M_init 243 = .ok (.putfield 115, 3) := by decide +kernel
theorem d_M_init_246 : decode b_M_init 246 = .ok (.aload_n 0, 1) := by decide +kernel
theorem d_M_init_247 : decode b_M_init 247 = .ok (.ldc 99, 2) := by decide +kernel
theorem d_M_init_249 : decode b_M_init 249 = .ok (.newarray .int, 2) := by decide +kernel
theorem d_M_init_251 : decode b_M_init 251 = .ok (.putfield 118, 3) := by decide +kernel
theorem d_M_init_254 : decode b_M_init 254 = .ok (.aload_n 0, 1) := by decide +kernel
theorem d_M_init_255 : decode b_M_init 255 = .ok (.ldc 99, 2) := by decide +kernel
theorem d_M_init_257 : decode b_M_init 257 = .ok (.newarray .int, 2) := by decide +kernel
theorem d_M_init_259 : decode b_M_init 259 = .ok (.putfield 121, 3) := by decide +kernel
theorem d_M_init_262 : decode b_M_init 262 = .ok (.aload_n 0, 1) := by decide +kernel
theorem d_M_init_263 : decode b_M_init 263 = .ok (.ldc 99, 2) := by decide +kernel
theorem d_M_init_265 : decode b_M_init 265 = .ok (.newarray .int, 2) := by decide +kernel
theorem d_M_init_267 : decode b_M_init 267 = .ok (.putfield 124, 3) := by decide +kernel
theorem d_M_init_270 : decode b_M_init 270 = .ok (.aload_n 0, 1) := by decide +kernel
theorem d_M_init_271 : decode b_M_init 271 = .ok (.ldc 99, 2) := by decide +kernel
theorem d_M_init_273 : decode b_M_init 273 = .ok (.newarray .int, 2) := by decide +kernel
theorem d_M_init_275 : decode b_M_init 275 = .ok (.putfield 127, 3) := by decide +kernel
theorem d_M_init_278 : decode b_M_init 278 = .ok (.aload_n 0, 1) := by decide +kernel
theorem d_M_init_279 : decode b_M_init 279 = .ok (.ldc 99, 2) := by decide +kernel
theorem d_M_init_281 : decode b_M_init 281 = .ok (.newarray .int, 2) := by decide +kernel
theorem d_M_init_283 : decode b_M_init 283 = .ok (.putfield 130, 3) := by decide +kernel
theorem d_M_init_286 : decode b_M_init 286 = .ok (.aload_n 0, 1) := by decide +kernel
theorem d_M_init_287 : decode b_M_init 287 = .ok (.ldc 99, 2) := by decide +kernel
theorem d_M_init_289 : decode b_M_init 289 = .ok (.newarray .int, 2) := by decide +kernel
theorem d_M_init_291 : decode b_M_init 291 = .ok (.putfield 133, 3) := by decide +kernel
theorem d_M_init_294 : decode b_M_init 294 = .ok (.aload_n 0, 1) := by decide +kernel
theorem d_M_init_295 : decode b_M_init 295 = .ok (.iconst 0, 1) := by decide +kernel
theorem d_M_init_296 : decode b_M_init 296 = .ok (.putfield 136, 3) := by decide +kernel
theorem d_M_init_299 : decode b_M_init 299 = .ok (.aload_n 0, 1) := by decide +kernel
theorem d_M_init_300 : decode b_M_init 300 = .ok (.ldc 99, 2) := by decide +kernel
theorem d_M_init_302 : decode b_M_init 302 = .ok (.newarray .boolean, 2) := by decide +kernel
theorem d_M_init_304 : decode b_M_init 304 = .ok (.putfield 139, 3) := by decide +kernel
theorem d_M_init_307 : decode b_M_init 307 = .ok (.aload_n 0, 1) := by decide +kernel
theorem d_M_init_308 : decode b_M_init 308 = .ok (.iconst 0, 1) := by decide +kernel
theorem d_M_init_309 : decode b_M_init 309 = .ok (.putfield 142, 3) := by decide +kernel
theorem d_M_init_312 : decode b_M_init 312 = .ok (.aload_n 0, 1) := by decide +kernel
theorem d_M_init_313 : decode b_M_init 313 = .ok (.ldc 99, 2) := by decide +kernel
theorem d_M_init_315 : decode b_M_init 315 = .ok (.newarray .int, 2) := by decide +kernel
theorem d_M_init_317 : decode b_M_init 317 = .ok (.putfield 145, 3) := by decide +kernel
theorem d_M_init_320 : decode b_M_init 320 = .ok (.aload_n 0, 1) := by decide +kernel
theorem d_M_init_321 : decode b_M_init 321 = .ok (.ldc 99, 2) := by decide +kernel
theorem d_M_init_323 : decode b_M_init 323 = .ok (.newarray .int, 2) := by decide +kernel
theorem d_M_init_325 : decode b_M_init 325 = .ok (.putfield 148, 3) := by decide +kernel
theorem d_M_init_328 : decode b_M_init 328 = .ok (.aload_n 0, 1) := by decide +kernel
theorem d_M_init_329 : decode b_M_init 329 = .ok (.ldc 99, 2) := by decide +kernel
theorem d_M_init_331 : decode b_M_init 331 = .ok (.newarray .int, 2) := by decide +kernel
theorem d_M_init_333 : decode b_M_init 333 = .ok (.putfield 151, 3) := by decide +kernel
theorem d_M_init_336 : decode b_M_init 336 = .ok (.aload_n 0, 1) := by decide +kernel
theorem d_M_init_337 : decode b_M_init 337 = .ok (.sipush 6000, 3) := by decide +kernel
theorem d_M_init_340 : decode b_M_init 340 = .ok (.newarray .int, 2) := by decide +kernel
theorem d_M_init_342 : decode b_M_init 342 = .ok (.putfield 154, 3) := by decide +kernel
theorem d_M_init_345 : decode b_M_init 345 = .ok (.aload_n 0, 1) := by decide +kernel
theorem d_M_init_346 : decode b_M_init 346 = .ok (.sipush 6000, 3) := by decide +kernel
theorem d_M_init_349 : decode b_M_init 349 = .ok (.newarray .int, 2) := by decide +kernel
theorem d_M_init_351 : decode b_M_init 351 = .ok (.putfield 157, 3) := by decide +kernel
theorem d_M_init_354 : decode b_M_init 354 = .ok (.aload_n 0, 1) := by decide +kernel
theorem d_M_init_355 : decode b_M_init 355 = .ok (.bipush 60, 2) := by decide +kernel
theorem d_M_init_357 : decode b_M_init 357 = .ok (.newarray .int, 2) := by decide +kernel
theorem d_M_init_359 : decode b_M_init 359 = .ok (.putfield 160, 3) := by decide +kernel
theorem d_M_init_362 : decode b_M_init 362 = .ok (.aload_n 0, 1) := by decide +kernel
theorem d_M_init_363 : decode b_M_init 363 = .ok (.iconst (-1), 1) := by decide +kernel
theorem d_M_init_364 : decode b_M_init 364 = .ok (.putfield 163, 3) := by decide +kernel
theorem d_M_init_367 : decode b_M_init 367 = .ok (.aload_n 0, 1) := by decide +kernel
theorem d_M_init_368 : decode b_M_init 368 = .ok (.iconst 0, 1) := by decide +kernel
theorem d_M_init_369 : decode b_M_init 369 = .ok (.putfield 166, 3) := by decide +kernel
theorem d_M_init_372 : decode b_M_init 372 = .ok (.aload_n 0, 1) := by decide +kernel
theorem d_M_init_373 : decode b_M_init 373 = .ok (.iconst 0, 1) := by decide +kernel
theorem d_M_init_374 : decode b_M_init 374 = .ok (.putfield 169, 3) := by decide +kernel
theorem d_M_init_377 : decode b_M_init 377 = .ok (.aload_n 0, 1) := by decide +kernel
theorem d_M_init_378 : decode b_M_init 378 = .ok (.iconst 0, 1) := by decide +kernel
theorem d_M_init_379 : decode b_M_init 379 = .ok (.putfield 172, 3) := by decide +kernel
theorem d_M_init_382 : decode b_M_init 382 = .ok (.aload_n 0, 1) := by decide +kernel
theorem d_M_init_383 : decode b_M_init 383 = .ok (.iconst 0, 1) := by decide +kernel
theorem d_M_init_384 : decode b_M_init 384 = .ok (.putfield 175, 3) := by decide +kernel
theorem d_M_init_387 : decode b_M_init 387 = .ok (.aload_n 0, 1) := by decide +kernel
theorem d_M_init_388 : decode b_M_init 388 = .ok (.iconst 0, 1) := by decide +kernel
theorem d_M_init_389 : decode b_M_init 389 = .ok (.putfield 178, 3) := by decide +kernel
theorem d_M_init_392 : decode b_M_init 392 = .ok (.aload_n 0, 1) := by decide +kernel
theorem d_M_init_393 : decode b_M_init 393 = .ok (.iconst 0, 1) := by decide +kernel
theorem d_M_init_394 : decode b_M_init 394 = .ok (.putfield 181, 3) := by decide +kernel
theorem d_M_init_397 : decode b_M_init 397 = .ok (.aload_n 0, 1) := by decide +kernel
theorem d_M_init_398 : decode b_M_init 398 = .ok (.sipush 3200, 3) := by decide +kernel
theorem d_M_init_401 : decode b_M_init 401 = .ok (.newarray .int, 2) := by decide +kernel
theorem d_M_init_403 : decode b_M_init 403 = .ok (.putfield 184, 3) := by decide +kernel
theorem d_M_init_406 : decode b_M_init 406 = .ok (.aload_n 0, 1) := by decide +kernel
theorem d_M_init_407 : decode b_M_init 407 = .ok (.sipush 3200, 3) := by decide +kernel
theorem d_M_init_410 : decode b_M_init 410 = .ok (.newarray .int, 2) := by decide +kernel
theorem d_M_init_412 : decode b_M_init 412 = .ok (.putfield 187, 3) := by decide +kernel
theorem d_M_init_415 : decode b_M_init 415 = .ok (.aload_n 0, 1) := by decide +kernel
theorem d_M_init_416 : decode b_M_init 416 = .ok (.sipush 3200, 3) := by decide +kernel
theorem d_M_init_419 : decode b_M_init 419 = .ok (.newarray .int, 2) := by decide +kernel
theorem d_M_init_421 : decode b_M_init 421 = .ok (.putfield 190, 3) := by decide +kernel
theorem d_M_init_424 : decode b_M_init 424 = .ok (.aload_n 0, 1) := by decide +kernel
theorem d_M_init_425 : decode b_M_init 425 = .ok (.sipush 3200, 3) := by decide +kernel
theorem d_M_init_428 : decode b_M_init 428 = .ok (.newarray .int, 2) := by decide +kernel
theorem d_M_init_430 : decode b_M_init 430 = .ok (.putfield 193, 3) := by decide +kernel
theorem d_M_init_433 : decode b_M_init 433 = .ok (.aload_n 0, 1) := by decide +kernel
theorem d_M_init_434 : decode b_M_init 434 = .ok (.sipush 3200, 3) := by decide +kernel
theorem d_M_init_437 : decode b_M_init 437 = .ok (.newarray .int, 2) := by decide +kernel
theorem d_M_init_439 : decode b_M_init 439 = .ok (.putfield 196, 3) := by decide +kernel
theorem d_M_init_442 : decode b_M_init 442 = .ok (.aload_n 0, 1) := by decide +kernel
theorem d_M_init_443 : decode b_M_init 443 = .ok (.sipush 3200, 3) := by decide +kernel
theorem d_M_init_446 : decode b_M_init 446 = .ok (.newarray .int, 2) := by decide +kernel
theorem d_M_init_448 : decode b_M_init 448 = .ok (.putfield 199, 3) := by decide +kernel
theorem d_M_init_451 : decode b_M_init 451 = .ok (.aload_n 0, 1) := by decide +kernel
theorem d_M_init_452 : decode b_M_init 452 = .ok (.sipush 3200, 3) := by decide +kernel
theorem d_M_init_455 : decode b_M_init 455 = .ok (.newarray .int, 2) := by decide +kernel
theorem d_M_init_457 : decode b_M_init 457 = .ok (.putfield 202, 3) := by decide +kernel
theorem d_M_init_460 : decode b_M_init 460 = .ok (.aload_n 0, 1) := by decide +kernel
theorem d_M_init_461 : decode b_M_init 461 = .ok (.sipush 6100, 3) := by decide +kernel
theorem d_M_init_464 : decode b_M_init 464 = .ok (.newarray .int, 2) := by decide +kernel
theorem d_M_init_466 : decode b_M_init 466 = .ok (.putfield 205, 3) := by decide +kernel
theorem d_M_init_469 : decode b_M_init 469 = .ok (.aload_n 0, 1) := by decide +kernel
theorem d_M_init_470 : decode b_M_init 470 = .ok (.sipush 6100, 3) := by decide +kernel
theorem d_M_init_473 : decode b_M_init 473 = .ok (.newarray .int, 2) := by decide +kernel
theorem d_M_init_475 : decode b_M_init 475 = .ok (.putfield 208, 3) := by decide +kernel
theorem d_M_init_478 : decode b_M_init 478 = .ok (.aload_n 0, 1) := by decide +kernel
theorem d_M_init_479 : decode b_M_init 479 = .ok (.sipush 6101, 3) := by decide +kernel
theorem d_M_init_482 : decode b_M_init 482 = .ok (.newarray .int, 2) := by decide +kernel
theorem d_M_init_484 : decode b_M_init 484 = .ok (.putfield 211, 3) := by decide +kernel
theorem d_M_init_487 : decode b_M_init 487 = .ok (.aload_n 0, 1) := by decide +kernel
theorem d_M_init_488 : decode b_M_init 488 = .ok (.ldc 214, 2) := by decide +kernel
theorem d_M_init_490 : decode b_M_init 490 = .ok (.newarray .int, 2) := by decide +kernel
theorem d_M_init_492 : decode b_M_init 492 = .ok (.putfield 215, 3) := by decide +kernel
theorem d_M_init_495 : decode b_M_init 495 = .ok (.aload_n 0, 1) := by decide +kernel
theorem d_M_init_496 : decode b_M_init 496 = .ok (.iconst 0, 1) := by decide +kernel
theorem d_M_init_497 : decode b_M_init 497 = .ok (.putfield 218, 3) := by decide +kernel
theorem d_M_init_500 : decode b_M_init 500 = .ok (.aload_n 0, 1) := by decide +kernel
theorem d_M_init_501 : decode b_M_init 501 = .ok (.sipush 6100, 3) := by decide +kernel
theorem d_M_init_504 : decode b_M_init 504 = .ok (.newarray .boolean, 2) := by decide +kernel
theorem d_M_init_506 : decode b_M_init 506 = .ok (.putfield 221, 3) := by decide +kernel
theorem d_M_init_509 : decode b_M_init 509 = .ok (.aload_n 0, 1) := by decide +kernel
theorem d_M_init_510 : decode b_M_init 510 = .ok (.sipush 6100, 3) := by decide +kernel
theorem d_M_init_513 : decode b_M_init 513 = .ok (.newarray .int, 2) := by decide +kernel
theorem d_M_init_515 : decode b_M_init 515 = .ok (.putfield 224, 3) := by decide +kernel
theorem d_M_init_518 : decode b_M_init 518 = .ok (.aload_n 0, 1) := by decide +kernel
theorem d_M_init_519 : decode b_M_init 519 = .ok (.sipush 6100, 3) := by decide +kernel
theorem d_M_init_522 : decode b_M_init 522 = .ok (.newarray .int, 2) := by decide +kernel
theorem d_M_init_524 : decode b_M_init 524 = .ok (.putfield 227, 3) := by decide +kernel
theorem d_M_init_527 : decode b_M_init 527 = .ok (.aload_n 0, 1) := by decide +kernel
theorem d_M_init_528 : decode b_M_init 528 = .ok (.sipush 6100, 3) := by decide +kernel
theorem d_M_init_531 : decode b_M_init 531 = .ok (.newarray .boolean, 2) := by decide +kernel
theorem d_M_init_533 : decode b_M_init 533 = .ok (.putfield 230, 3) := by decide +kernel
theorem d_M_init_536 : decode b_M_init 536 = .ok (.aload_n 0, 1) := by decide +kernel
theorem d_M_init_537 : decode b_M_init 537 = .ok (.iconst 0, 1) := by decide +kernel
theorem d_M_init_538 : decode b_M_init 538 = .ok (.putfield 233, 3) := by decide +kernel
theorem d_M_init_541 : decode b_M_init 541 = .ok (.aload_n 0, 1) := by decide +kernel
theorem d_M_init_542 : decode b_M_init 542 = .ok (.bipush 100, 2) := by decide +kernel
theorem d_M_init_544 : decode b_M_init 544 = .ok (.newarray .int, 2) := by decide +kernel
theorem d_M_init_546 : decode b_M_init 546 = .ok (.putfield 236, 3) := by decide +kernel
theorem d_M_init_549 : decode b_M_init 549 = .ok (.aload_n 0, 1) := by decide +kernel
theorem d_M_init_550 : decode b_M_init 550 = .ok (.sipush 6100, 3) := by decide +kernel
theorem d_M_init_553 : decode b_M_init 553 = .ok (.newarray .int, 2) := by decide +kernel
theorem d_M_init_555 : decode b_M_init 555 = .ok (.putfield 239, 3) := by decide +kernel
theorem d_M_init_558 : decode b_M_init 558 = .ok (.aload_n 0, 1) := by decide +kernel
theorem d_M_init_559 : decode b_M_init 559 = .ok (.sipush 6600, 3) := by decide +kernel
theorem d_M_init_562 : decode b_M_init 562 = .ok (.newarray .int, 2) := by decide +kernel
theorem d_M_init_564 : decode b_M_init 564 = .ok (.putfield 242, 3) := by decide +kernel
theorem d_M_init_567 : decode b_M_init 567 = .ok (.aload_n 0, 1) := by decide +kernel
theorem d_M_init_568 : decode b_M_init 568 = .ok (.sipush 6600, 3) := by decide +kernel
theorem d_M_init_571 : decode b_M_init 571 = .ok (.newarray .int, 2) := by decide +kernel
theorem d_M_init_573 : decode b_M_init 573 = .ok (.putfield 245, 3) := by decide +kernel
theorem d_M_init_576 : decode b_M_init 576 = .ok (.aload_n 0, 1) := by decide +kernel
theorem d_M_init_577 : decode b_M_init 577 = .ok (.ldc 99, 2) := by decide +kernel
theorem d_M_init_579 : decode b_M_init 579 = .ok (.newarray .int, 2) := by decide +kernel
theorem d_M_init_581 : decode b_M_init 581 = .ok (.putfield 248, 3) := by decide +kernel
theorem d_M_init_584 : decode b_M_init 584 = .ok (.aload_n 0, 1) := by decide +kernel
theorem d_M_init_585 : decode b_M_init 585 = .ok (.sipush 6100, 3) := by decide +kernel
theorem d_M_init_588 : decode b_M_init 588 = .ok (.newarray .boolean, 2) := by decide +kernel
theorem d_M_init_590 : decode b_M_init 590 = .ok (.putfield 251, 3) := by decide +kernel
theorem d_M_init_593 : decode b_M_init 593 = .ok (.aload_n 0, 1) := by decide +kernel
theorem d_M_init_594 : decode b_M_init 594 = .ok (.sipush 6600, 3) := by decide +kernel
theorem d_M_init_597 : decode b_M_init 597 = .ok (.newarray .int, 2) := by decide +kernel
theorem d_M_init_599 : decode b_M_init 599 = .ok (.putfield 254, 3) := by decide +kernel
theorem d_M_init_602 : decode b_M_init 602 = .ok (.aload_n 0, 1) := by decide +kernel
theorem d_M_init_603 : decode b_M_init 603 = .ok (.sipush 6100, 3) := by decide +kernel
theorem d_M_init_606 : decode b_M_init 606 = .ok (.newarray .int, 2) := by decide +kernel
theorem d_M_init_608 : decode b_M_init 608 = .ok (.putfield 257, 3) := by decide +kernel
theorem d_M_init_611 : decode b_M_init 611 = .ok (.aload_n 0, 1) := by decide +kernel
theorem d_M_init_612 : decode b_M_init 612 = .ok (.sipush 6100, 3) := by decide +kernel
theorem d_M_init_615 : decode b_M_init 615 = .ok (.newarray .boolean, 2) := by decide +kernel
theorem d_M_init_617 : decode b_M_init 617 = .ok (.putfield 260, 3) := by decide +kernel
theorem d_M_init_620 : decode b_M_init 620 = .ok (.aload_n 0, 1) := by decide +kernel
theorem d_M_init_621 : decode b_M_init 621 = .ok (.iconst 0, 1) := by decide +kernel
theorem d_M_init_622 : decode b_M_init 622 = .ok (.putfield 263, 3) := by decide +kernel
theorem d_M_init_625 : decode b_M_init 625 = .ok (.aload_n 0, 1) := by decide +kernel
theorem d_M_init_626 : decode b_M_init 626 = .ok (.iconst 0, 1) := by decide +kernel
theorem d_M_init_627 : decode b_M_init 627 = .ok (.putfield 266, 3) := by decide +kernel
theorem d_M_init_630 : decode b_M_init 630 = .ok (.return_, 1) := by decide +kernel
set_option maxHeartbeats 4000000 in
set_option maxRecDepth 100000 in
theorem c_M_init (l : Launch) (D : va_G) (cI cB cJ cZ : ClassId) (sz : Nat) (h0 : Nat) : Met l y_M_init (Cond.code y_M_init b_M_init 1 none :: gG) { frames := 1, cells := 58, slots := 1269480, locals := 12 } (va_Pc [.ref h0] (ct_P D (tyL cI cB cJ cZ) [(h0, .inr (12, [.null, .int 0, .int 0, .int 0, .int 0, .int 0, .int 0, .int 0, .int 0, .int 0, .null, .null, .null, .null, .null, .null, .null, .null, .int 0, .int 0, .null, .null, .null, .null, .null, .null, .null, .null, .null, .null, .int 0, .int 0, .null, .null, .null, .null, .null, .null, .null, .null, .int 0, .null, .int 0, .null, .null, .null, .null, .null, .null, .int 0, .int 0, .int 0, .int 0, .int 0, .int 0, .int 0, .null, .null, .null, .null, .null, .null, .null, .null, .null, .null, .null, .int 0, .null, .null, .null, .null, .int 0, .null, .null, .null, .null, .null, .null, .null, .null, .null, .int 0, .int 0]))] sz)) (va_Qv (fun _ : Unit => True) (fun _ t => ∃ q1 q2 q3 q4 q5 q6 q7 q8 q9 q10 q11 q12 q13 q14 q15 q16 q17 q18 q19 q20 q21 q22 q23 q24 q25 q26 q27 q28 q29 q30 q31 q32 q33 q34 q35 q36 q37 q38 q39 q40 q41 q42 q43 q44 q45 q46 q47 q48 q49 q50 q51 q52 q53 q54 q55 q56 q57 q58 : Nat, va_P D kl [(h0, .inr (12, [.ref q1, .int 0, .int 0, .int 0, .int 0, .int 0, .int 0, .int 0, .int 0, .int 0, .ref q2, .ref q3, .ref q4, .ref q5, .ref q6, .ref q7, .ref q8, .ref q9, .int 0, .int 0, .ref q10, .ref q11, .ref q12, .ref q13, .ref q14, .ref q15, .ref q16, .ref q17, .ref q18, .ref q19, .int 0, .int 0, .ref q20, .ref q21, .ref q22, .ref q23, .ref q24, .ref q25, .ref q26, .ref q27, .int 0, .ref q28, .int 0, .ref q29, .ref q30, .ref q31, .ref q32, .ref q33, .ref q34, .int (-1), .int 0, .int 0, .int 0, .int 0, .int 0, .int 0, .ref q35, .ref q36, .ref q37, .ref q38, .ref q39, .ref q40, .ref q41, .ref q42, .ref q43, .ref q44, .ref q45, .int 0, .ref q46, .ref q47, .ref q48, .ref q49, .int 0, .ref q50, .ref q51, .ref q52, .ref q53, .ref q54, .ref q55, .ref q56, .ref q57, .ref q58, .int 0, .int 0])), (q1, .inl (cB, 65536, .inl (fun _ => 0))), (q2, .inl (cI, 60, .inl (fun _ => 0))), (q3, .inl (cI, 60, .inl (fun _ => 0))), (q4, .inl (cI, 61, .inl (fun _ => 0))), (q5, .inl (cI, 60, .inl (fun _ => 0))), (q6, .inl (cI, 60, .inl (fun _ => 0))), (q7, .inl (cI, 61, .inl (fun _ => 0))), (q8, .inl (cI, 60, .inl (fun _ => 0))), (q9, .inl (cI, 60, .inl (fun _ => 0))), (q10, .inl (cI, 6000, .inl (fun _ => 0))), (q11, .inl (cI, 6000, .inl (fun _ => 0))), (q12, .inl (cI, 6000, .inl (fun _ => 0))), (q13, .inl (cI, 6000, .inl (fun _ => 0))), (q14, .inl (cZ, 6000, .inl (fun _ => 0))), (q15, .inl (cI, 17000, .inl (fun _ => 0))), (q16, .inl (cI, 17001, .inl (fun _ => 0))), (q17, .inl (cI, 17000, .inl (fun _ => 0))), (q18, .inl (cI, 66000, .inl (fun _ => 0))), (q19, .inl (cI, 17000, .inl (fun _ => 0))), (q20, .inl (cI, 66000, .inl (fun _ => 0))), (q21, .inl (cI, 66000, .inl (fun _ => 0))), (q22, .inl (cI, 66000, .inl (fun _ => 0))), (q23, .inl (cI, 66000, .inl (fun _ => 0))), (q24, .inl (cI, 66000, .inl (fun _ => 0))), (q25, .inl (cI, 66000, .inl (fun _ => 0))), (q26, .inl (cI, 66000, .inl (fun _ => 0))), (q27, .inl (cI, 66000, .inl (fun _ => 0))), (q28, .inl (cZ, 66000, .inl (fun _ => 0))), (q29, .inl (cI, 66000, .inl (fun _ => 0))), (q30, .inl (cI, 66000, .inl (fun _ => 0))), (q31, .inl (cI, 66000, .inl (fun _ => 0))), (q32, .inl (cI, 6000, .inl (fun _ => 0))), (q33, .inl (cI, 6000, .inl (fun _ => 0))), (q34, .inl (cI, 60, .inl (fun _ => 0))), (q35, .inl (cI, 3200, .inl (fun _ => 0))), (q36, .inl (cI, 3200, .inl (fun _ => 0))), (q37, .inl (cI, 3200, .inl (fun _ => 0))), (q38, .inl (cI, 3200, .inl (fun _ => 0))), (q39, .inl (cI, 3200, .inl (fun _ => 0))), (q40, .inl (cI, 3200, .inl (fun _ => 0))), (q41, .inl (cI, 3200, .inl (fun _ => 0))), (q42, .inl (cI, 6100, .inl (fun _ => 0))), (q43, .inl (cI, 6100, .inl (fun _ => 0))), (q44, .inl (cI, 6101, .inl (fun _ => 0))), (q45, .inl (cI, 60000, .inl (fun _ => 0))), (q46, .inl (cZ, 6100, .inl (fun _ => 0))), (q47, .inl (cI, 6100, .inl (fun _ => 0))), (q48, .inl (cI, 6100, .inl (fun _ => 0))), (q49, .inl (cZ, 6100, .inl (fun _ => 0))), (q50, .inl (cI, 100, .inl (fun _ => 0))), (q51, .inl (cI, 6100, .inl (fun _ => 0))), (q52, .inl (cI, 6600, .inl (fun _ => 0))), (q53, .inl (cI, 6600, .inl (fun _ => 0))), (q54, .inl (cI, 66000, .inl (fun _ => 0))), (q55, .inl (cZ, 6100, .inl (fun _ => 0))), (q56, .inl (cI, 6600, .inl (fun _ => 0))), (q57, .inl (cI, 6100, .inl (fun _ => 0))), (q58, .inl (cZ, 6100, .inl (fun _ => 0)))] t.heap ∧ va_D (va_A [(h0, .inr (12, [.null, .int 0, .int 0, .int 0, .int 0, .int 0, .int 0, .int 0, .int 0, .int 0, .null, .null, .null, .null, .null, .null, .null, .null, .int 0, .int 0, .null, .null, .null, .null, .null, .null, .null, .null, .null, .null, .int 0, .int 0, .null, .null, .null, .null, .null, .null, .null, .null, .int 0, .null, .int 0, .null, .null, .null, .null, .null, .null, .int 0, .int 0, .int 0, .int 0, .int 0, .int 0, .int 0, .null, .null, .null, .null, .null, .null, .null, .null, .null, .null, .null, .int 0, .null, .null, .null, .null, .int 0, .null, .null, .null, .null, .null, .null, .null, .null, .null, .int 0, .int 0]))] sz) [(h0, .inr (12, [.ref q1, .int 0, .int 0, .int 0, .int 0, .int 0, .int 0, .int 0, .int 0, .int 0, .ref q2, .ref q3, .ref q4, .ref q5, .ref q6, .ref q7, .ref q8, .ref q9, .int 0, .int 0, .ref q10, .ref q11, .ref q12, .ref q13, .ref q14, .ref q15, .ref q16, .ref q17, .ref q18, .ref q19, .int 0, .int 0, .ref q20, .ref q21, .ref q22, .ref q23, .ref q24, .ref q25, .ref q26, .ref q27, .int 0, .ref q28, .int 0, .ref q29, .ref q30, .ref q31, .ref q32, .ref q33, .ref q34, .int (-1), .int 0, .int 0, .int 0, .int 0, .int 0, .int 0, .ref q35, .ref q36, .ref q37, .ref q38, .ref q39, .ref q40, .ref q41, .ref q42, .ref q43, .ref q44, .ref q45, .int 0, .ref q46, .ref q47, .ref q48, .ref q49, .int 0, .ref q50, .ref q51, .ref q52, .ref q53, .ref q54, .ref q55, .ref q56, .ref q57, .ref q58, .int 0, .int 0])), (q1, .inl (cB, 65536, .inl (fun _ => 0))), (q2, .inl (cI, 60, .inl (fun _ => 0))), (q3, .inl (cI, 60, .inl (fun _ => 0))), (q4, .inl (cI, 61, .inl (fun _ => 0))), (q5, .inl (cI, 60, .inl (fun _ => 0))), (q6, .inl (cI, 60, .inl (fun _ => 0))), (q7, .inl (cI, 61, .inl (fun _ => 0))), (q8, .inl (cI, 60, .inl (fun _ => 0))), (q9, .inl (cI, 60, .inl (fun _ => 0))), (q10, .inl (cI, 6000, .inl (fun _ => 0))), (q11, .inl (cI, 6000, .inl (fun _ => 0))), (q12, .inl (cI, 6000, .inl (fun _ => 0))), (q13, .inl (cI, 6000, .inl (fun _ => 0))), (q14, .inl (cZ, 6000, .inl (fun _ => 0))), (q15, .inl (cI, 17000, .inl (fun _ => 0))), (q16, .inl (cI, 17001, .inl (fun _ => 0))), (q17, .inl (cI, 17000, .inl (fun _ => 0))), (q18, .inl (cI, 66000, .inl (fun _ => 0))), (q19, .inl (cI, 17000, .inl (fun _ => 0))), (q20, .inl (cI, 66000, .inl (fun _ => 0))), (q21, .inl (cI, 66000, .inl (fun _ => 0))), (q22, .inl (cI, 66000, .inl (fun _ => 0))), (q23, .inl (cI, 66000, .inl (fun _ => 0))), (q24, .inl (cI, 66000, .inl (fun _ => 0))), (q25, .inl (cI, 66000, .inl (fun _ => 0))), (q26, .inl (cI, 66000, .inl (fun _ => 0))), (q27, .inl (cI, 66000, .inl (fun _ => 0))), (q28, .inl (cZ, 66000, .inl (fun _ => 0))), (q29, .inl (cI, 66000, .inl (fun _ => 0))), (q30, .inl (cI, 66000, .inl (fun _ => 0))), (q31, .inl (cI, 66000, .inl (fun _ => 0))), (q32, .inl (cI, 6000, .inl (fun _ => 0))), (q33, .inl (cI, 6000, .inl (fun _ => 0))), (q34, .inl (cI, 60, .inl (fun _ => 0))), (q35, .inl (cI, 3200, .inl (fun _ => 0))), (q36, .inl (cI, 3200, .inl (fun _ => 0))), (q37, .inl (cI, 3200, .inl (fun _ => 0))), (q38, .inl (cI, 3200, .inl (fun _ => 0))), (q39, .inl (cI, 3200, .inl (fun _ => 0))), (q40, .inl (cI, 3200, .inl (fun _ => 0))), (q41, .inl (cI, 3200, .inl (fun _ => 0))), (q42, .inl (cI, 6100, .inl (fun _ => 0))), (q43, .inl (cI, 6100, .inl (fun _ => 0))), (q44, .inl (cI, 6101, .inl (fun _ => 0))), (q45, .inl (cI, 60000, .inl (fun _ => 0))), (q46, .inl (cZ, 6100, .inl (fun _ => 0))), (q47, .inl (cI, 6100, .inl (fun _ => 0))), (q48, .inl (cI, 6100, .inl (fun _ => 0))), (q49, .inl (cZ, 6100, .inl (fun _ => 0))), (q50, .inl (cI, 100, .inl (fun _ => 0))), (q51, .inl (cI, 6100, .inl (fun _ => 0))), (q52, .inl (cI, 6600, .inl (fun _ => 0))), (q53, .inl (cI, 6600, .inl (fun _ => 0))), (q54, .inl (cI, 66000, .inl (fun _ => 0))), (q55, .inl (cZ, 6100, .inl (fun _ => 0))), (q56, .inl (cI, 6600, .inl (fun _ => 0))), (q57, .inl (cI, 6100, .inl (fun _ => 0))), (q58, .inl (cZ, 6100, .inl (fun _ => 0)))]) (va_A [(h0, .inr (12, [.null, .int 0, .int 0, .int 0, .int 0, .int 0, .int 0, .int 0, .int 0, .int 0, .null, .null, .null, .null, .null, .null, .null, .null, .int 0, .int 0, .null, .null, .null, .null, .null, .null, .null, .null, .null, .null, .int 0, .int 0, .null, .null, .null, .null, .null, .null, .null, .null, .int 0, .null, .int 0, .null, .null, .null, .null, .null, .null, .int 0, .int 0, .int 0, .int 0, .int 0, .int 0, .int 0, .null, .null, .null, .null, .null, .null, .null, .null, .null, .null, .null, .int 0, .null, .null, .null, .null, .int 0, .null, .null, .null, .null, .null, .null, .null, .null, .null, .int 0, .int 0]))] sz)) 58 1269480 (va_A [(h0, .inr (12, [.null, .int 0, .int 0, .int 0, .int 0, .int 0, .int 0, .int 0, .int 0, .int 0, .null, .null, .null, .null, .null, .null, .null, .null, .int 0, .int 0, .null, .null, .null, .null, .null, .null, .null, .null, .null, .null, .int 0, .int 0, .null, .null, .null, .null, .null, .null, .null, .null, .int 0, .null, .int 0, .null, .null, .null, .null, .null, .null, .int 0, .int 0, .int 0, .int 0, .int 0, .int 0, .int 0, .null, .null, .null, .null, .null, .null, .null, .null, .null, .null, .null, .int 0, .null, .null, .null, .null, .int 0, .null, .null, .null, .null, .null, .null, .null, .null, .null, .int 0, .int 0]))] sz) := by
  refine Met.ofW (cc := b_M_init) (maxL := 1) (ret := none) (by decide) rfl ?_
  intro p e s m args below meth c s₁ B hml hv
  obtain ⟨rfl, hsz, hP, hK, hD0⟩ := hv
  have hx := B.exec
  have hb := B.bytes
  have hr := B.returns
  have hts := atoms_spec (ws := Cond.code y_M_init b_M_init 1 none :: gG) B.pre
  have hG : ∀ w ∈ gG, w.before [.ref h0].toArray s = true := fun w h => hts w (List.mem_cons_of_mem _ h)
  have hown : s.vm.findClass R_M = some m.cls := findClass_of_methodNamed B.named
  have hlocks := B.notSynchronized
  have hin : meth.name = "<init>" := (name_of_methodNamed B.named B.method).1
  subst hsz
  have hD := hD0.self (sz := s.heap.size)
  generalize hAe : va_A [(h0, .inr (12, [.null, .int 0, .int 0, .int 0, .int 0, .int 0, .int 0, .int 0, .int 0, .int 0, .null, .null, .null, .null, .null, .null, .null, .null, .int 0, .int 0, .null, .null, .null, .null, .null, .null, .null, .null, .null, .null, .int 0, .int 0, .null, .null, .null, .null, .null, .null, .null, .null, .int 0, .null, .int 0, .null, .null, .null, .null, .null, .null, .int 0, .int 0, .int 0, .int 0, .int 0, .int 0, .int 0, .null, .null, .null, .null, .null, .null, .null, .null, .null, .null, .null, .int 0, .null, .null, .null, .null, .int 0, .null, .null, .null, .null, .null, .null, .null, .null, .null, .int 0, .int 0]))] s.heap.size = A at hD ⊢
  have hA : ∀ q : Nat, s.heap.size ≤ q → A q := fun q h => by rw [← hAe]; exact Or.inr h
  have hS : va_S A s.heap s.heap [] := va_S.rf
  have hl := lv_entry ([.ref h0]) (n := 1) (Nat.le_of_ble_eq_true rfl)
  rw [lg_entry_eq]
  generalize (lg_sl ([.ref h0]) ++ List.replicate (1 - (lg_sl ([.ref h0])).length) Slot.unset).toArray = ls at hl ⊢
  have hl : lv_has ls 1 [(0, .ref h0)] := hl
  refine lv_aload_n hx hb d_M_init_0 rfl (lv_at hl 0 rfl) ?_
  refine W.objInit hx hb hown (hG _ ml_M_1) (hG _ im_java_lang_Object_init) (hG _ co_java_lang_Object_init) rfl (by rw [hml]; exact hl.1) rfl d_M_init_1 (Nat.le_of_ble_eq_true rfl) (Nat.le_of_ble_eq_true rfl) ?_
  refine W.eq (g2 := F0 m 4 ls []) rfl ?_
  refine lv_aload_n hx hb d_M_init_4 rfl (lv_at hl 0 rfl) ?_
  refine lv_ldc (v := 65536) hx hb hown (hG _ ct_M_7) d_M_init_5 ?_
  refine ra_new (atype := .byte) (D := D) hx hb (hG _ ac_byte) rfl (fun _ h => by cases h) hK hP hD hS hA 1 rfl (65536, .inl (fun _ => 0)) (fun _ => rfl) (by decide +kernel) (by decide +kernel) (Nat.le_of_ble_eq_true rfl) (Nat.le_of_ble_eq_true rfl) (Nat.le_of_ble_eq_true rfl) d_M_init_7 (fun q1 H hP hD hS => ?_)
  refine W.widen (k := 1) (n := 65536) (Nat.le_of_ble_eq_true rfl) (Nat.le_of_ble_eq_true rfl) ?_
  refine va_putF (D := D) (ci := 12) (v := .ref q1) (ty := .array .byte) (C := R_M) (T := T_M) (N := 84) hx hb hG gi_M ty_M to_M nm_M hown hK hP hD hS 0 rfl rfl 0 (by decide) (hG _ fl_M_8) (fun _ h9 => h9) rfl hin rfl (by decide +kernel) rfl rfl (Nat.le_of_ble_eq_true rfl) d_M_init_9 (fun H locs hP hD hS => ?_)
  refine lv_aload_n hx hb d_M_init_12 rfl (lv_at hl 0 rfl) ?_
  refine lv_iconst (v := 0) hx hb d_M_init_13 (by decide) ?_
  refine va_put (D := D) (ci := 12) (v := .int 0) (ty := .int) (C := R_M) (T := T_M) (N := 84) hx hb hG gi_M ty_M to_M nm_M hown hK hP hD hS 0 rfl rfl 1 (by decide) (hG _ fl_M_14) (fun _ h9 => h9) rfl (by decide +kernel) rfl rfl (Nat.le_of_ble_eq_true rfl) d_M_init_14 (fun H locs hP hD hS => ?_)
  refine lv_aload_n hx hb d_M_init_17 rfl (lv_at hl 0 rfl) ?_
  refine lv_iconst (v := 0) hx hb d_M_init_18 (by decide) ?_
  refine va_put (D := D) (ci := 12) (v := .int 0) (ty := .int) (C := R_M) (T := T_M) (N := 84) hx hb hG gi_M ty_M to_M nm_M hown hK hP hD hS 0 rfl rfl 2 (by decide) (hG _ fl_M_18) (fun _ h9 => h9) rfl (by decide +kernel) rfl rfl (Nat.le_of_ble_eq_true rfl) d_M_init_19 (fun H locs hP hD hS => ?_)
  refine lv_aload_n hx hb d_M_init_22 rfl (lv_at hl 0 rfl) ?_
  refine lv_iconst (v := 0) hx hb d_M_init_23 (by decide) ?_
  refine va_put (D := D) (ci := 12) (v := .int 0) (ty := .int) (C := R_M) (T := T_M) (N := 84) hx hb hG gi_M ty_M to_M nm_M hown hK hP hD hS 0 rfl rfl 3 (by decide) (hG _ fl_M_21) (fun _ h9 => h9) rfl (by decide +kernel) rfl rfl (Nat.le_of_ble_eq_true rfl) d_M_init_24 (fun H locs hP hD hS => ?_)
  refine lv_aload_n hx hb d_M_init_27 rfl (lv_at hl 0 rfl) ?_
  refine lv_iconst (v := 0) hx hb d_M_init_28 (by decide) ?_
  refine va_put (D := D) (ci := 12) (v := .int 0) (ty := .int) (C := R_M) (T := T_M) (N := 84) hx hb hG gi_M ty_M to_M nm_M hown hK hP hD hS 0 rfl rfl 4 (by decide) (hG _ fl_M_24) (fun _ h9 => h9) rfl (by decide +kernel) rfl rfl (Nat.le_of_ble_eq_true rfl) d_M_init_29 (fun H locs hP hD hS => ?_)
  refine lv_aload_n hx hb d_M_init_32 rfl (lv_at hl 0 rfl) ?_
  refine lv_iconst (v := 0) hx hb d_M_init_33 (by decide) ?_
  refine va_put (D := D) (ci := 12) (v := .int 0) (ty := .int) (C := R_M) (T := T_M) (N := 84) hx hb hG gi_M ty_M to_M nm_M hown hK hP hD hS 0 rfl rfl 5 (by decide) (hG _ fl_M_27) (fun _ h9 => h9) rfl (by decide +kernel) rfl rfl (Nat.le_of_ble_eq_true rfl) d_M_init_34 (fun H locs hP hD hS => ?_)
  refine lv_aload_n hx hb d_M_init_37 rfl (lv_at hl 0 rfl) ?_
  refine lv_iconst (v := 0) hx hb d_M_init_38 (by decide) ?_
  refine va_put (D := D) (ci := 12) (v := .int 0) (ty := .int) (C := R_M) (T := T_M) (N := 84) hx hb hG gi_M ty_M to_M nm_M hown hK hP hD hS 0 rfl rfl 6 (by decide) (hG _ fl_M_30) (fun _ h9 => h9) rfl (by decide +kernel) rfl rfl (Nat.le_of_ble_eq_true rfl) d_M_init_39 (fun H locs hP hD hS => ?_)
  refine lv_aload_n hx hb d_M_init_42 rfl (lv_at hl 0 rfl) ?_
  refine lv_iconst (v := 0) hx hb d_M_init_43 (by decide) ?_
  refine va_put (D := D) (ci := 12) (v := .int 0) (ty := .int) (C := R_M) (T := T_M) (N := 84) hx hb hG gi_M ty_M to_M nm_M hown hK hP hD hS 0 rfl rfl 7 (by decide) (hG _ fl_M_33) (fun _ h9 => h9) rfl (by decide +kernel) rfl rfl (Nat.le_of_ble_eq_true rfl) d_M_init_44 (fun H locs hP hD hS => ?_)
  refine lv_aload_n hx hb d_M_init_47 rfl (lv_at hl 0 rfl) ?_
  refine lv_iconst (v := 0) hx hb d_M_init_48 (by decide) ?_
  refine va_put (D := D) (ci := 12) (v := .int 0) (ty := .int) (C := R_M) (T := T_M) (N := 84) hx hb hG gi_M ty_M to_M nm_M hown hK hP hD hS 0 rfl rfl 8 (by decide) (hG _ fl_M_36) (fun _ h9 => h9) rfl (by decide +kernel) rfl rfl (Nat.le_of_ble_eq_true rfl) d_M_init_49 (fun H locs hP hD hS => ?_)
  refine lv_aload_n hx hb d_M_init_52 rfl (lv_at hl 0 rfl) ?_
  refine lv_iconst (v := 0) hx hb d_M_init_53 (by decide) ?_
  refine va_put (D := D) (ci := 12) (v := .int 0) (ty := .boolean) (C := R_M) (T := T_M) (N := 84) hx hb hG gi_M ty_M to_M nm_M hown hK hP hD hS 0 rfl rfl 9 (by decide) (hG _ fl_M_39) (fun _ h9 => h9) rfl (by decide +kernel) rfl rfl (Nat.le_of_ble_eq_true rfl) d_M_init_54 (fun H locs hP hD hS => ?_)
  refine lv_aload_n hx hb d_M_init_57 rfl (lv_at hl 0 rfl) ?_
  refine lv_bipush (v := 60) hx hb d_M_init_58 (by decide) ?_
  refine ra_new (atype := .int) (D := D) hx hb (hG _ ac_int) rfl (fun _ h => by cases h) hK hP hD hS hA 0 rfl (60, .inl (fun _ => 0)) (fun _ => rfl) (by decide +kernel) (by decide +kernel) (Nat.le_of_ble_eq_true rfl) (Nat.le_of_ble_eq_true rfl) (Nat.le_of_ble_eq_true rfl) d_M_init_60 (fun q2 H hP hD hS => ?_)
  refine W.widen (k := 2) (n := 65596) (Nat.le_of_ble_eq_true rfl) (Nat.le_of_ble_eq_true rfl) ?_
  refine va_putF (D := D) (ci := 12) (v := .ref q2) (ty := .array .int) (C := R_M) (T := T_M) (N := 84) hx hb hG gi_M ty_M to_M nm_M hown hK hP hD hS 0 rfl rfl 10 (by decide) (hG _ fl_M_43) (fun _ h9 => h9) rfl hin rfl (by decide +kernel) rfl rfl (Nat.le_of_ble_eq_true rfl) d_M_init_62 (fun H locs hP hD hS => ?_)
  refine lv_aload_n hx hb d_M_init_65 rfl (lv_at hl 0 rfl) ?_
  refine lv_bipush (v := 60) hx hb d_M_init_66 (by decide) ?_
  refine ra_new (atype := .int) (D := D) hx hb (hG _ ac_int) rfl (fun _ h => by cases h) hK hP hD hS hA 0 rfl (60, .inl (fun _ => 0)) (fun _ => rfl) (by decide +kernel) (by decide +kernel) (Nat.le_of_ble_eq_true rfl) (Nat.le_of_ble_eq_true rfl) (Nat.le_of_ble_eq_true rfl) d_M_init_68 (fun q3 H hP hD hS => ?_)
  refine W.widen (k := 3) (n := 65656) (Nat.le_of_ble_eq_true rfl) (Nat.le_of_ble_eq_true rfl) ?_
  refine va_putF (D := D) (ci := 12) (v := .ref q3) (ty := .array .int) (C := R_M) (T := T_M) (N := 84) hx hb hG gi_M ty_M to_M nm_M hown hK hP hD hS 0 rfl rfl 11 (by decide) (hG _ fl_M_47) (fun _ h9 => h9) rfl hin rfl (by decide +kernel) rfl rfl (Nat.le_of_ble_eq_true rfl) d_M_init_70 (fun H locs hP hD hS => ?_)
  refine lv_aload_n hx hb d_M_init_73 rfl (lv_at hl 0 rfl) ?_
  refine lv_bipush (v := 61) hx hb d_M_init_74 (by decide) ?_
  refine ra_new (atype := .int) (D := D) hx hb (hG _ ac_int) rfl (fun _ h => by cases h) hK hP hD hS hA 0 rfl (61, .inl (fun _ => 0)) (fun _ => rfl) (by decide +kernel) (by decide +kernel) (Nat.le_of_ble_eq_true rfl) (Nat.le_of_ble_eq_true rfl) (Nat.le_of_ble_eq_true rfl) d_M_init_76 (fun q4 H hP hD hS => ?_)
  have hP : va_P D kl [(h0, .inr (12, [.ref q1, .int 0, .int 0, .int 0, .int 0, .int 0, .int 0, .int 0, .int 0, .int 0, .ref q2, .ref q3, .null, .null, .null, .null, .null, .null, .int 0, .int 0, .null, .null, .null, .null, .null, .null, .null, .null, .null, .null, .int 0, .int 0, .null, .null, .null, .null, .null, .null, .null, .null, .int 0, .null, .int 0, .null, .null, .null, .null, .null, .null, .int 0, .int 0, .int 0, .int 0, .int 0, .int 0, .int 0, .null, .null, .null, .null, .null, .null, .null, .null, .null, .null, .null, .int 0, .null, .null, .null, .null, .int 0, .null, .null, .null, .null, .null, .null, .null, .null, .null, .int 0, .int 0])), (q1, .inl (cB, 65536, .inl (fun _ => 0))), (q2, .inl (cI, 60, .inl (fun _ => 0))), (q3, .inl (cI, 60, .inl (fun _ => 0))), (q4, .inl (cI, 61, .inl (fun _ => 0)))] H := hP
  have hD : va_D A [(h0, .inr (12, [.ref q1, .int 0, .int 0, .int 0, .int 0, .int 0, .int 0, .int 0, .int 0, .int 0, .ref q2, .ref q3, .null, .null, .null, .null, .null, .null, .int 0, .int 0, .null, .null, .null, .null, .null, .null, .null, .null, .null, .null, .int 0, .int 0, .null, .null, .null, .null, .null, .null, .null, .null, .int 0, .null, .int 0, .null, .null, .null, .null, .null, .null, .int 0, .int 0, .int 0, .int 0, .int 0, .int 0, .int 0, .null, .null, .null, .null, .null, .null, .null, .null, .null, .null, .null, .int 0, .null, .null, .null, .null, .int 0, .null, .null, .null, .null, .null, .null, .null, .null, .null, .int 0, .int 0])), (q1, .inl (cB, 65536, .inl (fun _ => 0))), (q2, .inl (cI, 60, .inl (fun _ => 0))), (q3, .inl (cI, 60, .inl (fun _ => 0))), (q4, .inl (cI, 61, .inl (fun _ => 0)))] := hD
  refine W.widen (k := 4) (n := 65717) (Nat.le_of_ble_eq_true rfl) (Nat.le_of_ble_eq_true rfl) ?_
  refine va_putF (D := D) (ci := 12) (v := .ref q4) (ty := .array .int) (C := R_M) (T := T_M) (N := 84) hx hb hG gi_M ty_M to_M nm_M hown hK hP hD hS 0 rfl rfl 12 (by decide) (hG _ fl_M_50) (fun _ h9 => h9) rfl hin rfl (by decide +kernel) rfl rfl (Nat.le_of_ble_eq_true rfl) d_M_init_78 (fun H locs hP hD hS => ?_)
  refine lv_aload_n hx hb d_M_init_81 rfl (lv_at hl 0 rfl) ?_
  refine lv_bipush (v := 60) hx hb d_M_init_82 (by decide) ?_
  refine ra_new (atype := .int) (D := D) hx hb (hG _ ac_int) rfl (fun _ h => by cases h) hK hP hD hS hA 0 rfl (60, .inl (fun _ => 0)) (fun _ => rfl) (by decide +kernel) (by decide +kernel) (Nat.le_of_ble_eq_true rfl) (Nat.le_of_ble_eq_true rfl) (Nat.le_of_ble_eq_true rfl) d_M_init_84 (fun q5 H hP hD hS => ?_)
  refine W.widen (k := 5) (n := 65777) (Nat.le_of_ble_eq_true rfl) (Nat.le_of_ble_eq_true rfl) ?_
  refine va_putF (D := D) (ci := 12) (v := .ref q5) (ty := .array .int) (C := R_M) (T := T_M) (N := 84) hx hb hG gi_M ty_M to_M nm_M hown hK hP hD hS 0 rfl rfl 13 (by decide) (hG _ fl_M_53) (fun _ h9 => h9) rfl hin rfl (by decide +kernel) rfl rfl (Nat.le_of_ble_eq_true rfl) d_M_init_86 (fun H locs hP hD hS => ?_)
  refine lv_aload_n hx hb d_M_init_89 rfl (lv_at hl 0 rfl) ?_
  refine lv_bipush (v := 60) hx hb d_M_init_90 (by decide) ?_
  refine ra_new (atype := .int) (D := D) hx hb (hG _ ac_int) rfl (fun _ h => by cases h) hK hP hD hS hA 0 rfl (60, .inl (fun _ => 0)) (fun _ => rfl) (by decide +kernel) (by decide +kernel) (Nat.le_of_ble_eq_true rfl) (Nat.le_of_ble_eq_true rfl) (Nat.le_of_ble_eq_true rfl) d_M_init_92 (fun q6 H hP hD hS => ?_)
  refine W.widen (k := 6) (n := 65837) (Nat.le_of_ble_eq_true rfl) (Nat.le_of_ble_eq_true rfl) ?_
  refine va_putF (D := D) (ci := 12) (v := .ref q6) (ty := .array .int) (C := R_M) (T := T_M) (N := 84) hx hb hG gi_M ty_M to_M nm_M hown hK hP hD hS 0 rfl rfl 14 (by decide) (hG _ fl_M_56) (fun _ h9 => h9) rfl hin rfl (by decide +kernel) rfl rfl (Nat.le_of_ble_eq_true rfl) d_M_init_94 (fun H locs hP hD hS => ?_)
  refine lv_aload_n hx hb d_M_init_97 rfl (lv_at hl 0 rfl) ?_
  refine lv_bipush (v := 61) hx hb d_M_init_98 (by decide) ?_
  refine ra_new (atype := .int) (D := D) hx hb (hG _ ac_int) rfl (fun _ h => by cases h) hK hP hD hS hA 0 rfl (61, .inl (fun _ => 0)) (fun _ => rfl) (by decide +kernel) (by decide +kernel) (Nat.le_of_ble_eq_true rfl) (Nat.le_of_ble_eq_true rfl) (Nat.le_of_ble_eq_true rfl) d_M_init_100 (fun q7 H hP hD hS => ?_)
  refine W.widen (k := 7) (n := 65898) (Nat.le_of_ble_eq_true rfl) (Nat.le_of_ble_eq_true rfl) ?_
  refine va_putF (D := D) (ci := 12) (v := .ref q7) (ty := .array .int) (C := R_M) (T := T_M) (N := 84) hx hb hG gi_M ty_M to_M nm_M hown hK hP hD hS 0 rfl rfl 15 (by decide) (hG _ fl_M_59) (fun _ h9 => h9) rfl hin rfl (by decide +kernel) rfl rfl (Nat.le_of_ble_eq_true rfl) d_M_init_102 (fun H locs hP hD hS => ?_)
  refine lv_aload_n hx hb d_M_init_105 rfl (lv_at hl 0 rfl) ?_
  refine lv_bipush (v := 60) hx hb d_M_init_106 (by decide) ?_
  refine ra_new (atype := .int) (D := D) hx hb (hG _ ac_int) rfl (fun _ h => by cases h) hK hP hD hS hA 0 rfl (60, .inl (fun _ => 0)) (fun _ => rfl) (by decide +kernel) (by decide +kernel) (Nat.le_of_ble_eq_true rfl) (Nat.le_of_ble_eq_true rfl) (Nat.le_of_ble_eq_true rfl) d_M_init_108 (fun q8 H hP hD hS => ?_)
  refine W.widen (k := 8) (n := 65958) (Nat.le_of_ble_eq_true rfl) (Nat.le_of_ble_eq_true rfl) ?_
  refine va_putF (D := D) (ci := 12) (v := .ref q8) (ty := .array .int) (C := R_M) (T := T_M) (N := 84) hx hb hG gi_M ty_M to_M nm_M hown hK hP hD hS 0 rfl rfl 16 (by decide) (hG _ fl_M_62) (fun _ h9 => h9) rfl hin rfl (by decide +kernel) rfl rfl (Nat.le_of_ble_eq_true rfl) d_M_init_110 (fun H locs hP hD hS => ?_)
  refine lv_aload_n hx hb d_M_init_113 rfl (lv_at hl 0 rfl) ?_
  refine lv_bipush (v := 60) hx hb d_M_init_114 (by decide) ?_
  refine ra_new (atype := .int) (D := D) hx hb (hG _ ac_int) rfl (fun _ h => by cases h) hK hP hD hS hA 0 rfl (60, .inl (fun _ => 0)) (fun _ => rfl) (by decide +kernel) (by decide +kernel) (Nat.le_of_ble_eq_true rfl) (Nat.le_of_ble_eq_true rfl) (Nat.le_of_ble_eq_true rfl) d_M_init_116 (fun q9 H hP hD hS => ?_)
  refine W.widen (k := 9) (n := 66018) (Nat.le_of_ble_eq_true rfl) (Nat.le_of_ble_eq_true rfl) ?_
  refine va_putF (D := D) (ci := 12) (v := .ref q9) (ty := .array .int) (C := R_M) (T := T_M) (N := 84) hx hb hG gi_M ty_M to_M nm_M hown hK hP hD hS 0 rfl rfl 17 (by decide) (hG _ fl_M_65) (fun _ h9 => h9) rfl hin rfl (by decide +kernel) rfl rfl (Nat.le_of_ble_eq_true rfl) d_M_init_118 (fun H locs hP hD hS => ?_)
  refine lv_aload_n hx hb d_M_init_121 rfl (lv_at hl 0 rfl) ?_
  refine lv_iconst (v := 0) hx hb d_M_init_122 (by decide) ?_
  refine va_put (D := D) (ci := 12) (v := .int 0) (ty := .int) (C := R_M) (T := T_M) (N := 84) hx hb hG gi_M ty_M to_M nm_M hown hK hP hD hS 0 rfl rfl 18 (by decide) (hG _ fl_M_68) (fun _ h9 => h9) rfl (by decide +kernel) rfl rfl (Nat.le_of_ble_eq_true rfl) d_M_init_123 (fun H locs hP hD hS => ?_)
  refine lv_aload_n hx hb d_M_init_126 rfl (lv_at hl 0 rfl) ?_
  refine lv_iconst (v := 0) hx hb d_M_init_127 (by decide) ?_
  refine va_put (D := D) (ci := 12) (v := .int 0) (ty := .int) (C := R_M) (T := T_M) (N := 84) hx hb hG gi_M ty_M to_M nm_M hown hK hP hD hS 0 rfl rfl 19 (by decide) (hG _ fl_M_71) (fun _ h9 => h9) rfl (by decide +kernel) rfl rfl (Nat.le_of_ble_eq_true rfl) d_M_init_128 (fun H locs hP hD hS => ?_)
  refine lv_aload_n hx hb d_M_init_131 rfl (lv_at hl 0 rfl) ?_
  refine lv_sipush (v := 6000) hx hb d_M_init_132 (by decide) ?_
  refine ra_new (atype := .int) (D := D) hx hb (hG _ ac_int) rfl (fun _ h => by cases h) hK hP hD hS hA 0 rfl (6000, .inl (fun _ => 0)) (fun _ => rfl) (by decide +kernel) (by decide +kernel) (Nat.le_of_ble_eq_true rfl) (Nat.le_of_ble_eq_true rfl) (Nat.le_of_ble_eq_true rfl) d_M_init_135 (fun q10 H hP hD hS => ?_)
  refine W.widen (k := 10) (n := 72018) (Nat.le_of_ble_eq_true rfl) (Nat.le_of_ble_eq_true rfl) ?_
  refine va_putF (D := D) (ci := 12) (v := .ref q10) (ty := .array .int) (C := R_M) (T := T_M) (N := 84) hx hb hG gi_M ty_M to_M nm_M hown hK hP hD hS 0 rfl rfl 20 (by decide) (hG _ fl_M_74) (fun _ h9 => h9) rfl hin rfl (by decide +kernel) rfl rfl (Nat.le_of_ble_eq_true rfl) d_M_init_137 (fun H locs hP hD hS => ?_)
  refine lv_aload_n hx hb d_M_init_140 rfl (lv_at hl 0 rfl) ?_
  refine lv_sipush (v := 6000) hx hb d_M_init_141 (by decide) ?_
  refine ra_new (atype := .int) (D := D) hx hb (hG _ ac_int) rfl (fun _ h => by cases h) hK hP hD hS hA 0 rfl (6000, .inl (fun _ => 0)) (fun _ => rfl) (by decide +kernel) (by decide +kernel) (Nat.le_of_ble_eq_true rfl) (Nat.le_of_ble_eq_true rfl) (Nat.le_of_ble_eq_true rfl) d_M_init_144 (fun q11 H hP hD hS => ?_)
  have hP : va_P D kl [(h0, .inr (12, [.ref q1, .int 0, .int 0, .int 0, .int 0, .int 0, .int 0, .int 0, .int 0, .int 0, .ref q2, .ref q3, .ref q4, .ref q5, .ref q6, .ref q7, .ref q8, .ref q9, .int 0, .int 0, .ref q10, .null, .null, .null, .null, .null, .null, .null, .null, .null, .int 0, .int 0, .null, .null, .null, .null, .null, .null, .null, .null, .int 0, .null, .int 0, .null, .null, .null, .null, .null, .null, .int 0, .int 0, .int 0, .int 0, .int 0, .int 0, .int 0, .null, .null, .null, .null, .null, .null, .null, .null, .null, .null, .null, .int 0, .null, .null, .null, .null, .int 0, .null, .null, .null, .null, .null, .null, .null, .null, .null, .int 0, .int 0])), (q1, .inl (cB, 65536, .inl (fun _ => 0))), (q2, .inl (cI, 60, .inl (fun _ => 0))), (q3, .inl (cI, 60, .inl (fun _ => 0))), (q4, .inl (cI, 61, .inl (fun _ => 0))), (q5, .inl (cI, 60, .inl (fun _ => 0))), (q6, .inl (cI, 60, .inl (fun _ => 0))), (q7, .inl (cI, 61, .inl (fun _ => 0))), (q8, .inl (cI, 60, .inl (fun _ => 0))), (q9, .inl (cI, 60, .inl (fun _ => 0))), (q10, .inl (cI, 6000, .inl (fun _ => 0))), (q11, .inl (cI, 6000, .inl (fun _ => 0)))] H := hP
  have hD : va_D A [(h0, .inr (12, [.ref q1, .int 0, .int 0, .int 0, .int 0, .int 0, .int 0, .int 0, .int 0, .int 0, .ref q2, .ref q3, .ref q4, .ref q5, .ref q6, .ref q7, .ref q8, .ref q9, .int 0, .int 0, .ref q10, .null, .null, .null, .null, .null, .null, .null, .null, .null, .int 0, .int 0, .null, .null, .null, .null, .null, .null, .null, .null, .int 0, .null, .int 0, .null, .null, .null, .null, .null, .null, .int 0, .int 0, .int 0, .int 0, .int 0, .int 0, .int 0, .null, .null, .null, .null, .null, .null, .null, .null, .null, .null, .null, .int 0, .null, .null, .null, .null, .int 0, .null, .null, .null, .null, .null, .null, .null, .null, .null, .int 0, .int 0])), (q1, .inl (cB, 65536, .inl (fun _ => 0))), (q2, .inl (cI, 60, .inl (fun _ => 0))), (q3, .inl (cI, 60, .inl (fun _ => 0))), (q4, .inl (cI, 61, .inl (fun _ => 0))), (q5, .inl (cI, 60, .inl (fun _ => 0))), (q6, .inl (cI, 60, .inl (fun _ => 0))), (q7, .inl (cI, 61, .inl (fun _ => 0))), (q8, .inl (cI, 60, .inl (fun _ => 0))), (q9, .inl (cI, 60, .inl (fun _ => 0))), (q10, .inl (cI, 6000, .inl (fun _ => 0))), (q11, .inl (cI, 6000, .inl (fun _ => 0)))] := hD
  refine W.widen (k := 11) (n := 78018) (Nat.le_of_ble_eq_true rfl) (Nat.le_of_ble_eq_true rfl) ?_
  refine va_putF (D := D) (ci := 12) (v := .ref q11) (ty := .array .int) (C := R_M) (T := T_M) (N := 84) hx hb hG gi_M ty_M to_M nm_M hown hK hP hD hS 0 rfl rfl 21 (by decide) (hG _ fl_M_77) (fun _ h9 => h9) rfl hin rfl (by decide +kernel) rfl rfl (Nat.le_of_ble_eq_true rfl) d_M_init_146 (fun H locs hP hD hS => ?_)
  refine lv_aload_n hx hb d_M_init_149 rfl (lv_at hl 0 rfl) ?_
  refine lv_sipush (v := 6000) hx hb d_M_init_150 (by decide) ?_
  refine ra_new (atype := .int) (D := D) hx hb (hG _ ac_int) rfl (fun _ h => by cases h) hK hP hD hS hA 0 rfl (6000, .inl (fun _ => 0)) (fun _ => rfl) (by decide +kernel) (by decide +kernel) (Nat.le_of_ble_eq_true rfl) (Nat.le_of_ble_eq_true rfl) (Nat.le_of_ble_eq_true rfl) d_M_init_153 (fun q12 H hP hD hS => ?_)
  refine W.widen (k := 12) (n := 84018) (Nat.le_of_ble_eq_true rfl) (Nat.le_of_ble_eq_true rfl) ?_
  refine va_putF (D := D) (ci := 12) (v := .ref q12) (ty := .array .int) (C := R_M) (T := T_M) (N := 84) hx hb hG gi_M ty_M to_M nm_M hown hK hP hD hS 0 rfl rfl 22 (by decide) (hG _ fl_M_80) (fun _ h9 => h9) rfl hin rfl (by decide +kernel) rfl rfl (Nat.le_of_ble_eq_true rfl) d_M_init_155 (fun H locs hP hD hS => ?_)
  refine lv_aload_n hx hb d_M_init_158 rfl (lv_at hl 0 rfl) ?_
  refine lv_sipush (v := 6000) hx hb d_M_init_159 (by decide) ?_
  refine ra_new (atype := .int) (D := D) hx hb (hG _ ac_int) rfl (fun _ h => by cases h) hK hP hD hS hA 0 rfl (6000, .inl (fun _ => 0)) (fun _ => rfl) (by decide +kernel) (by decide +kernel) (Nat.le_of_ble_eq_true rfl) (Nat.le_of_ble_eq_true rfl) (Nat.le_of_ble_eq_true rfl) d_M_init_162 (fun q13 H hP hD hS => ?_)
  refine W.widen (k := 13) (n := 90018) (Nat.le_of_ble_eq_true rfl) (Nat.le_of_ble_eq_true rfl) ?_
  refine va_putF (D := D) (ci := 12) (v := .ref q13) (ty := .array .int) (C := R_M) (T := T_M) (N := 84) hx hb hG gi_M ty_M to_M nm_M hown hK hP hD hS 0 rfl rfl 23 (by decide) (hG _ fl_M_83) (fun _ h9 => h9) rfl hin rfl (by decide +kernel) rfl rfl (Nat.le_of_ble_eq_true rfl) d_M_init_164 (fun H locs hP hD hS => ?_)
  refine lv_aload_n hx hb d_M_init_167 rfl (lv_at hl 0 rfl) ?_
  refine lv_sipush (v := 6000) hx hb d_M_init_168 (by decide) ?_
  refine ra_new (atype := .boolean) (D := D) hx hb (hG _ ac_boolean) rfl (fun _ h => by cases h) hK hP hD hS hA 3 rfl (6000, .inl (fun _ => 0)) (fun _ => rfl) (by decide +kernel) (by decide +kernel) (Nat.le_of_ble_eq_true rfl) (Nat.le_of_ble_eq_true rfl) (Nat.le_of_ble_eq_true rfl) d_M_init_171 (fun q14 H hP hD hS => ?_)
  refine W.widen (k := 14) (n := 96018) (Nat.le_of_ble_eq_true rfl) (Nat.le_of_ble_eq_true rfl) ?_
  refine va_putF (D := D) (ci := 12) (v := .ref q14) (ty := .array .boolean) (C := R_M) (T := T_M) (N := 84) hx hb hG gi_M ty_M to_M nm_M hown hK hP hD hS 0 rfl rfl 24 (by decide) (hG _ fl_M_86) (fun _ h9 => h9) rfl hin rfl (by decide +kernel) rfl rfl (Nat.le_of_ble_eq_true rfl) d_M_init_173 (fun H locs hP hD hS => ?_)
  refine lv_aload_n hx hb d_M_init_176 rfl (lv_at hl 0 rfl) ?_
  refine lv_sipush (v := 17000) hx hb d_M_init_177 (by decide) ?_
  refine ra_new (atype := .int) (D := D) hx hb (hG _ ac_int) rfl (fun _ h => by cases h) hK hP hD hS hA 0 rfl (17000, .inl (fun _ => 0)) (fun _ => rfl) (by decide +kernel) (by decide +kernel) (Nat.le_of_ble_eq_true rfl) (Nat.le_of_ble_eq_true rfl) (Nat.le_of_ble_eq_true rfl) d_M_init_180 (fun q15 H hP hD hS => ?_)
  refine W.widen (k := 15) (n := 113018) (Nat.le_of_ble_eq_true rfl) (Nat.le_of_ble_eq_true rfl) ?_
  refine va_putF (D := D) (ci := 12) (v := .ref q15) (ty := .array .int) (C := R_M) (T := T_M) (N := 84) hx hb hG gi_M ty_M to_M nm_M hown hK hP hD hS 0 rfl rfl 25 (by decide) (hG _ fl_M_90) (fun _ h9 => h9) rfl hin rfl (by decide +kernel) rfl rfl (Nat.le_of_ble_eq_true rfl) d_M_init_182 (fun H locs hP hD hS => ?_)
  refine lv_aload_n hx hb d_M_init_185 rfl (lv_at hl 0 rfl) ?_
  refine lv_sipush (v := 17001) hx hb d_M_init_186 (by decide) ?_
  refine ra_new (atype := .int) (D := D) hx hb (hG _ ac_int) rfl (fun _ h => by cases h) hK hP hD hS hA 0 rfl (17001, .inl (fun _ => 0)) (fun _ => rfl) (by decide +kernel) (by decide +kernel) (Nat.le_of_ble_eq_true rfl) (Nat.le_of_ble_eq_true rfl) (Nat.le_of_ble_eq_true rfl) d_M_init_189 (fun q16 H hP hD hS => ?_)
  refine W.widen (k := 16) (n := 130019) (Nat.le_of_ble_eq_true rfl) (Nat.le_of_ble_eq_true rfl) ?_
  refine va_putF (D := D) (ci := 12) (v := .ref q16) (ty := .array .int) (C := R_M) (T := T_M) (N := 84) hx hb hG gi_M ty_M to_M nm_M hown hK hP hD hS 0 rfl rfl 26 (by decide) (hG _ fl_M_93) (fun _ h9 => h9) rfl hin rfl (by decide +kernel) rfl rfl (Nat.le_of_ble_eq_true rfl) d_M_init_191 (fun H locs hP hD hS => ?_)
  refine lv_aload_n hx hb d_M_init_194 rfl (lv_at hl 0 rfl) ?_
  refine lv_sipush (v := 17000) hx hb d_M_init_195 (by decide) ?_
  refine ra_new (atype := .int) (D := D) hx hb (hG _ ac_int) rfl (fun _ h => by cases h) hK hP hD hS hA 0 rfl (17000, .inl (fun _ => 0)) (fun _ => rfl) (by decide +kernel) (by decide +kernel) (Nat.le_of_ble_eq_true rfl) (Nat.le_of_ble_eq_true rfl) (Nat.le_of_ble_eq_true rfl) d_M_init_198 (fun q17 H hP hD hS => ?_)
  refine W.widen (k := 17) (n := 147019) (Nat.le_of_ble_eq_true rfl) (Nat.le_of_ble_eq_true rfl) ?_
  refine va_putF (D := D) (ci := 12) (v := .ref q17) (ty := .array .int) (C := R_M) (T := T_M) (N := 84) hx hb hG gi_M ty_M to_M nm_M hown hK hP hD hS 0 rfl rfl 27 (by decide) (hG _ fl_M_96) (fun _ h9 => h9) rfl hin rfl (by decide +kernel) rfl rfl (Nat.le_of_ble_eq_true rfl) d_M_init_200 (fun H locs hP hD hS => ?_)
  refine lv_aload_n hx hb d_M_init_203 rfl (lv_at hl 0 rfl) ?_
  refine lv_ldc (v := 66000) hx hb hown (hG _ ct_M_99) d_M_init_204 ?_
  refine ra_new (atype := .int) (D := D) hx hb (hG _ ac_int) rfl (fun _ h => by cases h) hK hP hD hS hA 0 rfl (66000, .inl (fun _ => 0)) (fun _ => rfl) (by decide +kernel) (by decide +kernel) (Nat.le_of_ble_eq_true rfl) (Nat.le_of_ble_eq_true rfl) (Nat.le_of_ble_eq_true rfl) d_M_init_206 (fun q18 H hP hD hS => ?_)
  refine W.widen (k := 18) (n := 213019) (Nat.le_of_ble_eq_true rfl) (Nat.le_of_ble_eq_true rfl) ?_
  refine va_putF (D := D) (ci := 12) (v := .ref q18) (ty := .array .int) (C := R_M) (T := T_M) (N := 84) hx hb hG gi_M ty_M to_M nm_M hown hK hP hD hS 0 rfl rfl 28 (by decide) (hG _ fl_M_100) (fun _ h9 => h9) rfl hin rfl (by decide +kernel) rfl rfl (Nat.le_of_ble_eq_true rfl) d_M_init_208 (fun H locs hP hD hS => ?_)
  refine lv_aload_n hx hb d_M_init_211 rfl (lv_at hl 0 rfl) ?_
  refine lv_sipush (v := 17000) hx hb d_M_init_212 (by decide) ?_
  refine ra_new (atype := .int) (D := D) hx hb (hG _ ac_int) rfl (fun _ h => by cases h) hK hP hD hS hA 0 rfl (17000, .inl (fun _ => 0)) (fun _ => rfl) (by decide +kernel) (by decide +kernel) (Nat.le_of_ble_eq_true rfl) (Nat.le_of_ble_eq_true rfl) (Nat.le_of_ble_eq_true rfl) d_M_init_215 (fun q19 H hP hD hS => ?_)
  have hP : va_P D kl [(h0, .inr (12, [.ref q1, .int 0, .int 0, .int 0, .int 0, .int 0, .int 0, .int 0, .int 0, .int 0, .ref q2, .ref q3, .ref q4, .ref q5, .ref q6, .ref q7, .ref q8, .ref q9, .int 0, .int 0, .ref q10, .ref q11, .ref q12, .ref q13, .ref q14, .ref q15, .ref q16, .ref q17, .ref q18, .null, .int 0, .int 0, .null, .null, .null, .null, .null, .null, .null, .null, .int 0, .null, .int 0, .null, .null, .null, .null, .null, .null, .int 0, .int 0, .int 0, .int 0, .int 0, .int 0, .int 0, .null, .null, .null, .null, .null, .null, .null, .null, .null, .null, .null, .int 0, .null, .null, .null, .null, .int 0, .null, .null, .null, .null, .null, .null, .null, .null, .null, .int 0, .int 0])), (q1, .inl (cB, 65536, .inl (fun _ => 0))), (q2, .inl (cI, 60, .inl (fun _ => 0))), (q3, .inl (cI, 60, .inl (fun _ => 0))), (q4, .inl (cI, 61, .inl (fun _ => 0))), (q5, .inl (cI, 60, .inl (fun _ => 0))), (q6, .inl (cI, 60, .inl (fun _ => 0))), (q7, .inl (cI, 61, .inl (fun _ => 0))), (q8, .inl (cI, 60, .inl (fun _ => 0))), (q9, .inl (cI, 60, .inl (fun _ => 0))), (q10, .inl (cI, 6000, .inl (fun _ => 0))), (q11, .inl (cI, 6000, .inl (fun _ => 0))), (q12, .inl (cI, 6000, .inl (fun _ => 0))), (q13, .inl (cI, 6000, .inl (fun _ => 0))), (q14, .inl (cZ, 6000, .inl (fun _ => 0))), (q15, .inl (cI, 17000, .inl (fun _ => 0))), (q16, .inl (cI, 17001, .inl (fun _ => 0))), (q17, .inl (cI, 17000, .inl (fun _ => 0))), (q18, .inl (cI, 66000, .inl (fun _ => 0))), (q19, .inl (cI, 17000, .inl (fun _ => 0)))] H := hP
  have hD : va_D A [(h0, .inr (12, [.ref q1, .int 0, .int 0, .int 0, .int 0, .int 0, .int 0, .int 0, .int 0, .int 0, .ref q2, .ref q3, .ref q4, .ref q5, .ref q6, .ref q7, .ref q8, .ref q9, .int 0, .int 0, .ref q10, .ref q11, .ref q12, .ref q13, .ref q14, .ref q15, .ref q16, .ref q17, .ref q18, .null, .int 0, .int 0, .null, .null, .null, .null, .null, .null, .null, .null, .int 0, .null, .int 0, .null, .null, .null, .null, .null, .null, .int 0, .int 0, .int 0, .int 0, .int 0, .int 0, .int 0, .null, .null, .null, .null, .null, .null, .null, .null, .null, .null, .null, .int 0, .null, .null, .null, .null, .int 0, .null, .null, .null, .null, .null, .null, .null, .null, .null, .int 0, .int 0])), (q1, .inl (cB, 65536, .inl (fun _ => 0))), (q2, .inl (cI, 60, .inl (fun _ => 0))), (q3, .inl (cI, 60, .inl (fun _ => 0))), (q4, .inl (cI, 61, .inl (fun _ => 0))), (q5, .inl (cI, 60, .inl (fun _ => 0))), (q6, .inl (cI, 60, .inl (fun _ => 0))), (q7, .inl (cI, 61, .inl (fun _ => 0))), (q8, .inl (cI, 60, .inl (fun _ => 0))), (q9, .inl (cI, 60, .inl (fun _ => 0))), (q10, .inl (cI, 6000, .inl (fun _ => 0))), (q11, .inl (cI, 6000, .inl (fun _ => 0))), (q12, .inl (cI, 6000, .inl (fun _ => 0))), (q13, .inl (cI, 6000, .inl (fun _ => 0))), (q14, .inl (cZ, 6000, .inl (fun _ => 0))), (q15, .inl (cI, 17000, .inl (fun _ => 0))), (q16, .inl (cI, 17001, .inl (fun _ => 0))), (q17, .inl (cI, 17000, .inl (fun _ => 0))), (q18, .inl (cI, 66000, .inl (fun _ => 0))), (q19, .inl (cI, 17000, .inl (fun _ => 0)))] := hD
  refine W.widen (k := 19) (n := 230019) (Nat.le_of_ble_eq_true rfl) (Nat.le_of_ble_eq_true rfl) ?_
  refine va_putF (D := D) (ci := 12) (v := .ref q19) (ty := .array .int) (C := R_M) (T := T_M) (N := 84) hx hb hG gi_M ty_M to_M nm_M hown hK hP hD hS 0 rfl rfl 29 (by decide) (hG _ fl_M_103) (fun _ h9 => h9) rfl hin rfl (by decide +kernel) rfl rfl (Nat.le_of_ble_eq_true rfl) d_M_init_217 (fun H locs hP hD hS => ?_)
  refine lv_aload_n hx hb d_M_init_220 rfl (lv_at hl 0 rfl) ?_
  refine lv_iconst (v := 0) hx hb d_M_init_221 (by decide) ?_
  refine va_put (D := D) (ci := 12) (v := .int 0) (ty := .int) (C := R_M) (T := T_M) (N := 84) hx hb hG gi_M ty_M to_M nm_M hown hK hP hD hS 0 rfl rfl 30 (by decide) (hG _ fl_M_106) (fun _ h9 => h9) rfl (by decide +kernel) rfl rfl (Nat.le_of_ble_eq_true rfl) d_M_init_222 (fun H locs hP hD hS => ?_)
  refine lv_aload_n hx hb d_M_init_225 rfl (lv_at hl 0 rfl) ?_
  refine lv_iconst (v := 0) hx hb d_M_init_226 (by decide) ?_
  refine va_put (D := D) (ci := 12) (v := .int 0) (ty := .int) (C := R_M) (T := T_M) (N := 84) hx hb hG gi_M ty_M to_M nm_M hown hK hP hD hS 0 rfl rfl 31 (by decide) (hG _ fl_M_109) (fun _ h9 => h9) rfl (by decide +kernel) rfl rfl (Nat.le_of_ble_eq_true rfl) d_M_init_227 (fun H locs hP hD hS => ?_)
  refine lv_aload_n hx hb d_M_init_230 rfl (lv_at hl 0 rfl) ?_
  refine lv_ldc (v := 66000) hx hb hown (hG _ ct_M_99) d_M_init_231 ?_
  refine ra_new (atype := .int) (D := D) hx hb (hG _ ac_int) rfl (fun _ h => by cases h) hK hP hD hS hA 0 rfl (66000, .inl (fun _ => 0)) (fun _ => rfl) (by decide +kernel) (by decide +kernel) (Nat.le_of_ble_eq_true rfl) (Nat.le_of_ble_eq_true rfl) (Nat.le_of_ble_eq_true rfl) d_M_init_233 (fun q20 H hP hD hS => ?_)
  refine W.widen (k := 20) (n := 296019) (Nat.le_of_ble_eq_true rfl) (Nat.le_of_ble_eq_true rfl) ?_
  refine va_putF (D := D) (ci := 12) (v := .ref q20) (ty := .array .int) (C := R_M) (T := T_M) (N := 84) hx hb hG gi_M ty_M to_M nm_M hown hK hP hD hS 0 rfl rfl 32 (by decide) (hG _ fl_M_112) (fun _ h9 => h9) rfl hin rfl (by decide +kernel) rfl rfl (Nat.le_of_ble_eq_true rfl) d_M_init_235 (fun H locs hP hD hS => ?_)
  refine lv_aload_n hx hb d_M_init_238 rfl (lv_at hl 0 rfl) ?_
  refine lv_ldc (v := 66000) hx hb hown (hG _ ct_M_99) d_M_init_239 ?_
  refine ra_new (atype := .int) (D := D) hx hb (hG _ ac_int) rfl (fun _ h => by cases h) hK hP hD hS hA 0 rfl (66000, .inl (fun _ => 0)) (fun _ => rfl) (by decide +kernel) (by decide +kernel) (Nat.le_of_ble_eq_true rfl) (Nat.le_of_ble_eq_true rfl) (Nat.le_of_ble_eq_true rfl) d_M_init_241 (fun q21 H hP hD hS => ?_)
  refine W.widen (k := 21) (n := 362019) (Nat.le_of_ble_eq_true rfl) (Nat.le_of_ble_eq_true rfl) ?_
  refine va_putF (D := D) (ci := 12) (v := .ref q21) (ty := .array .int) (C := R_M) (T := T_M) (N := 84) hx hb hG gi_M ty_M to_M nm_M hown hK hP hD hS 0 rfl rfl 33 (by decide) (hG _ fl_M_115) (fun _ h9 => h9) rfl hin rfl (by decide +kernel) rfl rfl (Nat.le_of_ble_eq_true rfl) d_M_init_243 (fun H locs hP hD hS => ?_)
  refine lv_aload_n hx hb d_M_init_246 rfl (lv_at hl 0 rfl) ?_
  refine lv_ldc (v := 66000) hx hb hown (hG _ ct_M_99) d_M_init_247 ?_
  refine ra_new (atype := .int) (D := D) hx hb (hG _ ac_int) rfl (fun _ h => by cases h) hK hP hD hS hA 0 rfl (66000, .inl (fun _ => 0)) (fun _ => rfl) (by decide +kernel) (by decide +kernel) (Nat.le_of_ble_eq_true rfl) (Nat.le_of_ble_eq_true rfl) (Nat.le_of_ble_eq_true rfl) d_M_init_249 (fun q22 H hP hD hS => ?_)
  refine W.widen (k := 22) (n := 428019) (Nat.le_of_ble_eq_true rfl) (Nat.le_of_ble_eq_true rfl) ?_
  refine va_putF (D := D) (ci := 12) (v := .ref q22) (ty := .array .int) (C := R_M) (T := T_M) (N := 84) hx hb hG gi_M ty_M to_M nm_M hown hK hP hD hS 0 rfl rfl 34 (by decide) (hG _ fl_M_118) (fun _ h9 => h9) rfl hin rfl (by decide +kernel) rfl rfl (Nat.le_of_ble_eq_true rfl) d_M_init_251 (fun H locs hP hD hS => ?_)
  refine lv_aload_n hx hb d_M_init_254 rfl (lv_at hl 0 rfl) ?_
  refine lv_ldc (v := 66000) hx hb hown (hG _ ct_M_99) d_M_init_255 ?_
  refine ra_new (atype := .int) (D := D) hx hb (hG _ ac_int) rfl (fun _ h => by cases h) hK hP hD hS hA 0 rfl (66000, .inl (fun _ => 0)) (fun _ => rfl) (by decide +kernel) (by decide +kernel) (Nat.le_of_ble_eq_true rfl) (Nat.le_of_ble_eq_true rfl) (Nat.le_of_ble_eq_true rfl) d_M_init_257 (fun q23 H hP hD hS => ?_)
  refine W.widen (k := 23) (n := 494019) (Nat.le_of_ble_eq_true rfl) (Nat.le_of_ble_eq_true rfl) ?_
  refine va_putF (D := D) (ci := 12) (v := .ref q23) (ty := .array .int) (C := R_M) (T := T_M) (N := 84) hx hb hG gi_M ty_M to_M nm_M hown hK hP hD hS 0 rfl rfl 35 (by decide) (hG _ fl_M_121) (fun _ h9 => h9) rfl hin rfl (by decide +kernel) rfl rfl (Nat.le_of_ble_eq_true rfl) d_M_init_259 (fun H locs hP hD hS => ?_)
  refine lv_aload_n hx hb d_M_init_262 rfl (lv_at hl 0 rfl) ?_
  refine lv_ldc (v := 66000) hx hb hown (hG _ ct_M_99) d_M_init_263 ?_
  refine ra_new (atype := .int) (D := D) hx hb (hG _ ac_int) rfl (fun _ h => by cases h) hK hP hD hS hA 0 rfl (66000, .inl (fun _ => 0)) (fun _ => rfl) (by decide +kernel) (by decide +kernel) (Nat.le_of_ble_eq_true rfl) (Nat.le_of_ble_eq_true rfl) (Nat.le_of_ble_eq_true rfl) d_M_init_265 (fun q24 H hP hD hS => ?_)
  refine W.widen (k := 24) (n := 560019) (Nat.le_of_ble_eq_true rfl) (Nat.le_of_ble_eq_true rfl) ?_
  refine va_putF (D := D) (ci := 12) (v := .ref q24) (ty := .array .int) (C := R_M) (T := T_M) (N := 84) hx hb hG gi_M ty_M to_M nm_M hown hK hP hD hS 0 rfl rfl 36 (by decide) (hG _ fl_M_124) (fun _ h9 => h9) rfl hin rfl (by decide +kernel) rfl rfl (Nat.le_of_ble_eq_true rfl) d_M_init_267 (fun H locs hP hD hS => ?_)
  refine lv_aload_n hx hb d_M_init_270 rfl (lv_at hl 0 rfl) ?_
  refine lv_ldc (v := 66000) hx hb hown (hG _ ct_M_99) d_M_init_271 ?_
  refine ra_new (atype := .int) (D := D) hx hb (hG _ ac_int) rfl (fun _ h => by cases h) hK hP hD hS hA 0 rfl (66000, .inl (fun _ => 0)) (fun _ => rfl) (by decide +kernel) (by decide +kernel) (Nat.le_of_ble_eq_true rfl) (Nat.le_of_ble_eq_true rfl) (Nat.le_of_ble_eq_true rfl) d_M_init_273 (fun q25 H hP hD hS => ?_)
  refine W.widen (k := 25) (n := 626019) (Nat.le_of_ble_eq_true rfl) (Nat.le_of_ble_eq_true rfl) ?_
  refine va_putF (D := D) (ci := 12) (v := .ref q25) (ty := .array .int) (C := R_M) (T := T_M) (N := 84) hx hb hG gi_M ty_M to_M nm_M hown hK hP hD hS 0 rfl rfl 37 (by decide) (hG _ fl_M_127) (fun _ h9 => h9) rfl hin rfl (by decide +kernel) rfl rfl (Nat.le_of_ble_eq_true rfl) d_M_init_275 (fun H locs hP hD hS => ?_)
  refine lv_aload_n hx hb d_M_init_278 rfl (lv_at hl 0 rfl) ?_
  refine lv_ldc (v := 66000) hx hb hown (hG _ ct_M_99) d_M_init_279 ?_
  refine ra_new (atype := .int) (D := D) hx hb (hG _ ac_int) rfl (fun _ h => by cases h) hK hP hD hS hA 0 rfl (66000, .inl (fun _ => 0)) (fun _ => rfl) (by decide +kernel) (by decide +kernel) (Nat.le_of_ble_eq_true rfl) (Nat.le_of_ble_eq_true rfl) (Nat.le_of_ble_eq_true rfl) d_M_init_281 (fun q26 H hP hD hS => ?_)
  have hP : va_P D kl [(h0, .inr (12, [.ref q1, .int 0, .int 0, .int 0, .int 0, .int 0, .int 0, .int 0, .int 0, .int 0, .ref q2, .ref q3, .ref q4, .ref q5, .ref q6, .ref q7, .ref q8, .ref q9, .int 0, .int 0, .ref q10, .ref q11, .ref q12, .ref q13, .ref q14, .ref q15, .ref q16, .ref q17, .ref q18, .ref q19, .int 0, .int 0, .ref q20, .ref q21, .ref q22, .ref q23, .ref q24, .ref q25, .null, .null, .int 0, .null, .int 0, .null, .null, .null, .null, .null, .null, .int 0, .int 0, .int 0, .int 0, .int 0, .int 0, .int 0, .null, .null, .null, .null, .null, .null, .null, .null, .null, .null, .null, .int 0, .null, .null, .null, .null, .int 0, .null, .null, .null, .null, .null, .null, .null, .null, .null, .int 0, .int 0])), (q1, .inl (cB, 65536, .inl (fun _ => 0))), (q2, .inl (cI, 60, .inl (fun _ => 0))), (q3, .inl (cI, 60, .inl (fun _ => 0))), (q4, .inl (cI, 61, .inl (fun _ => 0))), (q5, .inl (cI, 60, .inl (fun _ => 0))), (q6, .inl (cI, 60, .inl (fun _ => 0))), (q7, .inl (cI, 61, .inl (fun _ => 0))), (q8, .inl (cI, 60, .inl (fun _ => 0))), (q9, .inl (cI, 60, .inl (fun _ => 0))), (q10, .inl (cI, 6000, .inl (fun _ => 0))), (q11, .inl (cI, 6000, .inl (fun _ => 0))), (q12, .inl (cI, 6000, .inl (fun _ => 0))), (q13, .inl (cI, 6000, .inl (fun _ => 0))), (q14, .inl (cZ, 6000, .inl (fun _ => 0))), (q15, .inl (cI, 17000, .inl (fun _ => 0))), (q16, .inl (cI, 17001, .inl (fun _ => 0))), (q17, .inl (cI, 17000, .inl (fun _ => 0))), (q18, .inl (cI, 66000, .inl (fun _ => 0))), (q19, .inl (cI, 17000, .inl (fun _ => 0))), (q20, .inl (cI, 66000, .inl (fun _ => 0))), (q21, .inl (cI, 66000, .inl (fun _ => 0))), (q22, .inl (cI, 66000, .inl (fun _ => 0))), (q23, .inl (cI, 66000, .inl (fun _ => 0))), (q24, .inl (cI, 66000, .inl (fun _ => 0))), (q25, .inl (cI, 66000, .inl (fun _ => 0))), (q26, .inl (cI, 66000, .inl (fun _ => 0)))] H := hP
  have hD : va_D A [(h0, .inr (12, [.ref q1, .int 0, .int 0, .int 0, .int 0, .int 0, .int 0, .int 0, .int 0, .int 0, .ref q2, .ref q3, .ref q4, .ref q5, .ref q6, .ref q7, .ref q8, .ref q9, .int 0, .int 0, .ref q10, .ref q11, .ref q12, .ref q13, .ref q14, .ref q15, .ref q16, .ref q17, .ref q18, .ref q19, .int 0, .int 0, .ref q20, .ref q21, .ref q22, .ref q23, .ref q24, .ref q25, .null, .null, .int 0, .null, .int 0, .null, .null, .null, .null, .null, .null, .int 0, .int 0, .int 0, .int 0, .int 0, .int 0, .int 0, .null, .null, .null, .null, .null, .null, .null, .null, .null, .null, .null, .int 0, .null, .null, .null, .null, .int 0, .null, .null, .null, .null, .null, .null, .null, .null, .null, .int 0, .int 0])), (q1, .inl (cB, 65536, .inl (fun _ => 0))), (q2, .inl (cI, 60, .inl (fun _ => 0))), (q3, .inl (cI, 60, .inl (fun _ => 0))), (q4, .inl (cI, 61, .inl (fun _ => 0))), (q5, .inl (cI, 60, .inl (fun _ => 0))), (q6, .inl (cI, 60, .inl (fun _ => 0))), (q7, .inl (cI, 61, .inl (fun _ => 0))), (q8, .inl (cI, 60, .inl (fun _ => 0))), (q9, .inl (cI, 60, .inl (fun _ => 0))), (q10, .inl (cI, 6000, .inl (fun _ => 0))), (q11, .inl (cI, 6000, .inl (fun _ => 0))), (q12, .inl (cI, 6000, .inl (fun _ => 0))), (q13, .inl (cI, 6000, .inl (fun _ => 0))), (q14, .inl (cZ, 6000, .inl (fun _ => 0))), (q15, .inl (cI, 17000, .inl (fun _ => 0))), (q16, .inl (cI, 17001, .inl (fun _ => 0))), (q17, .inl (cI, 17000, .inl (fun _ => 0))), (q18, .inl (cI, 66000, .inl (fun _ => 0))), (q19, .inl (cI, 17000, .inl (fun _ => 0))), (q20, .inl (cI, 66000, .inl (fun _ => 0))), (q21, .inl (cI, 66000, .inl (fun _ => 0))), (q22, .inl (cI, 66000, .inl (fun _ => 0))), (q23, .inl (cI, 66000, .inl (fun _ => 0))), (q24, .inl (cI, 66000, .inl (fun _ => 0))), (q25, .inl (cI, 66000, .inl (fun _ => 0))), (q26, .inl (cI, 66000, .inl (fun _ => 0)))] := hD
  refine W.widen (k := 26) (n := 692019) (Nat.le_of_ble_eq_true rfl) (Nat.le_of_ble_eq_true rfl) ?_
  refine va_putF (D := D) (ci := 12) (v := .ref q26) (ty := .array .int) (C := R_M) (T := T_M) (N := 84) hx hb hG gi_M ty_M to_M nm_M hown hK hP hD hS 0 rfl rfl 38 (by decide) (hG _ fl_M_130) (fun _ h9 => h9) rfl hin rfl (by decide +kernel) rfl rfl (Nat.le_of_ble_eq_true rfl) d_M_init_283 (fun H locs hP hD hS => ?_)
  refine lv_aload_n hx hb d_M_init_286 rfl (lv_at hl 0 rfl) ?_
  refine lv_ldc (v := 66000) hx hb hown (hG _ ct_M_99) d_M_init_287 ?_
  refine ra_new (atype := .int) (D := D) hx hb (hG _ ac_int) rfl (fun _ h => by cases h) hK hP hD hS hA 0 rfl (66000, .inl (fun _ => 0)) (fun _ => rfl) (by decide +kernel) (by decide +kernel) (Nat.le_of_ble_eq_true rfl) (Nat.le_of_ble_eq_true rfl) (Nat.le_of_ble_eq_true rfl) d_M_init_289 (fun q27 H hP hD hS => ?_)
  refine W.widen (k := 27) (n := 758019) (Nat.le_of_ble_eq_true rfl) (Nat.le_of_ble_eq_true rfl) ?_
  refine va_putF (D := D) (ci := 12) (v := .ref q27) (ty := .array .int) (C := R_M) (T := T_M) (N := 84) hx hb hG gi_M ty_M to_M nm_M hown hK hP hD hS 0 rfl rfl 39 (by decide) (hG _ fl_M_133) (fun _ h9 => h9) rfl hin rfl (by decide +kernel) rfl rfl (Nat.le_of_ble_eq_true rfl) d_M_init_291 (fun H locs hP hD hS => ?_)
  refine lv_aload_n hx hb d_M_init_294 rfl (lv_at hl 0 rfl) ?_
  refine lv_iconst (v := 0) hx hb d_M_init_295 (by decide) ?_
  refine va_put (D := D) (ci := 12) (v := .int 0) (ty := .int) (C := R_M) (T := T_M) (N := 84) hx hb hG gi_M ty_M to_M nm_M hown hK hP hD hS 0 rfl rfl 40 (by decide) (hG _ fl_M_136) (fun _ h9 => h9) rfl (by decide +kernel) rfl rfl (Nat.le_of_ble_eq_true rfl) d_M_init_296 (fun H locs hP hD hS => ?_)
  refine lv_aload_n hx hb d_M_init_299 rfl (lv_at hl 0 rfl) ?_
  refine lv_ldc (v := 66000) hx hb hown (hG _ ct_M_99) d_M_init_300 ?_
  refine ra_new (atype := .boolean) (D := D) hx hb (hG _ ac_boolean) rfl (fun _ h => by cases h) hK hP hD hS hA 3 rfl (66000, .inl (fun _ => 0)) (fun _ => rfl) (by decide +kernel) (by decide +kernel) (Nat.le_of_ble_eq_true rfl) (Nat.le_of_ble_eq_true rfl) (Nat.le_of_ble_eq_true rfl) d_M_init_302 (fun q28 H hP hD hS => ?_)
  refine W.widen (k := 28) (n := 824019) (Nat.le_of_ble_eq_true rfl) (Nat.le_of_ble_eq_true rfl) ?_
  refine va_putF (D := D) (ci := 12) (v := .ref q28) (ty := .array .boolean) (C := R_M) (T := T_M) (N := 84) hx hb hG gi_M ty_M to_M nm_M hown hK hP hD hS 0 rfl rfl 41 (by decide) (hG _ fl_M_139) (fun _ h9 => h9) rfl hin rfl (by decide +kernel) rfl rfl (Nat.le_of_ble_eq_true rfl) d_M_init_304 (fun H locs hP hD hS => ?_)
  refine lv_aload_n hx hb d_M_init_307 rfl (lv_at hl 0 rfl) ?_
  refine lv_iconst (v := 0) hx hb d_M_init_308 (by decide) ?_
  refine va_put (D := D) (ci := 12) (v := .int 0) (ty := .int) (C := R_M) (T := T_M) (N := 84) hx hb hG gi_M ty_M to_M nm_M hown hK hP hD hS 0 rfl rfl 42 (by decide) (hG _ fl_M_142) (fun _ h9 => h9) rfl (by decide +kernel) rfl rfl (Nat.le_of_ble_eq_true rfl) d_M_init_309 (fun H locs hP hD hS => ?_)
  refine lv_aload_n hx hb d_M_init_312 rfl (lv_at hl 0 rfl) ?_
  refine lv_ldc (v := 66000) hx hb hown (hG _ ct_M_99) d_M_init_313 ?_
  refine ra_new (atype := .int) (D := D) hx hb (hG _ ac_int) rfl (fun _ h => by cases h) hK hP hD hS hA 0 rfl (66000, .inl (fun _ => 0)) (fun _ => rfl) (by decide +kernel) (by decide +kernel) (Nat.le_of_ble_eq_true rfl) (Nat.le_of_ble_eq_true rfl) (Nat.le_of_ble_eq_true rfl) d_M_init_315 (fun q29 H hP hD hS => ?_)
  refine W.widen (k := 29) (n := 890019) (Nat.le_of_ble_eq_true rfl) (Nat.le_of_ble_eq_true rfl) ?_
  refine va_putF (D := D) (ci := 12) (v := .ref q29) (ty := .array .int) (C := R_M) (T := T_M) (N := 84) hx hb hG gi_M ty_M to_M nm_M hown hK hP hD hS 0 rfl rfl 43 (by decide) (hG _ fl_M_145) (fun _ h9 => h9) rfl hin rfl (by decide +kernel) rfl rfl (Nat.le_of_ble_eq_true rfl) d_M_init_317 (fun H locs hP hD hS => ?_)
  refine lv_aload_n hx hb d_M_init_320 rfl (lv_at hl 0 rfl) ?_
  refine lv_ldc (v := 66000) hx hb hown (hG _ ct_M_99) d_M_init_321 ?_
  refine ra_new (atype := .int) (D := D) hx hb (hG _ ac_int) rfl (fun _ h => by cases h) hK hP hD hS hA 0 rfl (66000, .inl (fun _ => 0)) (fun _ => rfl) (by decide +kernel) (by decide +kernel) (Nat.le_of_ble_eq_true rfl) (Nat.le_of_ble_eq_true rfl) (Nat.le_of_ble_eq_true rfl) d_M_init_323 (fun q30 H hP hD hS => ?_)
  refine W.widen (k := 30) (n := 956019) (Nat.le_of_ble_eq_true rfl) (Nat.le_of_ble_eq_true rfl) ?_
  refine va_putF (D := D) (ci := 12) (v := .ref q30) (ty := .array .int) (C := R_M) (T := T_M) (N := 84) hx hb hG gi_M ty_M to_M nm_M hown hK hP hD hS 0 rfl rfl 44 (by decide) (hG _ fl_M_148) (fun _ h9 => h9) rfl hin rfl (by decide +kernel) rfl rfl (Nat.le_of_ble_eq_true rfl) d_M_init_325 (fun H locs hP hD hS => ?_)
  refine lv_aload_n hx hb d_M_init_328 rfl (lv_at hl 0 rfl) ?_
  refine lv_ldc (v := 66000) hx hb hown (hG _ ct_M_99) d_M_init_329 ?_
  refine ra_new (atype := .int) (D := D) hx hb (hG _ ac_int) rfl (fun _ h => by cases h) hK hP hD hS hA 0 rfl (66000, .inl (fun _ => 0)) (fun _ => rfl) (by decide +kernel) (by decide +kernel) (Nat.le_of_ble_eq_true rfl) (Nat.le_of_ble_eq_true rfl) (Nat.le_of_ble_eq_true rfl) d_M_init_331 (fun q31 H hP hD hS => ?_)
  refine W.widen (k := 31) (n := 1022019) (Nat.le_of_ble_eq_true rfl) (Nat.le_of_ble_eq_true rfl) ?_
  refine va_putF (D := D) (ci := 12) (v := .ref q31) (ty := .array .int) (C := R_M) (T := T_M) (N := 84) hx hb hG gi_M ty_M to_M nm_M hown hK hP hD hS 0 rfl rfl 45 (by decide) (hG _ fl_M_151) (fun _ h9 => h9) rfl hin rfl (by decide +kernel) rfl rfl (Nat.le_of_ble_eq_true rfl) d_M_init_333 (fun H locs hP hD hS => ?_)
  refine lv_aload_n hx hb d_M_init_336 rfl (lv_at hl 0 rfl) ?_
  refine lv_sipush (v := 6000) hx hb d_M_init_337 (by decide) ?_
  refine ra_new (atype := .int) (D := D) hx hb (hG _ ac_int) rfl (fun _ h => by cases h) hK hP hD hS hA 0 rfl (6000, .inl (fun _ => 0)) (fun _ => rfl) (by decide +kernel) (by decide +kernel) (Nat.le_of_ble_eq_true rfl) (Nat.le_of_ble_eq_true rfl) (Nat.le_of_ble_eq_true rfl) d_M_init_340 (fun q32 H hP hD hS => ?_)
  refine W.widen (k := 32) (n := 1028019) (Nat.le_of_ble_eq_true rfl) (Nat.le_of_ble_eq_true rfl) ?_
  refine va_putF (D := D) (ci := 12) (v := .ref q32) (ty := .array .int) (C := R_M) (T := T_M) (N := 84) hx hb hG gi_M ty_M to_M nm_M hown hK hP hD hS 0 rfl rfl 46 (by decide) (hG _ fl_M_154) (fun _ h9 => h9) rfl hin rfl (by decide +kernel) rfl rfl (Nat.le_of_ble_eq_true rfl) d_M_init_342 (fun H locs hP hD hS => ?_)
  refine lv_aload_n hx hb d_M_init_345 rfl (lv_at hl 0 rfl) ?_
  refine lv_sipush (v := 6000) hx hb d_M_init_346 (by decide) ?_
  refine ra_new (atype := .int) (D := D) hx hb (hG _ ac_int) rfl (fun _ h => by cases h) hK hP hD hS hA 0 rfl (6000, .inl (fun _ => 0)) (fun _ => rfl) (by decide +kernel) (by decide +kernel) (Nat.le_of_ble_eq_true rfl) (Nat.le_of_ble_eq_true rfl) (Nat.le_of_ble_eq_true rfl) d_M_init_349 (fun q33 H hP hD hS => ?_)
  have hP : va_P D kl [(h0, .inr (12, [.ref q1, .int 0, .int 0, .int 0, .int 0, .int 0, .int 0, .int 0, .int 0, .int 0, .ref q2, .ref q3, .ref q4, .ref q5, .ref q6, .ref q7, .ref q8, .ref q9, .int 0, .int 0, .ref q10, .ref q11, .ref q12, .ref q13, .ref q14, .ref q15, .ref q16, .ref q17, .ref q18, .ref q19, .int 0, .int 0, .ref q20, .ref q21, .ref q22, .ref q23, .ref q24, .ref q25, .ref q26, .ref q27, .int 0, .ref q28, .int 0, .ref q29, .ref q30, .ref q31, .ref q32, .null, .null, .int 0, .int 0, .int 0, .int 0, .int 0, .int 0, .int 0, .null, .null, .null, .null, .null, .null, .null, .null, .null, .null, .null, .int 0, .null, .null, .null, .null, .int 0, .null, .null, .null, .null, .null, .null, .null, .null, .null, .int 0, .int 0])), (q1, .inl (cB, 65536, .inl (fun _ => 0))), (q2, .inl (cI, 60, .inl (fun _ => 0))), (q3, .inl (cI, 60, .inl (fun _ => 0))), (q4, .inl (cI, 61, .inl (fun _ => 0))), (q5, .inl (cI, 60, .inl (fun _ => 0))), (q6, .inl (cI, 60, .inl (fun _ => 0))), (q7, .inl (cI, 61, .inl (fun _ => 0))), (q8, .inl (cI, 60, .inl (fun _ => 0))), (q9, .inl (cI, 60, .inl (fun _ => 0))), (q10, .inl (cI, 6000, .inl (fun _ => 0))), (q11, .inl (cI, 6000, .inl (fun _ => 0))), (q12, .inl (cI, 6000, .inl (fun _ => 0))), (q13, .inl (cI, 6000, .inl (fun _ => 0))), (q14, .inl (cZ, 6000, .inl (fun _ => 0))), (q15, .inl (cI, 17000, .inl (fun _ => 0))), (q16, .inl (cI, 17001, .inl (fun _ => 0))), (q17, .inl (cI, 17000, .inl (fun _ => 0))), (q18, .inl (cI, 66000, .inl (fun _ => 0))), (q19, .inl (cI, 17000, .inl (fun _ => 0))), (q20, .inl (cI, 66000, .inl (fun _ => 0))), (q21, .inl (cI, 66000, .inl (fun _ => 0))), (q22, .inl (cI, 66000, .inl (fun _ => 0))), (q23, .inl (cI, 66000, .inl (fun _ => 0))), (q24, .inl (cI, 66000, .inl (fun _ => 0))), (q25, .inl (cI, 66000, .inl (fun _ => 0))), (q26, .inl (cI, 66000, .inl (fun _ => 0))), (q27, .inl (cI, 66000, .inl (fun _ => 0))), (q28, .inl (cZ, 66000, .inl (fun _ => 0))), (q29, .inl (cI, 66000, .inl (fun _ => 0))), (q30, .inl (cI, 66000, .inl (fun _ => 0))), (q31, .inl (cI, 66000, .inl (fun _ => 0))), (q32, .inl (cI, 6000, .inl (fun _ => 0))), (q33, .inl (cI, 6000, .inl (fun _ => 0)))] H := hP
  have hD : va_D A [(h0, .inr (12, [.ref q1, .int 0, .int 0, .int 0, .int 0, .int 0, .int 0, .int 0, .int 0, .int 0, .ref q2, .ref q3, .ref q4, .ref q5, .ref q6, .ref q7, .ref q8, .ref q9, .int 0, .int 0, .ref q10, .ref q11, .ref q12, .ref q13, .ref q14, .ref q15, .ref q16, .ref q17, .ref q18, .ref q19, .int 0, .int 0, .ref q20, .ref q21, .ref q22, .ref q23, .ref q24, .ref q25, .ref q26, .ref q27, .int 0, .ref q28, .int 0, .ref q29, .ref q30, .ref q31, .ref q32, .null, .null, .int 0, .int 0, .int 0, .int 0, .int 0, .int 0, .int 0, .null, .null, .null, .null, .null, .null, .null, .null, .null, .null, .null, .int 0, .null, .null, .null, .null, .int 0, .null, .null, .null, .null, .null, .null, .null, .null, .null, .int 0, .int 0])), (q1, .inl (cB, 65536, .inl (fun _ => 0))), (q2, .inl (cI, 60, .inl (fun _ => 0))), (q3, .inl (cI, 60, .inl (fun _ => 0))), (q4, .inl (cI, 61, .inl (fun _ => 0))), (q5, .inl (cI, 60, .inl (fun _ => 0))), (q6, .inl (cI, 60, .inl (fun _ => 0))), (q7, .inl (cI, 61, .inl (fun _ => 0))), (q8, .inl (cI, 60, .inl (fun _ => 0))), (q9, .inl (cI, 60, .inl (fun _ => 0))), (q10, .inl (cI, 6000, .inl (fun _ => 0))), (q11, .inl (cI, 6000, .inl (fun _ => 0))), (q12, .inl (cI, 6000, .inl (fun _ => 0))), (q13, .inl (cI, 6000, .inl (fun _ => 0))), (q14, .inl (cZ, 6000, .inl (fun _ => 0))), (q15, .inl (cI, 17000, .inl (fun _ => 0))), (q16, .inl (cI, 17001, .inl (fun _ => 0))), (q17, .inl (cI, 17000, .inl (fun _ => 0))), (q18, .inl (cI, 66000, .inl (fun _ => 0))), (q19, .inl (cI, 17000, .inl (fun _ => 0))), (q20, .inl (cI, 66000, .inl (fun _ => 0))), (q21, .inl (cI, 66000, .inl (fun _ => 0))), (q22, .inl (cI, 66000, .inl (fun _ => 0))), (q23, .inl (cI, 66000, .inl (fun _ => 0))), (q24, .inl (cI, 66000, .inl (fun _ => 0))), (q25, .inl (cI, 66000, .inl (fun _ => 0))), (q26, .inl (cI, 66000, .inl (fun _ => 0))), (q27, .inl (cI, 66000, .inl (fun _ => 0))), (q28, .inl (cZ, 66000, .inl (fun _ => 0))), (q29, .inl (cI, 66000, .inl (fun _ => 0))), (q30, .inl (cI, 66000, .inl (fun _ => 0))), (q31, .inl (cI, 66000, .inl (fun _ => 0))), (q32, .inl (cI, 6000, .inl (fun _ => 0))), (q33, .inl (cI, 6000, .inl (fun _ => 0)))] := hD
  refine W.widen (k := 33) (n := 1034019) (Nat.le_of_ble_eq_true rfl) (Nat.le_of_ble_eq_true rfl) ?_
  refine va_putF (D := D) (ci := 12) (v := .ref q33) (ty := .array .int) (C := R_M) (T := T_M) (N := 84) hx hb hG gi_M ty_M to_M nm_M hown hK hP hD hS 0 rfl rfl 47 (by decide) (hG _ fl_M_157) (fun _ h9 => h9) rfl hin rfl (by decide +kernel) rfl rfl (Nat.le_of_ble_eq_true rfl) d_M_init_351 (fun H locs hP hD hS => ?_)
  refine lv_aload_n hx hb d_M_init_354 rfl (lv_at hl 0 rfl) ?_
  refine lv_bipush (v := 60) hx hb d_M_init_355 (by decide) ?_
  refine ra_new (atype := .int) (D := D) hx hb (hG _ ac_int) rfl (fun _ h => by cases h) hK hP hD hS hA 0 rfl (60, .inl (fun _ => 0)) (fun _ => rfl) (by decide +kernel) (by decide +kernel) (Nat.le_of_ble_eq_true rfl) (Nat.le_of_ble_eq_true rfl) (Nat.le_of_ble_eq_true rfl) d_M_init_357 (fun q34 H hP hD hS => ?_)
  refine W.widen (k := 34) (n := 1034079) (Nat.le_of_ble_eq_true rfl) (Nat.le_of_ble_eq_true rfl) ?_
  refine va_putF (D := D) (ci := 12) (v := .ref q34) (ty := .array .int) (C := R_M) (T := T_M) (N := 84) hx hb hG gi_M ty_M to_M nm_M hown hK hP hD hS 0 rfl rfl 48 (by decide) (hG _ fl_M_160) (fun _ h9 => h9) rfl hin rfl (by decide +kernel) rfl rfl (Nat.le_of_ble_eq_true rfl) d_M_init_359 (fun H locs hP hD hS => ?_)
  refine lv_aload_n hx hb d_M_init_362 rfl (lv_at hl 0 rfl) ?_
  refine lv_iconst (v := (-1)) hx hb d_M_init_363 (by decide) ?_
  refine va_put (D := D) (ci := 12) (v := .int (-1)) (ty := .int) (C := R_M) (T := T_M) (N := 84) hx hb hG gi_M ty_M to_M nm_M hown hK hP hD hS 0 rfl rfl 49 (by decide) (hG _ fl_M_163) (fun _ h9 => h9) rfl (by decide +kernel) rfl rfl (Nat.le_of_ble_eq_true rfl) d_M_init_364 (fun H locs hP hD hS => ?_)
  refine lv_aload_n hx hb d_M_init_367 rfl (lv_at hl 0 rfl) ?_
  refine lv_iconst (v := 0) hx hb d_M_init_368 (by decide) ?_
  refine va_put (D := D) (ci := 12) (v := .int 0) (ty := .int) (C := R_M) (T := T_M) (N := 84) hx hb hG gi_M ty_M to_M nm_M hown hK hP hD hS 0 rfl rfl 50 (by decide) (hG _ fl_M_166) (fun _ h9 => h9) rfl (by decide +kernel) rfl rfl (Nat.le_of_ble_eq_true rfl) d_M_init_369 (fun H locs hP hD hS => ?_)
  refine lv_aload_n hx hb d_M_init_372 rfl (lv_at hl 0 rfl) ?_
  refine lv_iconst (v := 0) hx hb d_M_init_373 (by decide) ?_
  refine va_put (D := D) (ci := 12) (v := .int 0) (ty := .int) (C := R_M) (T := T_M) (N := 84) hx hb hG gi_M ty_M to_M nm_M hown hK hP hD hS 0 rfl rfl 51 (by decide) (hG _ fl_M_169) (fun _ h9 => h9) rfl (by decide +kernel) rfl rfl (Nat.le_of_ble_eq_true rfl) d_M_init_374 (fun H locs hP hD hS => ?_)
  refine lv_aload_n hx hb d_M_init_377 rfl (lv_at hl 0 rfl) ?_
  refine lv_iconst (v := 0) hx hb d_M_init_378 (by decide) ?_
  refine va_put (D := D) (ci := 12) (v := .int 0) (ty := .int) (C := R_M) (T := T_M) (N := 84) hx hb hG gi_M ty_M to_M nm_M hown hK hP hD hS 0 rfl rfl 52 (by decide) (hG _ fl_M_172) (fun _ h9 => h9) rfl (by decide +kernel) rfl rfl (Nat.le_of_ble_eq_true rfl) d_M_init_379 (fun H locs hP hD hS => ?_)
  refine lv_aload_n hx hb d_M_init_382 rfl (lv_at hl 0 rfl) ?_
  refine lv_iconst (v := 0) hx hb d_M_init_383 (by decide) ?_
  refine va_put (D := D) (ci := 12) (v := .int 0) (ty := .int) (C := R_M) (T := T_M) (N := 84) hx hb hG gi_M ty_M to_M nm_M hown hK hP hD hS 0 rfl rfl 53 (by decide) (hG _ fl_M_175) (fun _ h9 => h9) rfl (by decide +kernel) rfl rfl (Nat.le_of_ble_eq_true rfl) d_M_init_384 (fun H locs hP hD hS => ?_)
  refine lv_aload_n hx hb d_M_init_387 rfl (lv_at hl 0 rfl) ?_
  refine lv_iconst (v := 0) hx hb d_M_init_388 (by decide) ?_
  refine va_put (D := D) (ci := 12) (v := .int 0) (ty := .int) (C := R_M) (T := T_M) (N := 84) hx hb hG gi_M ty_M to_M nm_M hown hK hP hD hS 0 rfl rfl 54 (by decide) (hG _ fl_M_178) (fun _ h9 => h9) rfl (by decide +kernel) rfl rfl (Nat.le_of_ble_eq_true rfl) d_M_init_389 (fun H locs hP hD hS => ?_)
  refine lv_aload_n hx hb d_M_init_392 rfl (lv_at hl 0 rfl) ?_
  refine lv_iconst (v := 0) hx hb d_M_init_393 (by decide) ?_
  refine va_put (D := D) (ci := 12) (v := .int 0) (ty := .int) (C := R_M) (T := T_M) (N := 84) hx hb hG gi_M ty_M to_M nm_M hown hK hP hD hS 0 rfl rfl 55 (by decide) (hG _ fl_M_181) (fun _ h9 => h9) rfl (by decide +kernel) rfl rfl (Nat.le_of_ble_eq_true rfl) d_M_init_394 (fun H locs hP hD hS => ?_)
  refine lv_aload_n hx hb d_M_init_397 rfl (lv_at hl 0 rfl) ?_
  refine lv_sipush (v := 3200) hx hb d_M_init_398 (by decide) ?_
  refine ra_new (atype := .int) (D := D) hx hb (hG _ ac_int) rfl (fun _ h => by cases h) hK hP hD hS hA 0 rfl (3200, .inl (fun _ => 0)) (fun _ => rfl) (by decide +kernel) (by decide +kernel) (Nat.le_of_ble_eq_true rfl) (Nat.le_of_ble_eq_true rfl) (Nat.le_of_ble_eq_true rfl) d_M_init_401 (fun q35 H hP hD hS => ?_)
  refine W.widen (k := 35) (n := 1037279) (Nat.le_of_ble_eq_true rfl) (Nat.le_of_ble_eq_true rfl) ?_
  refine va_putF (D := D) (ci := 12) (v := .ref q35) (ty := .array .int) (C := R_M) (T := T_M) (N := 84) hx hb hG gi_M ty_M to_M nm_M hown hK hP hD hS 0 rfl rfl 56 (by decide) (hG _ fl_M_184) (fun _ h9 => h9) rfl hin rfl (by decide +kernel) rfl rfl (Nat.le_of_ble_eq_true rfl) d_M_init_403 (fun H locs hP hD hS => ?_)
  refine lv_aload_n hx hb d_M_init_406 rfl (lv_at hl 0 rfl) ?_
  refine lv_sipush (v := 3200) hx hb d_M_init_407 (by decide) ?_
  refine ra_new (atype := .int) (D := D) hx hb (hG _ ac_int) rfl (fun _ h => by cases h) hK hP hD hS hA 0 rfl (3200, .inl (fun _ => 0)) (fun _ => rfl) (by decide +kernel) (by decide +kernel) (Nat.le_of_ble_eq_true rfl) (Nat.le_of_ble_eq_true rfl) (Nat.le_of_ble_eq_true rfl) d_M_init_410 (fun q36 H hP hD hS => ?_)
  refine W.widen (k := 36) (n := 1040479) (Nat.le_of_ble_eq_true rfl) (Nat.le_of_ble_eq_true rfl) ?_
  refine va_putF (D := D) (ci := 12) (v := .ref q36) (ty := .array .int) (C := R_M) (T := T_M) (N := 84) hx hb hG gi_M ty_M to_M nm_M hown hK hP hD hS 0 rfl rfl 57 (by decide) (hG _ fl_M_187) (fun _ h9 => h9) rfl hin rfl (by decide +kernel) rfl rfl (Nat.le_of_ble_eq_true rfl) d_M_init_412 (fun H locs hP hD hS => ?_)
  refine lv_aload_n hx hb d_M_init_415 rfl (lv_at hl 0 rfl) ?_
  refine lv_sipush (v := 3200) hx hb d_M_init_416 (by decide) ?_
  refine ra_new (atype := .int) (D := D) hx hb (hG _ ac_int) rfl (fun _ h => by cases h) hK hP hD hS hA 0 rfl (3200, .inl (fun _ => 0)) (fun _ => rfl) (by decide +kernel) (by decide +kernel) (Nat.le_of_ble_eq_true rfl) (Nat.le_of_ble_eq_true rfl) (Nat.le_of_ble_eq_true rfl) d_M_init_419 (fun q37 H hP hD hS => ?_)
  refine W.widen (k := 37) (n := 1043679) (Nat.le_of_ble_eq_true rfl) (Nat.le_of_ble_eq_true rfl) ?_
  refine va_putF (D := D) (ci := 12) (v := .ref q37) (ty := .array .int) (C := R_M) (T := T_M) (N := 84) hx hb hG gi_M ty_M to_M nm_M hown hK hP hD hS 0 rfl rfl 58 (by decide) (hG _ fl_M_190) (fun _ h9 => h9) rfl hin rfl (by decide +kernel) rfl rfl (Nat.le_of_ble_eq_true rfl) d_M_init_421 (fun H locs hP hD hS => ?_)
  have hP : va_P D kl [(h0, .inr (12, [.ref q1, .int 0, .int 0, .int 0, .int 0, .int 0, .int 0, .int 0, .int 0, .int 0, .ref q2, .ref q3, .ref q4, .ref q5, .ref q6, .ref q7, .ref q8, .ref q9, .int 0, .int 0, .ref q10, .ref q11, .ref q12, .ref q13, .ref q14, .ref q15, .ref q16, .ref q17, .ref q18, .ref q19, .int 0, .int 0, .ref q20, .ref q21, .ref q22, .ref q23, .ref q24, .ref q25, .ref q26, .ref q27, .int 0, .ref q28, .int 0, .ref q29, .ref q30, .ref q31, .ref q32, .ref q33, .ref q34, .int (-1), .int 0, .int 0, .int 0, .int 0, .int 0, .int 0, .ref q35, .ref q36, .ref q37, .null, .null, .null, .null, .null, .null, .null, .null, .int 0, .null, .null, .null, .null, .int 0, .null, .null, .null, .null, .null, .null, .null, .null, .null, .int 0, .int 0])), (q1, .inl (cB, 65536, .inl (fun _ => 0))), (q2, .inl (cI, 60, .inl (fun _ => 0))), (q3, .inl (cI, 60, .inl (fun _ => 0))), (q4, .inl (cI, 61, .inl (fun _ => 0))), (q5, .inl (cI, 60, .inl (fun _ => 0))), (q6, .inl (cI, 60, .inl (fun _ => 0))), (q7, .inl (cI, 61, .inl (fun _ => 0))), (q8, .inl (cI, 60, .inl (fun _ => 0))), (q9, .inl (cI, 60, .inl (fun _ => 0))), (q10, .inl (cI, 6000, .inl (fun _ => 0))), (q11, .inl (cI, 6000, .inl (fun _ => 0))), (q12, .inl (cI, 6000, .inl (fun _ => 0))), (q13, .inl (cI, 6000, .inl (fun _ => 0))), (q14, .inl (cZ, 6000, .inl (fun _ => 0))), (q15, .inl (cI, 17000, .inl (fun _ => 0))), (q16, .inl (cI, 17001, .inl (fun _ => 0))), (q17, .inl (cI, 17000, .inl (fun _ => 0))), (q18, .inl (cI, 66000, .inl (fun _ => 0))), (q19, .inl (cI, 17000, .inl (fun _ => 0))), (q20, .inl (cI, 66000, .inl (fun _ => 0))), (q21, .inl (cI, 66000, .inl (fun _ => 0))), (q22, .inl (cI, 66000, .inl (fun _ => 0))), (q23, .inl (cI, 66000, .inl (fun _ => 0))), (q24, .inl (cI, 66000, .inl (fun _ => 0))), (q25, .inl (cI, 66000, .inl (fun _ => 0))), (q26, .inl (cI, 66000, .inl (fun _ => 0))), (q27, .inl (cI, 66000, .inl (fun _ => 0))), (q28, .inl (cZ, 66000, .inl (fun _ => 0))), (q29, .inl (cI, 66000, .inl (fun _ => 0))), (q30, .inl (cI, 66000, .inl (fun _ => 0))), (q31, .inl (cI, 66000, .inl (fun _ => 0))), (q32, .inl (cI, 6000, .inl (fun _ => 0))), (q33, .inl (cI, 6000, .inl (fun _ => 0))), (q34, .inl (cI, 60, .inl (fun _ => 0))), (q35, .inl (cI, 3200, .inl (fun _ => 0))), (q36, .inl (cI, 3200, .inl (fun _ => 0))), (q37, .inl (cI, 3200, .inl (fun _ => 0)))] H := hP
  have hD : va_D A [(h0, .inr (12, [.ref q1, .int 0, .int 0, .int 0, .int 0, .int 0, .int 0, .int 0, .int 0, .int 0, .ref q2, .ref q3, .ref q4, .ref q5, .ref q6, .ref q7, .ref q8, .ref q9, .int 0, .int 0, .ref q10, .ref q11, .ref q12, .ref q13, .ref q14, .ref q15, .ref q16, .ref q17, .ref q18, .ref q19, .int 0, .int 0, .ref q20, .ref q21, .ref q22, .ref q23, .ref q24, .ref q25, .ref q26, .ref q27, .int 0, .ref q28, .int 0, .ref q29, .ref q30, .ref q31, .ref q32, .ref q33, .ref q34, .int (-1), .int 0, .int 0, .int 0, .int 0, .int 0, .int 0, .ref q35, .ref q36, .ref q37, .null, .null, .null, .null, .null, .null, .null, .null, .int 0, .null, .null, .null, .null, .int 0, .null, .null, .null, .null, .null, .null, .null, .null, .null, .int 0, .int 0])), (q1, .inl (cB, 65536, .inl (fun _ => 0))), (q2, .inl (cI, 60, .inl (fun _ => 0))), (q3, .inl (cI, 60, .inl (fun _ => 0))), (q4, .inl (cI, 61, .inl (fun _ => 0))), (q5, .inl (cI, 60, .inl (fun _ => 0))), (q6, .inl (cI, 60, .inl (fun _ => 0))), (q7, .inl (cI, 61, .inl (fun _ => 0))), (q8, .inl (cI, 60, .inl (fun _ => 0))), (q9, .inl (cI, 60, .inl (fun _ => 0))), (q10, .inl (cI, 6000, .inl (fun _ => 0))), (q11, .inl (cI, 6000, .inl (fun _ => 0))), (q12, .inl (cI, 6000, .inl (fun _ => 0))), (q13, .inl (cI, 6000, .inl (fun _ => 0))), (q14, .inl (cZ, 6000, .inl (fun _ => 0))), (q15, .inl (cI, 17000, .inl (fun _ => 0))), (q16, .inl (cI, 17001, .inl (fun _ => 0))), (q17, .inl (cI, 17000, .inl (fun _ => 0))), (q18, .inl (cI, 66000, .inl (fun _ => 0))), (q19, .inl (cI, 17000, .inl (fun _ => 0))), (q20, .inl (cI, 66000, .inl (fun _ => 0))), (q21, .inl (cI, 66000, .inl (fun _ => 0))), (q22, .inl (cI, 66000, .inl (fun _ => 0))), (q23, .inl (cI, 66000, .inl (fun _ => 0))), (q24, .inl (cI, 66000, .inl (fun _ => 0))), (q25, .inl (cI, 66000, .inl (fun _ => 0))), (q26, .inl (cI, 66000, .inl (fun _ => 0))), (q27, .inl (cI, 66000, .inl (fun _ => 0))), (q28, .inl (cZ, 66000, .inl (fun _ => 0))), (q29, .inl (cI, 66000, .inl (fun _ => 0))), (q30, .inl (cI, 66000, .inl (fun _ => 0))), (q31, .inl (cI, 66000, .inl (fun _ => 0))), (q32, .inl (cI, 6000, .inl (fun _ => 0))), (q33, .inl (cI, 6000, .inl (fun _ => 0))), (q34, .inl (cI, 60, .inl (fun _ => 0))), (q35, .inl (cI, 3200, .inl (fun _ => 0))), (q36, .inl (cI, 3200, .inl (fun _ => 0))), (q37, .inl (cI, 3200, .inl (fun _ => 0)))] := hD
  refine lv_aload_n hx hb d_M_init_424 rfl (lv_at hl 0 rfl) ?_
  refine lv_sipush (v := 3200) hx hb d_M_init_425 (by decide) ?_
  refine ra_new (atype := .int) (D := D) hx hb (hG _ ac_int) rfl (fun _ h => by cases h) hK hP hD hS hA 0 rfl (3200, .inl (fun _ => 0)) (fun _ => rfl) (by decide +kernel) (by decide +kernel) (Nat.le_of_ble_eq_true rfl) (Nat.le_of_ble_eq_true rfl) (Nat.le_of_ble_eq_true rfl) d_M_init_428 (fun q38 H hP hD hS => ?_)
  refine W.widen (k := 38) (n := 1046879) (Nat.le_of_ble_eq_true rfl) (Nat.le_of_ble_eq_true rfl) ?_
  refine va_putF (D := D) (ci := 12) (v := .ref q38) (ty := .array .int) (C := R_M) (T := T_M) (N := 84) hx hb hG gi_M ty_M to_M nm_M hown hK hP hD hS 0 rfl rfl 59 (by decide) (hG _ fl_M_193) (fun _ h9 => h9) rfl hin rfl (by decide +kernel) rfl rfl (Nat.le_of_ble_eq_true rfl) d_M_init_430 (fun H locs hP hD hS => ?_)
  refine lv_aload_n hx hb d_M_init_433 rfl (lv_at hl 0 rfl) ?_
  refine lv_sipush (v := 3200) hx hb d_M_init_434 (by decide) ?_
  refine ra_new (atype := .int) (D := D) hx hb (hG _ ac_int) rfl (fun _ h => by cases h) hK hP hD hS hA 0 rfl (3200, .inl (fun _ => 0)) (fun _ => rfl) (by decide +kernel) (by decide +kernel) (Nat.le_of_ble_eq_true rfl) (Nat.le_of_ble_eq_true rfl) (Nat.le_of_ble_eq_true rfl) d_M_init_437 (fun q39 H hP hD hS => ?_)
  refine W.widen (k := 39) (n := 1050079) (Nat.le_of_ble_eq_true rfl) (Nat.le_of_ble_eq_true rfl) ?_
  refine va_putF (D := D) (ci := 12) (v := .ref q39) (ty := .array .int) (C := R_M) (T := T_M) (N := 84) hx hb hG gi_M ty_M to_M nm_M hown hK hP hD hS 0 rfl rfl 60 (by decide) (hG _ fl_M_196) (fun _ h9 => h9) rfl hin rfl (by decide +kernel) rfl rfl (Nat.le_of_ble_eq_true rfl) d_M_init_439 (fun H locs hP hD hS => ?_)
  refine lv_aload_n hx hb d_M_init_442 rfl (lv_at hl 0 rfl) ?_
  refine lv_sipush (v := 3200) hx hb d_M_init_443 (by decide) ?_
  refine ra_new (atype := .int) (D := D) hx hb (hG _ ac_int) rfl (fun _ h => by cases h) hK hP hD hS hA 0 rfl (3200, .inl (fun _ => 0)) (fun _ => rfl) (by decide +kernel) (by decide +kernel) (Nat.le_of_ble_eq_true rfl) (Nat.le_of_ble_eq_true rfl) (Nat.le_of_ble_eq_true rfl) d_M_init_446 (fun q40 H hP hD hS => ?_)
  refine W.widen (k := 40) (n := 1053279) (Nat.le_of_ble_eq_true rfl) (Nat.le_of_ble_eq_true rfl) ?_
  refine va_putF (D := D) (ci := 12) (v := .ref q40) (ty := .array .int) (C := R_M) (T := T_M) (N := 84) hx hb hG gi_M ty_M to_M nm_M hown hK hP hD hS 0 rfl rfl 61 (by decide) (hG _ fl_M_199) (fun _ h9 => h9) rfl hin rfl (by decide +kernel) rfl rfl (Nat.le_of_ble_eq_true rfl) d_M_init_448 (fun H locs hP hD hS => ?_)
  refine lv_aload_n hx hb d_M_init_451 rfl (lv_at hl 0 rfl) ?_
  refine lv_sipush (v := 3200) hx hb d_M_init_452 (by decide) ?_
  refine ra_new (atype := .int) (D := D) hx hb (hG _ ac_int) rfl (fun _ h => by cases h) hK hP hD hS hA 0 rfl (3200, .inl (fun _ => 0)) (fun _ => rfl) (by decide +kernel) (by decide +kernel) (Nat.le_of_ble_eq_true rfl) (Nat.le_of_ble_eq_true rfl) (Nat.le_of_ble_eq_true rfl) d_M_init_455 (fun q41 H hP hD hS => ?_)
  refine W.widen (k := 41) (n := 1056479) (Nat.le_of_ble_eq_true rfl) (Nat.le_of_ble_eq_true rfl) ?_
  refine va_putF (D := D) (ci := 12) (v := .ref q41) (ty := .array .int) (C := R_M) (T := T_M) (N := 84) hx hb hG gi_M ty_M to_M nm_M hown hK hP hD hS 0 rfl rfl 62 (by decide) (hG _ fl_M_202) (fun _ h9 => h9) rfl hin rfl (by decide +kernel) rfl rfl (Nat.le_of_ble_eq_true rfl) d_M_init_457 (fun H locs hP hD hS => ?_)
  refine lv_aload_n hx hb d_M_init_460 rfl (lv_at hl 0 rfl) ?_
  refine lv_sipush (v := 6100) hx hb d_M_init_461 (by decide) ?_
  refine ra_new (atype := .int) (D := D) hx hb (hG _ ac_int) rfl (fun _ h => by cases h) hK hP hD hS hA 0 rfl (6100, .inl (fun _ => 0)) (fun _ => rfl) (by decide +kernel) (by decide +kernel) (Nat.le_of_ble_eq_true rfl) (Nat.le_of_ble_eq_true rfl) (Nat.le_of_ble_eq_true rfl) d_M_init_464 (fun q42 H hP hD hS => ?_)
  refine W.widen (k := 42) (n := 1062579) (Nat.le_of_ble_eq_true rfl) (Nat.le_of_ble_eq_true rfl) ?_
  refine va_putF (D := D) (ci := 12) (v := .ref q42) (ty := .array .int) (C := R_M) (T := T_M) (N := 84) hx hb hG gi_M ty_M to_M nm_M hown hK hP hD hS 0 rfl rfl 63 (by decide) (hG _ fl_M_205) (fun _ h9 => h9) rfl hin rfl (by decide +kernel) rfl rfl (Nat.le_of_ble_eq_true rfl) d_M_init_466 (fun H locs hP hD hS => ?_)
  refine lv_aload_n hx hb d_M_init_469 rfl (lv_at hl 0 rfl) ?_
  refine lv_sipush (v := 6100) hx hb d_M_init_470 (by decide) ?_
  refine ra_new (atype := .int) (D := D) hx hb (hG _ ac_int) rfl (fun _ h => by cases h) hK hP hD hS hA 0 rfl (6100, .inl (fun _ => 0)) (fun _ => rfl) (by decide +kernel) (by decide +kernel) (Nat.le_of_ble_eq_true rfl) (Nat.le_of_ble_eq_true rfl) (Nat.le_of_ble_eq_true rfl) d_M_init_473 (fun q43 H hP hD hS => ?_)
  refine W.widen (k := 43) (n := 1068679) (Nat.le_of_ble_eq_true rfl) (Nat.le_of_ble_eq_true rfl) ?_
  refine va_putF (D := D) (ci := 12) (v := .ref q43) (ty := .array .int) (C := R_M) (T := T_M) (N := 84) hx hb hG gi_M ty_M to_M nm_M hown hK hP hD hS 0 rfl rfl 64 (by decide) (hG _ fl_M_208) (fun _ h9 => h9) rfl hin rfl (by decide +kernel) rfl rfl (Nat.le_of_ble_eq_true rfl) d_M_init_475 (fun H locs hP hD hS => ?_)
  refine lv_aload_n hx hb d_M_init_478 rfl (lv_at hl 0 rfl) ?_
  refine lv_sipush (v := 6101) hx hb d_M_init_479 (by decide) ?_
  refine ra_new (atype := .int) (D := D) hx hb (hG _ ac_int) rfl (fun _ h => by cases h) hK hP hD hS hA 0 rfl (6101, .inl (fun _ => 0)) (fun _ => rfl) (by decide +kernel) (by decide +kernel) (Nat.le_of_ble_eq_true rfl) (Nat.le_of_ble_eq_true rfl) (Nat.le_of_ble_eq_true rfl) d_M_init_482 (fun q44 H hP hD hS => ?_)
  refine W.widen (k := 44) (n := 1074780) (Nat.le_of_ble_eq_true rfl) (Nat.le_of_ble_eq_true rfl) ?_
  refine va_putF (D := D) (ci := 12) (v := .ref q44) (ty := .array .int) (C := R_M) (T := T_M) (N := 84) hx hb hG gi_M ty_M to_M nm_M hown hK hP hD hS 0 rfl rfl 65 (by decide) (hG _ fl_M_211) (fun _ h9 => h9) rfl hin rfl (by decide +kernel) rfl rfl (Nat.le_of_ble_eq_true rfl) d_M_init_484 (fun H locs hP hD hS => ?_)
  refine lv_aload_n hx hb d_M_init_487 rfl (lv_at hl 0 rfl) ?_
  refine lv_ldc (v := 60000) hx hb hown (hG _ ct_M_214) d_M_init_488 ?_
  refine ra_new (atype := .int) (D := D) hx hb (hG _ ac_int) rfl (fun _ h => by cases h) hK hP hD hS hA 0 rfl (60000, .inl (fun _ => 0)) (fun _ => rfl) (by decide +kernel) (by decide +kernel) (Nat.le_of_ble_eq_true rfl) (Nat.le_of_ble_eq_true rfl) (Nat.le_of_ble_eq_true rfl) d_M_init_490 (fun q45 H hP hD hS => ?_)
  refine W.widen (k := 45) (n := 1134780) (Nat.le_of_ble_eq_true rfl) (Nat.le_of_ble_eq_true rfl) ?_
  refine va_putF (D := D) (ci := 12) (v := .ref q45) (ty := .array .int) (C := R_M) (T := T_M) (N := 84) hx hb hG gi_M ty_M to_M nm_M hown hK hP hD hS 0 rfl rfl 66 (by decide) (hG _ fl_M_215) (fun _ h9 => h9) rfl hin rfl (by decide +kernel) rfl rfl (Nat.le_of_ble_eq_true rfl) d_M_init_492 (fun H locs hP hD hS => ?_)
  have hP : va_P D kl [(h0, .inr (12, [.ref q1, .int 0, .int 0, .int 0, .int 0, .int 0, .int 0, .int 0, .int 0, .int 0, .ref q2, .ref q3, .ref q4, .ref q5, .ref q6, .ref q7, .ref q8, .ref q9, .int 0, .int 0, .ref q10, .ref q11, .ref q12, .ref q13, .ref q14, .ref q15, .ref q16, .ref q17, .ref q18, .ref q19, .int 0, .int 0, .ref q20, .ref q21, .ref q22, .ref q23, .ref q24, .ref q25, .ref q26, .ref q27, .int 0, .ref q28, .int 0, .ref q29, .ref q30, .ref q31, .ref q32, .ref q33, .ref q34, .int (-1), .int 0, .int 0, .int 0, .int 0, .int 0, .int 0, .ref q35, .ref q36, .ref q37, .ref q38, .ref q39, .ref q40, .ref q41, .ref q42, .ref q43, .ref q44, .ref q45, .int 0, .null, .null, .null, .null, .int 0, .null, .null, .null, .null, .null, .null, .null, .null, .null, .int 0, .int 0])), (q1, .inl (cB, 65536, .inl (fun _ => 0))), (q2, .inl (cI, 60, .inl (fun _ => 0))), (q3, .inl (cI, 60, .inl (fun _ => 0))), (q4, .inl (cI, 61, .inl (fun _ => 0))), (q5, .inl (cI, 60, .inl (fun _ => 0))), (q6, .inl (cI, 60, .inl (fun _ => 0))), (q7, .inl (cI, 61, .inl (fun _ => 0))), (q8, .inl (cI, 60, .inl (fun _ => 0))), (q9, .inl (cI, 60, .inl (fun _ => 0))), (q10, .inl (cI, 6000, .inl (fun _ => 0))), (q11, .inl (cI, 6000, .inl (fun _ => 0))), (q12, .inl (cI, 6000, .inl (fun _ => 0))), (q13, .inl (cI, 6000, .inl (fun _ => 0))), (q14, .inl (cZ, 6000, .inl (fun _ => 0))), (q15, .inl (cI, 17000, .inl (fun _ => 0))), (q16, .inl (cI, 17001, .inl (fun _ => 0))), (q17, .inl (cI, 17000, .inl (fun _ => 0))), (q18, .inl (cI, 66000, .inl (fun _ => 0))), (q19, .inl (cI, 17000, .inl (fun _ => 0))), (q20, .inl (cI, 66000, .inl (fun _ => 0))), (q21, .inl (cI, 66000, .inl (fun _ => 0))), (q22, .inl (cI, 66000, .inl (fun _ => 0))), (q23, .inl (cI, 66000, .inl (fun _ => 0))), (q24, .inl (cI, 66000, .inl (fun _ => 0))), (q25, .inl (cI, 66000, .inl (fun _ => 0))), (q26, .inl (cI, 66000, .inl (fun _ => 0))), (q27, .inl (cI, 66000, .inl (fun _ => 0))), (q28, .inl (cZ, 66000, .inl (fun _ => 0))), (q29, .inl (cI, 66000, .inl (fun _ => 0))), (q30, .inl (cI, 66000, .inl (fun _ => 0))), (q31, .inl (cI, 66000, .inl (fun _ => 0))), (q32, .inl (cI, 6000, .inl (fun _ => 0))), (q33, .inl (cI, 6000, .inl (fun _ => 0))), (q34, .inl (cI, 60, .inl (fun _ => 0))), (q35, .inl (cI, 3200, .inl (fun _ => 0))), (q36, .inl (cI, 3200, .inl (fun _ => 0))), (q37, .inl (cI, 3200, .inl (fun _ => 0))), (q38, .inl (cI, 3200, .inl (fun _ => 0))), (q39, .inl (cI, 3200, .inl (fun _ => 0))), (q40, .inl (cI, 3200, .inl (fun _ => 0))), (q41, .inl (cI, 3200, .inl (fun _ => 0))), (q42, .inl (cI, 6100, .inl (fun _ => 0))), (q43, .inl (cI, 6100, .inl (fun _ => 0))), (q44, .inl (cI, 6101, .inl (fun _ => 0))), (q45, .inl (cI, 60000, .inl (fun _ => 0)))] H := hP
  have hD : va_D A [(h0, .inr (12, [.ref q1, .int 0, .int 0, .int 0, .int 0, .int 0, .int 0, .int 0, .int 0, .int 0, .ref q2, .ref q3, .ref q4, .ref q5, .ref q6, .ref q7, .ref q8, .ref q9, .int 0, .int 0, .ref q10, .ref q11, .ref q12, .ref q13, .ref q14, .ref q15, .ref q16, .ref q17, .ref q18, .ref q19, .int 0, .int 0, .ref q20, .ref q21, .ref q22, .ref q23, .ref q24, .ref q25, .ref q26, .ref q27, .int 0, .ref q28, .int 0, .ref q29, .ref q30, .ref q31, .ref q32, .ref q33, .ref q34, .int (-1), .int 0, .int 0, .int 0, .int 0, .int 0, .int 0, .ref q35, .ref q36, .ref q37, .ref q38, .ref q39, .ref q40, .ref q41, .ref q42, .ref q43, .ref q44, .ref q45, .int 0, .null, .null, .null, .null, .int 0, .null, .null, .null, .null, .null, .null, .null, .null, .null, .int 0, .int 0])), (q1, .inl (cB, 65536, .inl (fun _ => 0))), (q2, .inl (cI, 60, .inl (fun _ => 0))), (q3, .inl (cI, 60, .inl (fun _ => 0))), (q4, .inl (cI, 61, .inl (fun _ => 0))), (q5, .inl (cI, 60, .inl (fun _ => 0))), (q6, .inl (cI, 60, .inl (fun _ => 0))), (q7, .inl (cI, 61, .inl (fun _ => 0))), (q8, .inl (cI, 60, .inl (fun _ => 0))), (q9, .inl (cI, 60, .inl (fun _ => 0))), (q10, .inl (cI, 6000, .inl (fun _ => 0))), (q11, .inl (cI, 6000, .inl (fun _ => 0))), (q12, .inl (cI, 6000, .inl (fun _ => 0))), (q13, .inl (cI, 6000, .inl (fun _ => 0))), (q14, .inl (cZ, 6000, .inl (fun _ => 0))), (q15, .inl (cI, 17000, .inl (fun _ => 0))), (q16, .inl (cI, 17001, .inl (fun _ => 0))), (q17, .inl (cI, 17000, .inl (fun _ => 0))), (q18, .inl (cI, 66000, .inl (fun _ => 0))), (q19, .inl (cI, 17000, .inl (fun _ => 0))), (q20, .inl (cI, 66000, .inl (fun _ => 0))), (q21, .inl (cI, 66000, .inl (fun _ => 0))), (q22, .inl (cI, 66000, .inl (fun _ => 0))), (q23, .inl (cI, 66000, .inl (fun _ => 0))), (q24, .inl (cI, 66000, .inl (fun _ => 0))), (q25, .inl (cI, 66000, .inl (fun _ => 0))), (q26, .inl (cI, 66000, .inl (fun _ => 0))), (q27, .inl (cI, 66000, .inl (fun _ => 0))), (q28, .inl (cZ, 66000, .inl (fun _ => 0))), (q29, .inl (cI, 66000, .inl (fun _ => 0))), (q30, .inl (cI, 66000, .inl (fun _ => 0))), (q31, .inl (cI, 66000, .inl (fun _ => 0))), (q32, .inl (cI, 6000, .inl (fun _ => 0))), (q33, .inl (cI, 6000, .inl (fun _ => 0))), (q34, .inl (cI, 60, .inl (fun _ => 0))), (q35, .inl (cI, 3200, .inl (fun _ => 0))), (q36, .inl (cI, 3200, .inl (fun _ => 0))), (q37, .inl (cI, 3200, .inl (fun _ => 0))), (q38, .inl (cI, 3200, .inl (fun _ => 0))), (q39, .inl (cI, 3200, .inl (fun _ => 0))), (q40, .inl (cI, 3200, .inl (fun _ => 0))), (q41, .inl (cI, 3200, .inl (fun _ => 0))), (q42, .inl (cI, 6100, .inl (fun _ => 0))), (q43, .inl (cI, 6100, .inl (fun _ => 0))), (q44, .inl (cI, 6101, .inl (fun _ => 0))), (q45, .inl (cI, 60000, .inl (fun _ => 0)))] := hD
  refine lv_aload_n hx hb d_M_init_495 rfl (lv_at hl 0 rfl) ?_
  refine lv_iconst (v := 0) hx hb d_M_init_496 (by decide) ?_
  refine va_put (D := D) (ci := 12) (v := .int 0) (ty := .int) (C := R_M) (T := T_M) (N := 84) hx hb hG gi_M ty_M to_M nm_M hown hK hP hD hS 0 rfl rfl 67 (by decide) (hG _ fl_M_218) (fun _ h9 => h9) rfl (by decide +kernel) rfl rfl (Nat.le_of_ble_eq_true rfl) d_M_init_497 (fun H locs hP hD hS => ?_)
  refine lv_aload_n hx hb d_M_init_500 rfl (lv_at hl 0 rfl) ?_
  refine lv_sipush (v := 6100) hx hb d_M_init_501 (by decide) ?_
  refine ra_new (atype := .boolean) (D := D) hx hb (hG _ ac_boolean) rfl (fun _ h => by cases h) hK hP hD hS hA 3 rfl (6100, .inl (fun _ => 0)) (fun _ => rfl) (by decide +kernel) (by decide +kernel) (Nat.le_of_ble_eq_true rfl) (Nat.le_of_ble_eq_true rfl) (Nat.le_of_ble_eq_true rfl) d_M_init_504 (fun q46 H hP hD hS => ?_)
  refine W.widen (k := 46) (n := 1140880) (Nat.le_of_ble_eq_true rfl) (Nat.le_of_ble_eq_true rfl) ?_
  refine va_putF (D := D) (ci := 12) (v := .ref q46) (ty := .array .boolean) (C := R_M) (T := T_M) (N := 84) hx hb hG gi_M ty_M to_M nm_M hown hK hP hD hS 0 rfl rfl 68 (by decide) (hG _ fl_M_221) (fun _ h9 => h9) rfl hin rfl (by decide +kernel) rfl rfl (Nat.le_of_ble_eq_true rfl) d_M_init_506 (fun H locs hP hD hS => ?_)
  refine lv_aload_n hx hb d_M_init_509 rfl (lv_at hl 0 rfl) ?_
  refine lv_sipush (v := 6100) hx hb d_M_init_510 (by decide) ?_
  refine ra_new (atype := .int) (D := D) hx hb (hG _ ac_int) rfl (fun _ h => by cases h) hK hP hD hS hA 0 rfl (6100, .inl (fun _ => 0)) (fun _ => rfl) (by decide +kernel) (by decide +kernel) (Nat.le_of_ble_eq_true rfl) (Nat.le_of_ble_eq_true rfl) (Nat.le_of_ble_eq_true rfl) d_M_init_513 (fun q47 H hP hD hS => ?_)
  refine W.widen (k := 47) (n := 1146980) (Nat.le_of_ble_eq_true rfl) (Nat.le_of_ble_eq_true rfl) ?_
  refine va_putF (D := D) (ci := 12) (v := .ref q47) (ty := .array .int) (C := R_M) (T := T_M) (N := 84) hx hb hG gi_M ty_M to_M nm_M hown hK hP hD hS 0 rfl rfl 69 (by decide) (hG _ fl_M_224) (fun _ h9 => h9) rfl hin rfl (by decide +kernel) rfl rfl (Nat.le_of_ble_eq_true rfl) d_M_init_515 (fun H locs hP hD hS => ?_)
  refine lv_aload_n hx hb d_M_init_518 rfl (lv_at hl 0 rfl) ?_
  refine lv_sipush (v := 6100) hx hb d_M_init_519 (by decide) ?_
  refine ra_new (atype := .int) (D := D) hx hb (hG _ ac_int) rfl (fun _ h => by cases h) hK hP hD hS hA 0 rfl (6100, .inl (fun _ => 0)) (fun _ => rfl) (by decide +kernel) (by decide +kernel) (Nat.le_of_ble_eq_true rfl) (Nat.le_of_ble_eq_true rfl) (Nat.le_of_ble_eq_true rfl) d_M_init_522 (fun q48 H hP hD hS => ?_)
  refine W.widen (k := 48) (n := 1153080) (Nat.le_of_ble_eq_true rfl) (Nat.le_of_ble_eq_true rfl) ?_
  refine va_putF (D := D) (ci := 12) (v := .ref q48) (ty := .array .int) (C := R_M) (T := T_M) (N := 84) hx hb hG gi_M ty_M to_M nm_M hown hK hP hD hS 0 rfl rfl 70 (by decide) (hG _ fl_M_227) (fun _ h9 => h9) rfl hin rfl (by decide +kernel) rfl rfl (Nat.le_of_ble_eq_true rfl) d_M_init_524 (fun H locs hP hD hS => ?_)
  refine lv_aload_n hx hb d_M_init_527 rfl (lv_at hl 0 rfl) ?_
  refine lv_sipush (v := 6100) hx hb d_M_init_528 (by decide) ?_
  refine ra_new (atype := .boolean) (D := D) hx hb (hG _ ac_boolean) rfl (fun _ h => by cases h) hK hP hD hS hA 3 rfl (6100, .inl (fun _ => 0)) (fun _ => rfl) (by decide +kernel) (by decide +kernel) (Nat.le_of_ble_eq_true rfl) (Nat.le_of_ble_eq_true rfl) (Nat.le_of_ble_eq_true rfl) d_M_init_531 (fun q49 H hP hD hS => ?_)
  refine W.widen (k := 49) (n := 1159180) (Nat.le_of_ble_eq_true rfl) (Nat.le_of_ble_eq_true rfl) ?_
  refine va_putF (D := D) (ci := 12) (v := .ref q49) (ty := .array .boolean) (C := R_M) (T := T_M) (N := 84) hx hb hG gi_M ty_M to_M nm_M hown hK hP hD hS 0 rfl rfl 71 (by decide) (hG _ fl_M_230) (fun _ h9 => h9) rfl hin rfl (by decide +kernel) rfl rfl (Nat.le_of_ble_eq_true rfl) d_M_init_533 (fun H locs hP hD hS => ?_)
  refine lv_aload_n hx hb d_M_init_536 rfl (lv_at hl 0 rfl) ?_
  refine lv_iconst (v := 0) hx hb d_M_init_537 (by decide) ?_
  refine va_put (D := D) (ci := 12) (v := .int 0) (ty := .int) (C := R_M) (T := T_M) (N := 84) hx hb hG gi_M ty_M to_M nm_M hown hK hP hD hS 0 rfl rfl 72 (by decide) (hG _ fl_M_233) (fun _ h9 => h9) rfl (by decide +kernel) rfl rfl (Nat.le_of_ble_eq_true rfl) d_M_init_538 (fun H locs hP hD hS => ?_)
  refine lv_aload_n hx hb d_M_init_541 rfl (lv_at hl 0 rfl) ?_
  refine lv_bipush (v := 100) hx hb d_M_init_542 (by decide) ?_
  refine ra_new (atype := .int) (D := D) hx hb (hG _ ac_int) rfl (fun _ h => by cases h) hK hP hD hS hA 0 rfl (100, .inl (fun _ => 0)) (fun _ => rfl) (by decide +kernel) (by decide +kernel) (Nat.le_of_ble_eq_true rfl) (Nat.le_of_ble_eq_true rfl) (Nat.le_of_ble_eq_true rfl) d_M_init_544 (fun q50 H hP hD hS => ?_)
  refine W.widen (k := 50) (n := 1159280) (Nat.le_of_ble_eq_true rfl) (Nat.le_of_ble_eq_true rfl) ?_
  refine va_putF (D := D) (ci := 12) (v := .ref q50) (ty := .array .int) (C := R_M) (T := T_M) (N := 84) hx hb hG gi_M ty_M to_M nm_M hown hK hP hD hS 0 rfl rfl 73 (by decide) (hG _ fl_M_236) (fun _ h9 => h9) rfl hin rfl (by decide +kernel) rfl rfl (Nat.le_of_ble_eq_true rfl) d_M_init_546 (fun H locs hP hD hS => ?_)
  refine lv_aload_n hx hb d_M_init_549 rfl (lv_at hl 0 rfl) ?_
  refine lv_sipush (v := 6100) hx hb d_M_init_550 (by decide) ?_
  refine ra_new (atype := .int) (D := D) hx hb (hG _ ac_int) rfl (fun _ h => by cases h) hK hP hD hS hA 0 rfl (6100, .inl (fun _ => 0)) (fun _ => rfl) (by decide +kernel) (by decide +kernel) (Nat.le_of_ble_eq_true rfl) (Nat.le_of_ble_eq_true rfl) (Nat.le_of_ble_eq_true rfl) d_M_init_553 (fun q51 H hP hD hS => ?_)
  refine W.widen (k := 51) (n := 1165380) (Nat.le_of_ble_eq_true rfl) (Nat.le_of_ble_eq_true rfl) ?_
  refine va_putF (D := D) (ci := 12) (v := .ref q51) (ty := .array .int) (C := R_M) (T := T_M) (N := 84) hx hb hG gi_M ty_M to_M nm_M hown hK hP hD hS 0 rfl rfl 74 (by decide) (hG _ fl_M_239) (fun _ h9 => h9) rfl hin rfl (by decide +kernel) rfl rfl (Nat.le_of_ble_eq_true rfl) d_M_init_555 (fun H locs hP hD hS => ?_)
  refine lv_aload_n hx hb d_M_init_558 rfl (lv_at hl 0 rfl) ?_
  refine lv_sipush (v := 6600) hx hb d_M_init_559 (by decide) ?_
  refine ra_new (atype := .int) (D := D) hx hb (hG _ ac_int) rfl (fun _ h => by cases h) hK hP hD hS hA 0 rfl (6600, .inl (fun _ => 0)) (fun _ => rfl) (by decide +kernel) (by decide +kernel) (Nat.le_of_ble_eq_true rfl) (Nat.le_of_ble_eq_true rfl) (Nat.le_of_ble_eq_true rfl) d_M_init_562 (fun q52 H hP hD hS => ?_)
  refine W.widen (k := 52) (n := 1171980) (Nat.le_of_ble_eq_true rfl) (Nat.le_of_ble_eq_true rfl) ?_
  refine va_putF (D := D) (ci := 12) (v := .ref q52) (ty := .array .int) (C := R_M) (T := T_M) (N := 84) hx hb hG gi_M ty_M to_M nm_M hown hK hP hD hS 0 rfl rfl 75 (by decide) (hG _ fl_M_242) (fun _ h9 => h9) rfl hin rfl (by decide +kernel) rfl rfl (Nat.le_of_ble_eq_true rfl) d_M_init_564 (fun H locs hP hD hS => ?_)
  have hP : va_P D kl [(h0, .inr (12, [.ref q1, .int 0, .int 0, .int 0, .int 0, .int 0, .int 0, .int 0, .int 0, .int 0, .ref q2, .ref q3, .ref q4, .ref q5, .ref q6, .ref q7, .ref q8, .ref q9, .int 0, .int 0, .ref q10, .ref q11, .ref q12, .ref q13, .ref q14, .ref q15, .ref q16, .ref q17, .ref q18, .ref q19, .int 0, .int 0, .ref q20, .ref q21, .ref q22, .ref q23, .ref q24, .ref q25, .ref q26, .ref q27, .int 0, .ref q28, .int 0, .ref q29, .ref q30, .ref q31, .ref q32, .ref q33, .ref q34, .int (-1), .int 0, .int 0, .int 0, .int 0, .int 0, .int 0, .ref q35, .ref q36, .ref q37, .ref q38, .ref q39, .ref q40, .ref q41, .ref q42, .ref q43, .ref q44, .ref q45, .int 0, .ref q46, .ref q47, .ref q48, .ref q49, .int 0, .ref q50, .ref q51, .ref q52, .null, .null, .null, .null, .null, .null, .int 0, .int 0])), (q1, .inl (cB, 65536, .inl (fun _ => 0))), (q2, .inl (cI, 60, .inl (fun _ => 0))), (q3, .inl (cI, 60, .inl (fun _ => 0))), (q4, .inl (cI, 61, .inl (fun _ => 0))), (q5, .inl (cI, 60, .inl (fun _ => 0))), (q6, .inl (cI, 60, .inl (fun _ => 0))), (q7, .inl (cI, 61, .inl (fun _ => 0))), (q8, .inl (cI, 60, .inl (fun _ => 0))), (q9, .inl (cI, 60, .inl (fun _ => 0))), (q10, .inl (cI, 6000, .inl (fun _ => 0))), (q11, .inl (cI, 6000, .inl (fun _ => 0))), (q12, .inl (cI, 6000, .inl (fun _ => 0))), (q13, .inl (cI, 6000, .inl (fun _ => 0))), (q14, .inl (cZ, 6000, .inl (fun _ => 0))), (q15, .inl (cI, 17000, .inl (fun _ => 0))), (q16, .inl (cI, 17001, .inl (fun _ => 0))), (q17, .inl (cI, 17000, .inl (fun _ => 0))), (q18, .inl (cI, 66000, .inl (fun _ => 0))), (q19, .inl (cI, 17000, .inl (fun _ => 0))), (q20, .inl (cI, 66000, .inl (fun _ => 0))), (q21, .inl (cI, 66000, .inl (fun _ => 0))), (q22, .inl (cI, 66000, .inl (fun _ => 0))), (q23, .inl (cI, 66000, .inl (fun _ => 0))), (q24, .inl (cI, 66000, .inl (fun _ => 0))), (q25, .inl (cI, 66000, .inl (fun _ => 0))), (q26, .inl (cI, 66000, .inl (fun _ => 0))), (q27, .inl (cI, 66000, .inl (fun _ => 0))), (q28, .inl (cZ, 66000, .inl (fun _ => 0))), (q29, .inl (cI, 66000, .inl (fun _ => 0))), (q30, .inl (cI, 66000, .inl (fun _ => 0))), (q31, .inl (cI, 66000, .inl (fun _ => 0))), (q32, .inl (cI, 6000, .inl (fun _ => 0))), (q33, .inl (cI, 6000, .inl (fun _ => 0))), (q34, .inl (cI, 60, .inl (fun _ => 0))), (q35, .inl (cI, 3200, .inl (fun _ => 0))), (q36, .inl (cI, 3200, .inl (fun _ => 0))), (q37, .inl (cI, 3200, .inl (fun _ => 0))), (q38, .inl (cI, 3200, .inl (fun _ => 0))), (q39, .inl (cI, 3200, .inl (fun _ => 0))), (q40, .inl (cI, 3200, .inl (fun _ => 0))), (q41, .inl (cI, 3200, .inl (fun _ => 0))), (q42, .inl (cI, 6100, .inl (fun _ => 0))), (q43, .inl (cI, 6100, .inl (fun _ => 0))), (q44, .inl (cI, 6101, .inl (fun _ => 0))), (q45, .inl (cI, 60000, .inl (fun _ => 0))), (q46, .inl (cZ, 6100, .inl (fun _ => 0))), (q47, .inl (cI, 6100, .inl (fun _ => 0))), (q48, .inl (cI, 6100, .inl (fun _ => 0))), (q49, .inl (cZ, 6100, .inl (fun _ => 0))), (q50, .inl (cI, 100, .inl (fun _ => 0))), (q51, .inl (cI, 6100, .inl (fun _ => 0))), (q52, .inl (cI, 6600, .inl (fun _ => 0)))] H := hP
  have hD : va_D A [(h0, .inr (12, [.ref q1, .int 0, .int 0, .int 0, .int 0, .int 0, .int 0, .int 0, .int 0, .int 0, .ref q2, .ref q3, .ref q4, .ref q5, .ref q6, .ref q7, .ref q8, .ref q9, .int 0, .int 0, .ref q10, .ref q11, .ref q12, .ref q13, .ref q14, .ref q15, .ref q16, .ref q17, .ref q18, .ref q19, .int 0, .int 0, .ref q20, .ref q21, .ref q22, .ref q23, .ref q24, .ref q25, .ref q26, .ref q27, .int 0, .ref q28, .int 0, .ref q29, .ref q30, .ref q31, .ref q32, .ref q33, .ref q34, .int (-1), .int 0, .int 0, .int 0, .int 0, .int 0, .int 0, .ref q35, .ref q36, .ref q37, .ref q38, .ref q39, .ref q40, .ref q41, .ref q42, .ref q43, .ref q44, .ref q45, .int 0, .ref q46, .ref q47, .ref q48, .ref q49, .int 0, .ref q50, .ref q51, .ref q52, .null, .null, .null, .null, .null, .null, .int 0, .int 0])), (q1, .inl (cB, 65536, .inl (fun _ => 0))), (q2, .inl (cI, 60, .inl (fun _ => 0))), (q3, .inl (cI, 60, .inl (fun _ => 0))), (q4, .inl (cI, 61, .inl (fun _ => 0))), (q5, .inl (cI, 60, .inl (fun _ => 0))), (q6, .inl (cI, 60, .inl (fun _ => 0))), (q7, .inl (cI, 61, .inl (fun _ => 0))), (q8, .inl (cI, 60, .inl (fun _ => 0))), (q9, .inl (cI, 60, .inl (fun _ => 0))), (q10, .inl (cI, 6000, .inl (fun _ => 0))), (q11, .inl (cI, 6000, .inl (fun _ => 0))), (q12, .inl (cI, 6000, .inl (fun _ => 0))), (q13, .inl (cI, 6000, .inl (fun _ => 0))), (q14, .inl (cZ, 6000, .inl (fun _ => 0))), (q15, .inl (cI, 17000, .inl (fun _ => 0))), (q16, .inl (cI, 17001, .inl (fun _ => 0))), (q17, .inl (cI, 17000, .inl (fun _ => 0))), (q18, .inl (cI, 66000, .inl (fun _ => 0))), (q19, .inl (cI, 17000, .inl (fun _ => 0))), (q20, .inl (cI, 66000, .inl (fun _ => 0))), (q21, .inl (cI, 66000, .inl (fun _ => 0))), (q22, .inl (cI, 66000, .inl (fun _ => 0))), (q23, .inl (cI, 66000, .inl (fun _ => 0))), (q24, .inl (cI, 66000, .inl (fun _ => 0))), (q25, .inl (cI, 66000, .inl (fun _ => 0))), (q26, .inl (cI, 66000, .inl (fun _ => 0))), (q27, .inl (cI, 66000, .inl (fun _ => 0))), (q28, .inl (cZ, 66000, .inl (fun _ => 0))), (q29, .inl (cI, 66000, .inl (fun _ => 0))), (q30, .inl (cI, 66000, .inl (fun _ => 0))), (q31, .inl (cI, 66000, .inl (fun _ => 0))), (q32, .inl (cI, 6000, .inl (fun _ => 0))), (q33, .inl (cI, 6000, .inl (fun _ => 0))), (q34, .inl (cI, 60, .inl (fun _ => 0))), (q35, .inl (cI, 3200, .inl (fun _ => 0))), (q36, .inl (cI, 3200, .inl (fun _ => 0))), (q37, .inl (cI, 3200, .inl (fun _ => 0))), (q38, .inl (cI, 3200, .inl (fun _ => 0))), (q39, .inl (cI, 3200, .inl (fun _ => 0))), (q40, .inl (cI, 3200, .inl (fun _ => 0))), (q41, .inl (cI, 3200, .inl (fun _ => 0))), (q42, .inl (cI, 6100, .inl (fun _ => 0))), (q43, .inl (cI, 6100, .inl (fun _ => 0))), (q44, .inl (cI, 6101, .inl (fun _ => 0))), (q45, .inl (cI, 60000, .inl (fun _ => 0))), (q46, .inl (cZ, 6100, .inl (fun _ => 0))), (q47, .inl (cI, 6100, .inl (fun _ => 0))), (q48, .inl (cI, 6100, .inl (fun _ => 0))), (q49, .inl (cZ, 6100, .inl (fun _ => 0))), (q50, .inl (cI, 100, .inl (fun _ => 0))), (q51, .inl (cI, 6100, .inl (fun _ => 0))), (q52, .inl (cI, 6600, .inl (fun _ => 0)))] := hD
  refine lv_aload_n hx hb d_M_init_567 rfl (lv_at hl 0 rfl) ?_
  refine lv_sipush (v := 6600) hx hb d_M_init_568 (by decide) ?_
  refine ra_new (atype := .int) (D := D) hx hb (hG _ ac_int) rfl (fun _ h => by cases h) hK hP hD hS hA 0 rfl (6600, .inl (fun _ => 0)) (fun _ => rfl) (by decide +kernel) (by decide +kernel) (Nat.le_of_ble_eq_true rfl) (Nat.le_of_ble_eq_true rfl) (Nat.le_of_ble_eq_true rfl) d_M_init_571 (fun q53 H hP hD hS => ?_)
  refine W.widen (k := 53) (n := 1178580) (Nat.le_of_ble_eq_true rfl) (Nat.le_of_ble_eq_true rfl) ?_
  refine va_putF (D := D) (ci := 12) (v := .ref q53) (ty := .array .int) (C := R_M) (T := T_M) (N := 84) hx hb hG gi_M ty_M to_M nm_M hown hK hP hD hS 0 rfl rfl 76 (by decide) (hG _ fl_M_245) (fun _ h9 => h9) rfl hin rfl (by decide +kernel) rfl rfl (Nat.le_of_ble_eq_true rfl) d_M_init_573 (fun H locs hP hD hS => ?_)
  refine lv_aload_n hx hb d_M_init_576 rfl (lv_at hl 0 rfl) ?_
  refine lv_ldc (v := 66000) hx hb hown (hG _ ct_M_99) d_M_init_577 ?_
  refine ra_new (atype := .int) (D := D) hx hb (hG _ ac_int) rfl (fun _ h => by cases h) hK hP hD hS hA 0 rfl (66000, .inl (fun _ => 0)) (fun _ => rfl) (by decide +kernel) (by decide +kernel) (Nat.le_of_ble_eq_true rfl) (Nat.le_of_ble_eq_true rfl) (Nat.le_of_ble_eq_true rfl) d_M_init_579 (fun q54 H hP hD hS => ?_)
  refine W.widen (k := 54) (n := 1244580) (Nat.le_of_ble_eq_true rfl) (Nat.le_of_ble_eq_true rfl) ?_
  refine va_putF (D := D) (ci := 12) (v := .ref q54) (ty := .array .int) (C := R_M) (T := T_M) (N := 84) hx hb hG gi_M ty_M to_M nm_M hown hK hP hD hS 0 rfl rfl 77 (by decide) (hG _ fl_M_248) (fun _ h9 => h9) rfl hin rfl (by decide +kernel) rfl rfl (Nat.le_of_ble_eq_true rfl) d_M_init_581 (fun H locs hP hD hS => ?_)
  refine lv_aload_n hx hb d_M_init_584 rfl (lv_at hl 0 rfl) ?_
  refine lv_sipush (v := 6100) hx hb d_M_init_585 (by decide) ?_
  refine ra_new (atype := .boolean) (D := D) hx hb (hG _ ac_boolean) rfl (fun _ h => by cases h) hK hP hD hS hA 3 rfl (6100, .inl (fun _ => 0)) (fun _ => rfl) (by decide +kernel) (by decide +kernel) (Nat.le_of_ble_eq_true rfl) (Nat.le_of_ble_eq_true rfl) (Nat.le_of_ble_eq_true rfl) d_M_init_588 (fun q55 H hP hD hS => ?_)
  refine W.widen (k := 55) (n := 1250680) (Nat.le_of_ble_eq_true rfl) (Nat.le_of_ble_eq_true rfl) ?_
  refine va_putF (D := D) (ci := 12) (v := .ref q55) (ty := .array .boolean) (C := R_M) (T := T_M) (N := 84) hx hb hG gi_M ty_M to_M nm_M hown hK hP hD hS 0 rfl rfl 78 (by decide) (hG _ fl_M_251) (fun _ h9 => h9) rfl hin rfl (by decide +kernel) rfl rfl (Nat.le_of_ble_eq_true rfl) d_M_init_590 (fun H locs hP hD hS => ?_)
  refine lv_aload_n hx hb d_M_init_593 rfl (lv_at hl 0 rfl) ?_
  refine lv_sipush (v := 6600) hx hb d_M_init_594 (by decide) ?_
  refine ra_new (atype := .int) (D := D) hx hb (hG _ ac_int) rfl (fun _ h => by cases h) hK hP hD hS hA 0 rfl (6600, .inl (fun _ => 0)) (fun _ => rfl) (by decide +kernel) (by decide +kernel) (Nat.le_of_ble_eq_true rfl) (Nat.le_of_ble_eq_true rfl) (Nat.le_of_ble_eq_true rfl) d_M_init_597 (fun q56 H hP hD hS => ?_)
  refine W.widen (k := 56) (n := 1257280) (Nat.le_of_ble_eq_true rfl) (Nat.le_of_ble_eq_true rfl) ?_
  refine va_putF (D := D) (ci := 12) (v := .ref q56) (ty := .array .int) (C := R_M) (T := T_M) (N := 84) hx hb hG gi_M ty_M to_M nm_M hown hK hP hD hS 0 rfl rfl 79 (by decide) (hG _ fl_M_254) (fun _ h9 => h9) rfl hin rfl (by decide +kernel) rfl rfl (Nat.le_of_ble_eq_true rfl) d_M_init_599 (fun H locs hP hD hS => ?_)
  refine lv_aload_n hx hb d_M_init_602 rfl (lv_at hl 0 rfl) ?_
  refine lv_sipush (v := 6100) hx hb d_M_init_603 (by decide) ?_
  refine ra_new (atype := .int) (D := D) hx hb (hG _ ac_int) rfl (fun _ h => by cases h) hK hP hD hS hA 0 rfl (6100, .inl (fun _ => 0)) (fun _ => rfl) (by decide +kernel) (by decide +kernel) (Nat.le_of_ble_eq_true rfl) (Nat.le_of_ble_eq_true rfl) (Nat.le_of_ble_eq_true rfl) d_M_init_606 (fun q57 H hP hD hS => ?_)
  refine W.widen (k := 57) (n := 1263380) (Nat.le_of_ble_eq_true rfl) (Nat.le_of_ble_eq_true rfl) ?_
  refine va_putF (D := D) (ci := 12) (v := .ref q57) (ty := .array .int) (C := R_M) (T := T_M) (N := 84) hx hb hG gi_M ty_M to_M nm_M hown hK hP hD hS 0 rfl rfl 80 (by decide) (hG _ fl_M_257) (fun _ h9 => h9) rfl hin rfl (by decide +kernel) rfl rfl (Nat.le_of_ble_eq_true rfl) d_M_init_608 (fun H locs hP hD hS => ?_)
  refine lv_aload_n hx hb d_M_init_611 rfl (lv_at hl 0 rfl) ?_
  refine lv_sipush (v := 6100) hx hb d_M_init_612 (by decide) ?_
  refine ra_new (atype := .boolean) (D := D) hx hb (hG _ ac_boolean) rfl (fun _ h => by cases h) hK hP hD hS hA 3 rfl (6100, .inl (fun _ => 0)) (fun _ => rfl) (by decide +kernel) (by decide +kernel) (Nat.le_of_ble_eq_true rfl) (Nat.le_of_ble_eq_true rfl) (Nat.le_of_ble_eq_true rfl) d_M_init_615 (fun q58 H hP hD hS => ?_)
  refine W.widen (k := 58) (n := 1269480) (Nat.le_of_ble_eq_true rfl) (Nat.le_of_ble_eq_true rfl) ?_
  refine va_putF (D := D) (ci := 12) (v := .ref q58) (ty := .array .boolean) (C := R_M) (T := T_M) (N := 84) hx hb hG gi_M ty_M to_M nm_M hown hK hP hD hS 0 rfl rfl 81 (by decide) (hG _ fl_M_260) (fun _ h9 => h9) rfl hin rfl (by decide +kernel) rfl rfl (Nat.le_of_ble_eq_true rfl) d_M_init_617 (fun H locs hP hD hS => ?_)
  refine lv_aload_n hx hb d_M_init_620 rfl (lv_at hl 0 rfl) ?_
  refine lv_iconst (v := 0) hx hb d_M_init_621 (by decide) ?_
  refine va_put (D := D) (ci := 12) (v := .int 0) (ty := .int) (C := R_M) (T := T_M) (N := 84) hx hb hG gi_M ty_M to_M nm_M hown hK hP hD hS 0 rfl rfl 82 (by decide) (hG _ fl_M_263) (fun _ h9 => h9) rfl (by decide +kernel) rfl rfl (Nat.le_of_ble_eq_true rfl) d_M_init_622 (fun H locs hP hD hS => ?_)
  refine lv_aload_n hx hb d_M_init_625 rfl (lv_at hl 0 rfl) ?_
  refine lv_iconst (v := 0) hx hb d_M_init_626 (by decide) ?_
  refine va_put (D := D) (ci := 12) (v := .int 0) (ty := .boolean) (C := R_M) (T := T_M) (N := 84) hx hb hG gi_M ty_M to_M nm_M hown hK hP hD hS 0 rfl rfl 83 (by decide) (hG _ fl_M_266) (fun _ h9 => h9) rfl (by decide +kernel) rfl rfl (Nat.le_of_ble_eq_true rfl) d_M_init_627 (fun H locs hP hD hS => ?_)
  have hP : va_P D kl [(h0, .inr (12, [.ref q1, .int 0, .int 0, .int 0, .int 0, .int 0, .int 0, .int 0, .int 0, .int 0, .ref q2, .ref q3, .ref q4, .ref q5, .ref q6, .ref q7, .ref q8, .ref q9, .int 0, .int 0, .ref q10, .ref q11, .ref q12, .ref q13, .ref q14, .ref q15, .ref q16, .ref q17, .ref q18, .ref q19, .int 0, .int 0, .ref q20, .ref q21, .ref q22, .ref q23, .ref q24, .ref q25, .ref q26, .ref q27, .int 0, .ref q28, .int 0, .ref q29, .ref q30, .ref q31, .ref q32, .ref q33, .ref q34, .int (-1), .int 0, .int 0, .int 0, .int 0, .int 0, .int 0, .ref q35, .ref q36, .ref q37, .ref q38, .ref q39, .ref q40, .ref q41, .ref q42, .ref q43, .ref q44, .ref q45, .int 0, .ref q46, .ref q47, .ref q48, .ref q49, .int 0, .ref q50, .ref q51, .ref q52, .ref q53, .ref q54, .ref q55, .ref q56, .ref q57, .ref q58, .int 0, .int 0])), (q1, .inl (cB, 65536, .inl (fun _ => 0))), (q2, .inl (cI, 60, .inl (fun _ => 0))), (q3, .inl (cI, 60, .inl (fun _ => 0))), (q4, .inl (cI, 61, .inl (fun _ => 0))), (q5, .inl (cI, 60, .inl (fun _ => 0))), (q6, .inl (cI, 60, .inl (fun _ => 0))), (q7, .inl (cI, 61, .inl (fun _ => 0))), (q8, .inl (cI, 60, .inl (fun _ => 0))), (q9, .inl (cI, 60, .inl (fun _ => 0))), (q10, .inl (cI, 6000, .inl (fun _ => 0))), (q11, .inl (cI, 6000, .inl (fun _ => 0))), (q12, .inl (cI, 6000, .inl (fun _ => 0))), (q13, .inl (cI, 6000, .inl (fun _ => 0))), (q14, .inl (cZ, 6000, .inl (fun _ => 0))), (q15, .inl (cI, 17000, .inl (fun _ => 0))), (q16, .inl (cI, 17001, .inl (fun _ => 0))), (q17, .inl (cI, 17000, .inl (fun _ => 0))), (q18, .inl (cI, 66000, .inl (fun _ => 0))), (q19, .inl (cI, 17000, .inl (fun _ => 0))), (q20, .inl (cI, 66000, .inl (fun _ => 0))), (q21, .inl (cI, 66000, .inl (fun _ => 0))), (q22, .inl (cI, 66000, .inl (fun _ => 0))), (q23, .inl (cI, 66000, .inl (fun _ => 0))), (q24, .inl (cI, 66000, .inl (fun _ => 0))), (q25, .inl (cI, 66000, .inl (fun _ => 0))), (q26, .inl (cI, 66000, .inl (fun _ => 0))), (q27, .inl (cI, 66000, .inl (fun _ => 0))), (q28, .inl (cZ, 66000, .inl (fun _ => 0))), (q29, .inl (cI, 66000, .inl (fun _ => 0))), (q30, .inl (cI, 66000, .inl (fun _ => 0))), (q31, .inl (cI, 66000, .inl (fun _ => 0))), (q32, .inl (cI, 6000, .inl (fun _ => 0))), (q33, .inl (cI, 6000, .inl (fun _ => 0))), (q34, .inl (cI, 60, .inl (fun _ => 0))), (q35, .inl (cI, 3200, .inl (fun _ => 0))), (q36, .inl (cI, 3200, .inl (fun _ => 0))), (q37, .inl (cI, 3200, .inl (fun _ => 0))), (q38, .inl (cI, 3200, .inl (fun _ => 0))), (q39, .inl (cI, 3200, .inl (fun _ => 0))), (q40, .inl (cI, 3200, .inl (fun _ => 0))), (q41, .inl (cI, 3200, .inl (fun _ => 0))), (q42, .inl (cI, 6100, .inl (fun _ => 0))), (q43, .inl (cI, 6100, .inl (fun _ => 0))), (q44, .inl (cI, 6101, .inl (fun _ => 0))), (q45, .inl (cI, 60000, .inl (fun _ => 0))), (q46, .inl (cZ, 6100, .inl (fun _ => 0))), (q47, .inl (cI, 6100, .inl (fun _ => 0))), (q48, .inl (cI, 6100, .inl (fun _ => 0))), (q49, .inl (cZ, 6100, .inl (fun _ => 0))), (q50, .inl (cI, 100, .inl (fun _ => 0))), (q51, .inl (cI, 6100, .inl (fun _ => 0))), (q52, .inl (cI, 6600, .inl (fun _ => 0))), (q53, .inl (cI, 6600, .inl (fun _ => 0))), (q54, .inl (cI, 66000, .inl (fun _ => 0))), (q55, .inl (cZ, 6100, .inl (fun _ => 0))), (q56, .inl (cI, 6600, .inl (fun _ => 0))), (q57, .inl (cI, 6100, .inl (fun _ => 0))), (q58, .inl (cZ, 6100, .inl (fun _ => 0)))] H := hP
  have hD : va_D A [(h0, .inr (12, [.ref q1, .int 0, .int 0, .int 0, .int 0, .int 0, .int 0, .int 0, .int 0, .int 0, .ref q2, .ref q3, .ref q4, .ref q5, .ref q6, .ref q7, .ref q8, .ref q9, .int 0, .int 0, .ref q10, .ref q11, .ref q12, .ref q13, .ref q14, .ref q15, .ref q16, .ref q17, .ref q18, .ref q19, .int 0, .int 0, .ref q20, .ref q21, .ref q22, .ref q23, .ref q24, .ref q25, .ref q26, .ref q27, .int 0, .ref q28, .int 0, .ref q29, .ref q30, .ref q31, .ref q32, .ref q33, .ref q34, .int (-1), .int 0, .int 0, .int 0, .int 0, .int 0, .int 0, .ref q35, .ref q36, .ref q37, .ref q38, .ref q39, .ref q40, .ref q41, .ref q42, .ref q43, .ref q44, .ref q45, .int 0, .ref q46, .ref q47, .ref q48, .ref q49, .int 0, .ref q50, .ref q51, .ref q52, .ref q53, .ref q54, .ref q55, .ref q56, .ref q57, .ref q58, .int 0, .int 0])), (q1, .inl (cB, 65536, .inl (fun _ => 0))), (q2, .inl (cI, 60, .inl (fun _ => 0))), (q3, .inl (cI, 60, .inl (fun _ => 0))), (q4, .inl (cI, 61, .inl (fun _ => 0))), (q5, .inl (cI, 60, .inl (fun _ => 0))), (q6, .inl (cI, 60, .inl (fun _ => 0))), (q7, .inl (cI, 61, .inl (fun _ => 0))), (q8, .inl (cI, 60, .inl (fun _ => 0))), (q9, .inl (cI, 60, .inl (fun _ => 0))), (q10, .inl (cI, 6000, .inl (fun _ => 0))), (q11, .inl (cI, 6000, .inl (fun _ => 0))), (q12, .inl (cI, 6000, .inl (fun _ => 0))), (q13, .inl (cI, 6000, .inl (fun _ => 0))), (q14, .inl (cZ, 6000, .inl (fun _ => 0))), (q15, .inl (cI, 17000, .inl (fun _ => 0))), (q16, .inl (cI, 17001, .inl (fun _ => 0))), (q17, .inl (cI, 17000, .inl (fun _ => 0))), (q18, .inl (cI, 66000, .inl (fun _ => 0))), (q19, .inl (cI, 17000, .inl (fun _ => 0))), (q20, .inl (cI, 66000, .inl (fun _ => 0))), (q21, .inl (cI, 66000, .inl (fun _ => 0))), (q22, .inl (cI, 66000, .inl (fun _ => 0))), (q23, .inl (cI, 66000, .inl (fun _ => 0))), (q24, .inl (cI, 66000, .inl (fun _ => 0))), (q25, .inl (cI, 66000, .inl (fun _ => 0))), (q26, .inl (cI, 66000, .inl (fun _ => 0))), (q27, .inl (cI, 66000, .inl (fun _ => 0))), (q28, .inl (cZ, 66000, .inl (fun _ => 0))), (q29, .inl (cI, 66000, .inl (fun _ => 0))), (q30, .inl (cI, 66000, .inl (fun _ => 0))), (q31, .inl (cI, 66000, .inl (fun _ => 0))), (q32, .inl (cI, 6000, .inl (fun _ => 0))), (q33, .inl (cI, 6000, .inl (fun _ => 0))), (q34, .inl (cI, 60, .inl (fun _ => 0))), (q35, .inl (cI, 3200, .inl (fun _ => 0))), (q36, .inl (cI, 3200, .inl (fun _ => 0))), (q37, .inl (cI, 3200, .inl (fun _ => 0))), (q38, .inl (cI, 3200, .inl (fun _ => 0))), (q39, .inl (cI, 3200, .inl (fun _ => 0))), (q40, .inl (cI, 3200, .inl (fun _ => 0))), (q41, .inl (cI, 3200, .inl (fun _ => 0))), (q42, .inl (cI, 6100, .inl (fun _ => 0))), (q43, .inl (cI, 6100, .inl (fun _ => 0))), (q44, .inl (cI, 6101, .inl (fun _ => 0))), (q45, .inl (cI, 60000, .inl (fun _ => 0))), (q46, .inl (cZ, 6100, .inl (fun _ => 0))), (q47, .inl (cI, 6100, .inl (fun _ => 0))), (q48, .inl (cI, 6100, .inl (fun _ => 0))), (q49, .inl (cZ, 6100, .inl (fun _ => 0))), (q50, .inl (cI, 100, .inl (fun _ => 0))), (q51, .inl (cI, 6100, .inl (fun _ => 0))), (q52, .inl (cI, 6600, .inl (fun _ => 0))), (q53, .inl (cI, 6600, .inl (fun _ => 0))), (q54, .inl (cI, 66000, .inl (fun _ => 0))), (q55, .inl (cZ, 6100, .inl (fun _ => 0))), (q56, .inl (cI, 6600, .inl (fun _ => 0))), (q57, .inl (cI, 6100, .inl (fun _ => 0))), (q58, .inl (cZ, 6100, .inl (fun _ => 0)))] := hD
  exact W.vret hx hb hr (fun t ht hW => ⟨⟨(), rfl, trivial, q1, q2, q3, q4, q5, q6, q7, q8, q9, q10, q11, q12, q13, q14, q15, q16, q17, q18, q19, q20, q21, q22, q23, q24, q25, q26, q27, q28, q29, q30, q31, q32, q33, q34, q35, q36, q37, q38, q39, q40, q41, q42, q43, q44, q45, q46, q47, q48, q49, q50, q51, q52, q53, q54, q55, q56, q57, q58, by rw [ht]; exact hP, hD⟩, hS.F ht⟩) hS.2.2 d_M_init_630

