/-! the law's loop as a function -/
theorem d_L_law_0 : decode code 0 = .ok (.new 8, 3) := by decide +kernel
theorem d_L_law_3 : decode code 3 = .ok (.dup, 1) := by decide +kernel
theorem d_L_law_4 : decode code 4 = .ok (.invokespecial 51, 3) := by decide +kernel
theorem d_L_law_7 : decode code 7 = .ok (.astore_n 1, 1) := by decide +kernel
theorem d_L_law_8 : decode code 8 = .ok (.new 52, 3) := by decide +kernel
theorem d_L_law_11 : decode code 11 = .ok (.dup, 1) := by decide +kernel
theorem d_L_law_12 : decode code 12 = .ok (.invokespecial 54, 3) := by decide +kernel
theorem d_L_law_15 : decode code 15 = .ok (.astore_n 2, 1) := by decide +kernel
theorem d_L_law_16 : decode code 16 = .ok (.iconst 1, 1) := by decide +kernel
theorem d_L_law_17 : decode code 17 = .ok (.newarray .long, 2) := by decide +kernel
theorem d_L_law_19 : decode code 19 = .ok (.astore_n 3, 1) := by decide +kernel
theorem d_L_law_20 : decode code 20 = .ok (.iconst 0, 1) := by decide +kernel
theorem d_L_law_21 : decode code 21 = .ok (.istore 4, 2) := by decide +kernel
theorem d_L_law_23 : decode code 23 = .ok (.iload 4, 2) := by decide +kernel
theorem d_L_law_25 : decode code 25 = .ok (.aload_n 0, 1) := by decide +kernel
theorem d_L_law_26 : decode code 26 = .ok (.arraylength, 1) := by decide +kernel
theorem d_L_law_27 : decode code 27 = .ok (.bipush 6, 2) := by decide +kernel
theorem d_L_law_29 : decode code 29 = .ok (.isub, 1) := by decide +kernel
theorem d_L_law_30 : decode code 30 = .ok (.if_icmp .gt 500, 3) := by decide +kernel
theorem d_L_law_33 : decode code 33 = .ok (.aload_n 0, 1) := by decide +kernel
theorem d_L_law_34 : decode code 34 = .ok (.iload 4, 2) := by decide +kernel
theorem d_L_law_36 : decode code 36 = .ok (.iaload, 1) := by decide +kernel
theorem d_L_law_37 : decode code 37 = .ok (.bipush 15, 2) := by decide +kernel
theorem d_L_law_39 : decode code 39 = .ok (.iand, 1) := by decide +kernel
theorem d_L_law_40 : decode code 40 = .ok (.tableswitch 484 0 12 #[68, 172, 200, 213, 238, 278, 306, 334, 374, 414, 430, 443, 459], 68) := by decide +kernel
theorem d_L_law_108 : decode code 108 = .ok (.aload_n 1, 1) := by decide +kernel
theorem d_L_law_109 : decode code 109 = .ok (.aload_n 0, 1) := by decide +kernel
theorem d_L_law_110 : decode code 110 = .ok (.iload 4, 2) := by decide +kernel
theorem d_L_law_112 : decode code 112 = .ok (.iconst 1, 1) := by decide +kernel
theorem d_L_law_113 : decode code 113 = .ok (.iadd, 1) := by decide +kernel
theorem d_L_law_114 : decode code 114 = .ok (.iaload, 1) := by decide +kernel
theorem d_L_law_115 : decode code 115 = .ok (.aload_n 0, 1) := by decide +kernel
theorem d_L_law_116 : decode code 116 = .ok (.iload 4, 2) := by decide +kernel
theorem d_L_law_118 : decode code 118 = .ok (.iconst 2, 1) := by decide +kernel
theorem d_L_law_119 : decode code 119 = .ok (.iadd, 1) := by decide +kernel
theorem d_L_law_120 : decode code 120 = .ok (.iaload, 1) := by decide +kernel
theorem d_L_law_121 : decode code 121 = .ok (.aload_n 0, 1) := by decide +kernel
theorem d_L_law_122 : decode code 122 = .ok (.iload 4, 2) := by decide +kernel
theorem d_L_law_124 : decode code 124 = .ok (.iconst 3, 1) := by decide +kernel
theorem d_L_law_125 : decode code 125 = .ok (.iadd, 1) := by decide +kernel
theorem d_L_law_126 : decode code 126 = .ok (.iaload, 1) := by decide +kernel
theorem d_L_law_127 : decode code 127 = .ok (.aload_n 0, 1) := by decide +kernel
theorem d_L_law_128 : decode code 128 = .ok (.iload 4, 2) := by decide +kernel
theorem d_L_law_130 : decode code 130 = .ok (.iconst 4, 1) := by decide +kernel
theorem d_L_law_131 : decode code 131 = .ok (.iadd, 1) := by decide +kernel
theorem d_L_law_132 : decode code 132 = .ok (.iaload, 1) := by decide +kernel
theorem d_L_law_133 : decode code 133 = .ok (.aload_n 0, 1) := by decide +kernel
theorem d_L_law_134 : decode code 134 = .ok (.iload 4, 2) := by decide +kernel
theorem d_L_law_136 : decode code 136 = .ok (.iconst 5, 1) := by decide +kernel
theorem d_L_law_137 : decode code 137 = .ok (.iadd, 1) := by decide +kernel
theorem d_L_law_138 : decode code 138 = .ok (.iaload, 1) := by decide +kernel
theorem d_L_law_139 : decode code 139 = .ok (.aload_n 3, 1) := by decide +kernel
theorem d_L_law_140 : decode code 140 = .ok (.invokestatic 55, 3) := by decide +kernel
theorem d_L_law_143 : decode code 143 = .ok (.istore 5, 2) := by decide +kernel
theorem d_L_law_145 : decode code 145 = .ok (.aload_n 2, 1) := by decide +kernel
theorem d_L_law_146 : decode code 146 = .ok (.aload_n 0, 1) := by decide +kernel
theorem d_L_law_147 : decode code 147 = .ok (.iload 4, 2) := by decide +kernel
theorem d_L_law_149 : decode code 149 = .ok (.iconst 1, 1) := by decide +kernel
theorem d_L_law_150 : decode code 150 = .ok (.iadd, 1) := by decide +kernel
theorem d_L_law_151 : decode code 151 = .ok (.iaload, 1) := by decide +kernel
theorem d_L_law_152 : decode code 152 = .ok (.aload_n 0, 1) := by decide +kernel
theorem d_L_law_153 : decode code 153 = .ok (.iload 4, 2) := by decide +kernel
theorem d_L_law_155 : decode code 155 = .ok (.iconst 2, 1) := by decide +kernel
theorem d_L_law_156 : decode code 156 = .ok (.iadd, 1) := by decide +kernel
theorem d_L_law_157 : decode code 157 = .ok (.iaload, 1) := by decide +kernel
theorem d_L_law_158 : decode code 158 = .ok (.aload_n 0, 1) := by decide +kernel
theorem d_L_law_159 : decode code 159 = .ok (.iload 4, 2) := by decide +kernel
theorem d_L_law_161 : decode code 161 = .ok (.iconst 3, 1) := by decide +kernel
theorem d_L_law_162 : decode code 162 = .ok (.iadd, 1) := by decide +kernel
theorem d_L_law_163 : decode code 163 = .ok (.iaload, 1) := by decide +kernel
theorem d_L_law_164 : decode code 164 = .ok (.aload_n 0, 1) := by decide +kernel
theorem d_L_law_165 : decode code 165 = .ok (.iload 4, 2) := by decide +kernel
theorem d_L_law_167 : decode code 167 = .ok (.iconst 4, 1) := by decide +kernel
theorem d_L_law_168 : decode code 168 = .ok (.iadd, 1) := by decide +kernel
theorem d_L_law_169 : decode code 169 = .ok (.iaload, 1) := by decide +kernel
theorem d_L_law_170 : decode code 170 = .ok (.aload_n 0, 1) := by decide +kernel
theorem d_L_law_171 : decode code 171 = .ok (.iload 4, 2) := by decide +kernel
theorem d_L_law_173 : decode code 173 = .ok (.iconst 5, 1) := by decide +kernel
theorem d_L_law_174 : decode code 174 = .ok (.iadd, 1) := by decide +kernel
theorem d_L_law_175 : decode code 175 = .ok (.iaload, 1) := by decide +kernel
theorem d_L_law_176 : decode code 176 = .ok (.invokevirtual 60, 3) := by decide +kernel
theorem d_L_law_179 : decode code 179 = .ok (.istore 6, 2) := by decide +kernel
theorem d_L_law_181 : decode code 181 = .ok (.aload_n 2, 1) := by decide +kernel
theorem d_L_law_182 : decode code 182 = .ok (.invokevirtual 61, 3) := by decide +kernel
theorem d_L_law_185 : decode code 185 = .ok (.iload 5, 2) := by decide +kernel
theorem d_L_law_187 : decode code 187 = .ok (.if_icmp .eq 5, 3) := by decide +kernel
theorem d_L_law_190 : decode code 190 = .ok (.iconst 0, 1) := by decide +kernel
theorem d_L_law_191 : decode code 191 = .ok (.ireturn, 1) := by decide +kernel
theorem d_L_law_192 : decode code 192 = .ok (.iload 5, 2) := by decide +kernel
theorem d_L_law_194 : decode code 194 = .ok (.ifCond .ne 15, 3) := by decide +kernel
theorem d_L_law_197 : decode code 197 = .ok (.aload_n 3, 1) := by decide +kernel
theorem d_L_law_198 : decode code 198 = .ok (.iconst 0, 1) := by decide +kernel
theorem d_L_law_199 : decode code 199 = .ok (.laload, 1) := by decide +kernel
theorem d_L_law_200 : decode code 200 = .ok (.iload 6, 2) := by decide +kernel
theorem d_L_law_202 : decode code 202 = .ok (.i2l, 1) := by decide +kernel
theorem d_L_law_203 : decode code 203 = .ok (.lcmp, 1) := by decide +kernel
theorem d_L_law_204 : decode code 204 = .ok (.ifCond .eq 5, 3) := by decide +kernel
theorem d_L_law_207 : decode code 207 = .ok (.iconst 0, 1) := by decide +kernel
theorem d_L_law_208 : decode code 208 = .ok (.ireturn, 1) := by decide +kernel
theorem d_L_law_209 : decode code 209 = .ok (.goto 315, 3) := by decide +kernel
theorem d_L_law_212 : decode code 212 = .ok (.aload_n 1, 1) := by decide +kernel
theorem d_L_law_213 : decode code 213 = .ok (.aload_n 0, 1) := by decide +kernel
theorem d_L_law_214 : decode code 214 = .ok (.iload 4, 2) := by decide +kernel
theorem d_L_law_216 : decode code 216 = .ok (.iconst 1, 1) := by decide +kernel
theorem d_L_law_217 : decode code 217 = .ok (.iadd, 1) := by decide +kernel
theorem d_L_law_218 : decode code 218 = .ok (.iaload, 1) := by decide +kernel
theorem d_L_law_219 : decode code 219 = .ok (.aload_n 3, 1) := by decide +kernel
theorem d_L_law_220 : decode code 220 = .ok (.invokestatic 64, 3) := by decide +kernel
theorem d_L_law_223 : decode code 223 = .ok (.istore 5, 2) := by decide +kernel
theorem d_L_law_225 : decode code 225 = .ok (.aload_n 2, 1) := by decide +kernel
theorem d_L_law_226 : decode code 226 = .ok (.aload_n 0, 1) := by decide +kernel
theorem d_L_law_227 : decode code 227 = .ok (.iload 4, 2) := by decide +kernel
theorem d_L_law_229 : decode code 229 = .ok (.iconst 1, 1) := by decide +kernel
theorem d_L_law_230 : decode code 230 = .ok (.iadd, 1) := by decide +kernel
theorem d_L_law_231 : decode code 231 = .ok (.iaload, 1) := by decide +kernel
theorem d_L_law_232 : decode code 232 = .ok (.invokevirtual 67, 3) := by decide +kernel
theorem d_L_law_235 : decode code 235 = .ok (.istore 6, 2) := by decide +kernel
theorem d_L_law_237 : decode code 237 = .ok (.goto 287, 3) := by decide +kernel
theorem d_L_law_240 : decode code 240 = .ok (.aload_n 1, 1) := by decide +kernel
theorem d_L_law_241 : decode code 241 = .ok (.invokevirtual 68, 3) := by decide +kernel
theorem d_L_law_244 : decode code 244 = .ok (.pop, 1) := by decide +kernel
theorem d_L_law_245 : decode code 245 = .ok (.aload_n 2, 1) := by decide +kernel
theorem d_L_law_246 : decode code 246 = .ok (.invokevirtual 71, 3) := by decide +kernel
theorem d_L_law_249 : decode code 249 = .ok (.pop, 1) := by decide +kernel
theorem d_L_law_250 : decode code 250 = .ok (.goto 274, 3) := by decide +kernel
theorem d_L_law_253 : decode code 253 = .ok (.aload_n 1, 1) := by decide +kernel
theorem d_L_law_254 : decode code 254 = .ok (.aload_n 0, 1) := by decide +kernel
theorem d_L_law_255 : decode code 255 = .ok (.iload 4, 2) := by decide +kernel
theorem d_L_law_257 : decode code 257 = .ok (.iconst 1, 1) := by decide +kernel
theorem d_L_law_258 : decode code 258 = .ok (.iadd, 1) := by decide +kernel
theorem d_L_law_259 : decode code 259 = .ok (.iaload, 1) := by decide +kernel
theorem d_L_law_260 : decode code 260 = .ok (.invokevirtual 72, 3) := by decide +kernel
theorem d_L_law_263 : decode code 263 = .ok (.pop, 1) := by decide +kernel
theorem d_L_law_264 : decode code 264 = .ok (.aload_n 2, 1) := by decide +kernel
theorem d_L_law_265 : decode code 265 = .ok (.aload_n 0, 1) := by decide +kernel
theorem d_L_law_266 : decode code 266 = .ok (.iload 4, 2) := by decide +kernel
theorem d_L_law_268 : decode code 268 = .ok (.iconst 1, 1) := by decide +kernel
theorem d_L_law_269 : decode code 269 = .ok (.iadd, 1) := by decide +kernel
theorem d_L_law_270 : decode code 270 = .ok (.iaload, 1) := by decide +kernel
theorem d_L_law_271 : decode code 271 = .ok (.invokevirtual 75, 3) := by decide +kernel
theorem d_L_law_274 : decode code 274 = .ok (.pop, 1) := by decide +kernel
theorem d_L_law_275 : decode code 275 = .ok (.goto 249, 3) := by decide +kernel
theorem d_L_law_278 : decode code 278 = .ok (.aload_n 1, 1) := by decide +kernel
theorem d_L_law_279 : decode code 279 = .ok (.aload_n 0, 1) := by decide +kernel
theorem d_L_law_280 : decode code 280 = .ok (.iload 4, 2) := by decide +kernel
theorem d_L_law_282 : decode code 282 = .ok (.iconst 1, 1) := by decide +kernel
theorem d_L_law_283 : decode code 283 = .ok (.iadd, 1) := by decide +kernel
theorem d_L_law_284 : decode code 284 = .ok (.iaload, 1) := by decide +kernel
theorem d_L_law_285 : decode code 285 = .ok (.aload_n 0, 1) := by decide +kernel
theorem d_L_law_286 : decode code 286 = .ok (.iload 4, 2) := by decide +kernel
theorem d_L_law_288 : decode code 288 = .ok (.iconst 2, 1) := by decide +kernel
theorem d_L_law_289 : decode code 289 = .ok (.iadd, 1) := by decide +kernel
theorem d_L_law_290 : decode code 290 = .ok (.iaload, 1) := by decide +kernel
theorem d_L_law_291 : decode code 291 = .ok (.aload_n 3, 1) := by decide +kernel
theorem d_L_law_292 : decode code 292 = .ok (.invokestatic 76, 3) := by decide +kernel
theorem d_L_law_295 : decode code 295 = .ok (.istore 5, 2) := by decide +kernel
theorem d_L_law_297 : decode code 297 = .ok (.aload_n 2, 1) := by decide +kernel
theorem d_L_law_298 : decode code 298 = .ok (.aload_n 0, 1) := by decide +kernel
theorem d_L_law_299 : decode code 299 = .ok (.iload 4, 2) := by decide +kernel
theorem d_L_law_301 : decode code 301 = .ok (.iconst 1, 1) := by decide +kernel
theorem d_L_law_302 : decode code 302 = .ok (.iadd, 1) := by decide +kernel
theorem d_L_law_303 : decode code 303 = .ok (.iaload, 1) := by decide +kernel
theorem d_L_law_304 : decode code 304 = .ok (.aload_n 0, 1) := by decide +kernel
theorem d_L_law_305 : decode code 305 = .ok (.iload 4, 2) := by decide +kernel
theorem d_L_law_307 : decode code 307 = .ok (.iconst 2, 1) := by decide +kernel
theorem d_L_law_308 : decode code 308 = .ok (.iadd, 1) := by decide +kernel
theorem d_L_law_309 : decode code 309 = .ok (.iaload, 1) := by decide +kernel
theorem d_L_law_310 : decode code 310 = .ok (.invokevirtual 79, 3) := by decide +kernel
theorem d_L_law_313 : decode code 313 = .ok (.istore 6, 2) := by decide +kernel
theorem d_L_law_315 : decode code 315 = .ok (.goto 209, 3) := by decide +kernel
theorem d_L_law_318 : decode code 318 = .ok (.aload_n 1, 1) := by decide +kernel
theorem d_L_law_319 : decode code 319 = .ok (.aload_n 0, 1) := by decide +kernel
theorem d_L_law_320 : decode code 320 = .ok (.iload 4, 2) := by decide +kernel
theorem d_L_law_322 : decode code 322 = .ok (.iconst 1, 1) := by decide +kernel
theorem d_L_law_323 : decode code 323 = .ok (.iadd, 1) := by decide +kernel
theorem d_L_law_324 : decode code 324 = .ok (.iaload, 1) := by decide +kernel
theorem d_L_law_325 : decode code 325 = .ok (.aload_n 3, 1) := by decide +kernel
theorem d_L_law_326 : decode code 326 = .ok (.invokestatic 80, 3) := by decide +kernel
theorem d_L_law_329 : decode code 329 = .ok (.istore 5, 2) := by decide +kernel
theorem d_L_law_331 : decode code 331 = .ok (.aload_n 2, 1) := by decide +kernel
theorem d_L_law_332 : decode code 332 = .ok (.aload_n 0, 1) := by decide +kernel
theorem d_L_law_333 : decode code 333 = .ok (.iload 4, 2) := by decide +kernel
theorem d_L_law_335 : decode code 335 = .ok (.iconst 1, 1) := by decide +kernel
theorem d_L_law_336 : decode code 336 = .ok (.iadd, 1) := by decide +kernel
theorem d_L_law_337 : decode code 337 = .ok (.iaload, 1) := by decide +kernel
theorem d_L_law_338 : decode code 338 = .ok (.invokevirtual 82, 3) := by decide +kernel
theorem d_L_law_341 : decode code 341 = .ok (.istore 6, 2) := by decide +kernel
theorem d_L_law_343 : decode code 343 = .ok (.goto 181, 3) := by decide +kernel
theorem d_L_law_346 : decode code 346 = .ok (.aload_n 1, 1) := by decide +kernel
theorem d_L_law_347 : decode code 347 = .ok (.aload_n 0, 1) := by decide +kernel
theorem d_L_law_348 : decode code 348 = .ok (.iload 4, 2) := by decide +kernel
theorem d_L_law_350 : decode code 350 = .ok (.iconst 1, 1) := by decide +kernel
theorem d_L_law_351 : decode code 351 = .ok (.iadd, 1) := by decide +kernel
theorem d_L_law_352 : decode code 352 = .ok (.iaload, 1) := by decide +kernel
theorem d_L_law_353 : decode code 353 = .ok (.aload_n 3, 1) := by decide +kernel
theorem d_L_law_354 : decode code 354 = .ok (.invokestatic 83, 3) := by decide +kernel
theorem d_L_law_357 : decode code 357 = .ok (.istore 5, 2) := by decide +kernel
theorem d_L_law_359 : decode code 359 = .ok (.aload_n 2, 1) := by decide +kernel
theorem d_L_law_360 : decode code 360 = .ok (.aload_n 0, 1) := by decide +kernel
theorem d_L_law_361 : decode code 361 = .ok (.iload 4, 2) := by decide +kernel
theorem d_L_law_363 : decode code 363 = .ok (.iconst 1, 1) := by decide +kernel
theorem d_L_law_364 : decode code 364 = .ok (.iadd, 1) := by decide +kernel
theorem d_L_law_365 : decode code 365 = .ok (.iaload, 1) := by decide +kernel
theorem d_L_law_366 : decode code 366 = .ok (.invokevirtual 85, 3) := by decide +kernel
theorem d_L_law_369 : decode code 369 = .ok (.lstore 6, 2) := by decide +kernel
theorem d_L_law_371 : decode code 371 = .ok (.goto 153, 3) := by decide +kernel
theorem d_L_law_374 : decode code 374 = .ok (.aload_n 1, 1) := by decide +kernel
theorem d_L_law_375 : decode code 375 = .ok (.aload_n 0, 1) := by decide +kernel
theorem d_L_law_376 : decode code 376 = .ok (.iload 4, 2) := by decide +kernel
theorem d_L_law_378 : decode code 378 = .ok (.iconst 1, 1) := by decide +kernel
theorem d_L_law_379 : decode code 379 = .ok (.iadd, 1) := by decide +kernel
theorem d_L_law_380 : decode code 380 = .ok (.iaload, 1) := by decide +kernel
theorem d_L_law_381 : decode code 381 = .ok (.aload_n 0, 1) := by decide +kernel
theorem d_L_law_382 : decode code 382 = .ok (.iload 4, 2) := by decide +kernel
theorem d_L_law_384 : decode code 384 = .ok (.iconst 2, 1) := by decide +kernel
theorem d_L_law_385 : decode code 385 = .ok (.iadd, 1) := by decide +kernel
theorem d_L_law_386 : decode code 386 = .ok (.iaload, 1) := by decide +kernel
theorem d_L_law_387 : decode code 387 = .ok (.aload_n 3, 1) := by decide +kernel
theorem d_L_law_388 : decode code 388 = .ok (.invokestatic 86, 3) := by decide +kernel
theorem d_L_law_391 : decode code 391 = .ok (.istore 5, 2) := by decide +kernel
theorem d_L_law_393 : decode code 393 = .ok (.aload_n 2, 1) := by decide +kernel
theorem d_L_law_394 : decode code 394 = .ok (.aload_n 0, 1) := by decide +kernel
theorem d_L_law_395 : decode code 395 = .ok (.iload 4, 2) := by decide +kernel
theorem d_L_law_397 : decode code 397 = .ok (.iconst 1, 1) := by decide +kernel
theorem d_L_law_398 : decode code 398 = .ok (.iadd, 1) := by decide +kernel
theorem d_L_law_399 : decode code 399 = .ok (.iaload, 1) := by decide +kernel
theorem d_L_law_400 : decode code 400 = .ok (.aload_n 0, 1) := by decide +kernel
theorem d_L_law_401 : decode code 401 = .ok (.iload 4, 2) := by decide +kernel
theorem d_L_law_403 : decode code 403 = .ok (.iconst 2, 1) := by decide +kernel
theorem d_L_law_404 : decode code 404 = .ok (.iadd, 1) := by decide +kernel
theorem d_L_law_405 : decode code 405 = .ok (.iaload, 1) := by decide +kernel
theorem d_L_law_406 : decode code 406 = .ok (.invokevirtual 88, 3) := by decide +kernel
theorem d_L_law_409 : decode code 409 = .ok (.istore 6, 2) := by decide +kernel
theorem d_L_law_411 : decode code 411 = .ok (.goto 113, 3) := by decide +kernel
theorem d_L_law_414 : decode code 414 = .ok (.aload_n 1, 1) := by decide +kernel
theorem d_L_law_415 : decode code 415 = .ok (.aload_n 0, 1) := by decide +kernel
theorem d_L_law_416 : decode code 416 = .ok (.iload 4, 2) := by decide +kernel
theorem d_L_law_418 : decode code 418 = .ok (.iconst 1, 1) := by decide +kernel
theorem d_L_law_419 : decode code 419 = .ok (.iadd, 1) := by decide +kernel
theorem d_L_law_420 : decode code 420 = .ok (.iaload, 1) := by decide +kernel
theorem d_L_law_421 : decode code 421 = .ok (.aload_n 0, 1) := by decide +kernel
theorem d_L_law_422 : decode code 422 = .ok (.iload 4, 2) := by decide +kernel
theorem d_L_law_424 : decode code 424 = .ok (.iconst 2, 1) := by decide +kernel
theorem d_L_law_425 : decode code 425 = .ok (.iadd, 1) := by decide +kernel
theorem d_L_law_426 : decode code 426 = .ok (.iaload, 1) := by decide +kernel
theorem d_L_law_427 : decode code 427 = .ok (.aload_n 3, 1) := by decide +kernel
theorem d_L_law_428 : decode code 428 = .ok (.invokestatic 89, 3) := by decide +kernel
theorem d_L_law_431 : decode code 431 = .ok (.istore 5, 2) := by decide +kernel
theorem d_L_law_433 : decode code 433 = .ok (.aload_n 2, 1) := by decide +kernel
theorem d_L_law_434 : decode code 434 = .ok (.aload_n 0, 1) := by decide +kernel
theorem d_L_law_435 : decode code 435 = .ok (.iload 4, 2) := by decide +kernel
theorem d_L_law_437 : decode code 437 = .ok (.iconst 1, 1) := by decide +kernel
theorem d_L_law_438 : decode code 438 = .ok (.iadd, 1) := by decide +kernel
theorem d_L_law_439 : decode code 439 = .ok (.iaload, 1) := by decide +kernel
theorem d_L_law_440 : decode code 440 = .ok (.aload_n 0, 1) := by decide +kernel
theorem d_L_law_441 : decode code 441 = .ok (.iload 4, 2) := by decide +kernel
theorem d_L_law_443 : decode code 443 = .ok (.iconst 2, 1) := by decide +kernel
theorem d_L_law_444 : decode code 444 = .ok (.iadd, 1) := by decide +kernel
theorem d_L_law_445 : decode code 445 = .ok (.iaload, 1) := by decide +kernel
theorem d_L_law_446 : decode code 446 = .ok (.invokevirtual 91, 3) := by decide +kernel
theorem d_L_law_449 : decode code 449 = .ok (.istore 6, 2) := by decide +kernel
theorem d_L_law_451 : decode code 451 = .ok (.goto 73, 3) := by decide +kernel
theorem d_L_law_454 : decode code 454 = .ok (.aload_n 1, 1) := by decide +kernel
theorem d_L_law_455 : decode code 455 = .ok (.aload_n 3, 1) := by decide +kernel
theorem d_L_law_456 : decode code 456 = .ok (.invokestatic 92, 3) := by decide +kernel
theorem d_L_law_459 : decode code 459 = .ok (.istore 5, 2) := by decide +kernel
theorem d_L_law_461 : decode code 461 = .ok (.aload_n 2, 1) := by decide +kernel
theorem d_L_law_462 : decode code 462 = .ok (.invokevirtual 95, 3) := by decide +kernel
theorem d_L_law_465 : decode code 465 = .ok (.istore 6, 2) := by decide +kernel
theorem d_L_law_467 : decode code 467 = .ok (.goto 57, 3) := by decide +kernel
theorem d_L_law_470 : decode code 470 = .ok (.aload_n 1, 1) := by decide +kernel
theorem d_L_law_471 : decode code 471 = .ok (.invokestatic 96, 3) := by decide +kernel
theorem d_L_law_474 : decode code 474 = .ok (.istore 5, 2) := by decide +kernel
theorem d_L_law_476 : decode code 476 = .ok (.aload_n 2, 1) := by decide +kernel
theorem d_L_law_477 : decode code 477 = .ok (.invokevirtual 99, 3) := by decide +kernel
theorem d_L_law_480 : decode code 480 = .ok (.goto 44, 3) := by decide +kernel
theorem d_L_law_483 : decode code 483 = .ok (.aload_n 1, 1) := by decide +kernel
theorem d_L_law_484 : decode code 484 = .ok (.aload_n 3, 1) := by decide +kernel
theorem d_L_law_485 : decode code 485 = .ok (.invokestatic 100, 3) := by decide +kernel
theorem d_L_law_488 : decode code 488 = .ok (.istore 5, 2) := by decide +kernel
theorem d_L_law_490 : decode code 490 = .ok (.aload_n 2, 1) := by decide +kernel
theorem d_L_law_491 : decode code 491 = .ok (.invokevirtual 102, 3) := by decide +kernel
theorem d_L_law_494 : decode code 494 = .ok (.istore 6, 2) := by decide +kernel
theorem d_L_law_496 : decode code 496 = .ok (.goto 28, 3) := by decide +kernel
theorem d_L_law_499 : decode code 499 = .ok (.aload_n 1, 1) := by decide +kernel
theorem d_L_law_500 : decode code 500 = .ok (.aload_n 0, 1) := by decide +kernel
theorem d_L_law_501 : decode code 501 = .ok (.iload 4, 2) := by decide +kernel
theorem d_L_law_503 : decode code 503 = .ok (.iconst 1, 1) := by decide +kernel
theorem d_L_law_504 : decode code 504 = .ok (.iadd, 1) := by decide +kernel
theorem d_L_law_505 : decode code 505 = .ok (.iaload, 1) := by decide +kernel
theorem d_L_law_506 : decode code 506 = .ok (.invokevirtual 103, 3) := by decide +kernel
theorem d_L_law_509 : decode code 509 = .ok (.pop, 1) := by decide +kernel
theorem d_L_law_510 : decode code 510 = .ok (.aload_n 2, 1) := by decide +kernel
theorem d_L_law_511 : decode code 511 = .ok (.aload_n 0, 1) := by decide +kernel
theorem d_L_law_512 : decode code 512 = .ok (.iload 4, 2) := by decide +kernel
theorem d_L_law_514 : decode code 514 = .ok (.iconst 1, 1) := by decide +kernel
theorem d_L_law_515 : decode code 515 = .ok (.iadd, 1) := by decide +kernel
theorem d_L_law_516 : decode code 516 = .ok (.iaload, 1) := by decide +kernel
theorem d_L_law_517 : decode code 517 = .ok (.invokevirtual 106, 3) := by decide +kernel
theorem d_L_law_520 : decode code 520 = .ok (.pop, 1) := by decide +kernel
theorem d_L_law_521 : decode code 521 = .ok (.goto 3, 3) := by decide +kernel
theorem d_L_law_524 : decode code 524 = .ok (.iinc 4 6, 3) := by decide +kernel
theorem d_L_law_527 : decode code 527 = .ok (.goto (-504), 3) := by decide +kernel
theorem d_L_law_530 : decode code 530 = .ok (.iconst 1, 1) := by decide +kernel
theorem d_L_law_531 : decode code 531 = .ok (.ireturn, 1) := by decide +kernel
/-- a helper's answer, its parts -/
def bndW {ζ : Type} (o : Option (Int × St × Int)) (k : Int → St → Int → Option ζ) : Option ζ := match o with
  | none => none
  | some z => k z.1 z.2.1 z.2.2
def e_L_feed (γ : St) (w a0 a1 a2 a3 a4 : Int) : Option (Int × St × Int) := hcl (f_S_feed γ a0 a1 a2 a3 a4) (g_S_feed γ a0 a1 a2 a3 a4) (fun r γ1 => some (0, γ1, r)) (fun x => if x = 1 then some (1, γ, w) else none)
theorem ef_L_feed (γ δ : St) (w a0 a1 a2 a3 a4 : Int) : f_L_feed γ δ w a0 a1 a2 a3 a4 = (e_L_feed γ w a0 a1 a2 a3 a4).map (fun z => (z.1, cmb z.2.1 δ z.2.2)) := by
  unfold f_L_feed e_L_feed hcl
  cases f_S_feed γ a0 a1 a2 a3 a4 with
  | some z => rfl
  | none =>
    cases g_S_feed γ a0 a1 a2 a3 a4 with
    | none => rfl
    | some z =>
      show (if z.1 = 1 then some (1, cmb γ δ w) else none) = Option.map _ (if z.1 = 1 then some (1, γ, w) else none)
      repeat (first | rfl | split)
def e_L_end (γ : St) (w a0 : Int) : Option (Int × St × Int) := hcl (f_S_end γ a0) (g_S_end γ a0) (fun r γ1 => some (0, γ1, r)) (fun x => if x = 2 then some (1, γ, w) else none)
theorem ef_L_end (γ δ : St) (w a0 : Int) : f_L_end γ δ w a0 = (e_L_end γ w a0).map (fun z => (z.1, cmb z.2.1 δ z.2.2)) := by
  unfold f_L_end e_L_end hcl
  cases f_S_end γ a0 with
  | some z => rfl
  | none =>
    cases g_S_end γ a0 with
    | none => rfl
    | some z =>
      show (if z.1 = 2 then some (1, cmb γ δ w) else none) = Option.map _ (if z.1 = 2 then some (1, γ, w) else none)
      repeat (first | rfl | split)
def e_L_input (γ : St) (w a0 a1 : Int) : Option (Int × St × Int) := hcl (f_S_input γ a0 a1) (g_S_input γ a0 a1) (fun r γ1 => some (0, γ1, r)) (fun x => if x = 3 then some (1, γ, w) else if x = 2 then some (2, γ, w) else none)
theorem ef_L_input (γ δ : St) (w a0 a1 : Int) : f_L_input γ δ w a0 a1 = (e_L_input γ w a0 a1).map (fun z => (z.1, cmb z.2.1 δ z.2.2)) := by
  unfold f_L_input e_L_input hcl
  cases f_S_input γ a0 a1 with
  | some z => rfl
  | none =>
    cases g_S_input γ a0 a1 with
    | none => rfl
    | some z =>
      show (if z.1 = 3 then some (1, cmb γ δ w) else if z.1 = 2 then some (2, cmb γ δ w) else none) = Option.map _ (if z.1 = 3 then some (1, γ, w) else if z.1 = 2 then some (2, γ, w) else none)
      repeat (first | rfl | split)
def e_L_tick (γ : St) (w a0 : Int) : Option (Int × St × Int) := hcl (f_S_tick γ a0) (g_S_tick γ a0) (fun r γ1 => some (0, γ1, r)) (fun x => if x = 2 then some (1, γ, w) else if x = 1 then some (2, γ, w) else none)
theorem ef_L_tick (γ δ : St) (w a0 : Int) : f_L_tick γ δ w a0 = (e_L_tick γ w a0).map (fun z => (z.1, cmb z.2.1 δ z.2.2)) := by
  unfold f_L_tick e_L_tick hcl
  cases f_S_tick γ a0 with
  | some z => rfl
  | none =>
    cases g_S_tick γ a0 with
    | none => rfl
    | some z =>
      show (if z.1 = 2 then some (1, cmb γ δ w) else if z.1 = 1 then some (2, cmb γ δ w) else none) = Option.map _ (if z.1 = 2 then some (1, γ, w) else if z.1 = 1 then some (2, γ, w) else none)
      repeat (first | rfl | split)
def e_L_value (γ : St) (w a0 : Int) : Option (Int × St × Int) := hcl (f_S_value γ a0) (g_S_value γ a0) (fun r γ1 => some (0, γ1, r)) (fun x => if x = 3 then some (1, γ, w) else if x = 1 then some (2, γ, w) else none)
theorem ef_L_value (γ δ : St) (w a0 : Int) : f_L_value γ δ w a0 = (e_L_value γ w a0).map (fun z => (z.1, cmb z.2.1 δ z.2.2)) := by
  unfold f_L_value e_L_value hcl
  cases f_S_value γ a0 with
  | some z => rfl
  | none =>
    cases g_S_value γ a0 with
    | none => rfl
    | some z =>
      show (if z.1 = 3 then some (1, cmb γ δ w) else if z.1 = 1 then some (2, cmb γ δ w) else none) = Option.map _ (if z.1 = 3 then some (1, γ, w) else if z.1 = 1 then some (2, γ, w) else none)
      repeat (first | rfl | split)
def e_L_about (γ : St) (w a0 a1 : Int) : Option (Int × St × Int) := hcl (f_S_about γ a0 a1) (g_S_about γ a0 a1) (fun r γ1 => some (0, γ1, r)) (fun x => if x = 3 then some (1, γ, w) else if x = 2 then some (2, γ, w) else none)
theorem ef_L_about (γ δ : St) (w a0 a1 : Int) : f_L_about γ δ w a0 a1 = (e_L_about γ w a0 a1).map (fun z => (z.1, cmb z.2.1 δ z.2.2)) := by
  unfold f_L_about e_L_about hcl
  cases f_S_about γ a0 a1 with
  | some z => rfl
  | none =>
    cases g_S_about γ a0 a1 with
    | none => rfl
    | some z =>
      show (if z.1 = 3 then some (1, cmb γ δ w) else if z.1 = 2 then some (2, cmb γ δ w) else none) = Option.map _ (if z.1 = 3 then some (1, γ, w) else if z.1 = 2 then some (2, γ, w) else none)
      repeat (first | rfl | split)
def e_L_causes (γ : St) (w a0 a1 : Int) : Option (Int × St × Int) := hcl (f_S_causes γ a0 a1) (g_S_causes γ a0 a1) (fun r γ1 => if r = 0 then some (0, γ1, 0) else some (0, γ1, 1)) (fun x => if x = 3 then some (1, γ, w) else none)
theorem ef_L_causes (γ δ : St) (w a0 a1 : Int) : f_L_causes γ δ w a0 a1 = (e_L_causes γ w a0 a1).map (fun z => (z.1, cmb z.2.1 δ z.2.2)) := by
  unfold f_L_causes e_L_causes hcl
  cases f_S_causes γ a0 a1 with
  | some z => 
    show (if z.1 = 0 then _ else _) = Option.map _ (if z.1 = 0 then _ else _)
    split <;> rfl
  | none =>
    cases g_S_causes γ a0 a1 with
    | none => rfl
    | some z =>
      show (if z.1 = 3 then some (1, cmb γ δ w) else none) = Option.map _ (if z.1 = 3 then some (1, γ, w) else none)
      repeat (first | rfl | split)
def e_L_restart (γ : St) (w : Int) : Option (Int × St × Int) := hcl (f_S_restart γ ) (g_S_restart γ ) (fun r γ1 => some (0, γ1, r)) (fun x => if x = 1 then some (1, γ, w) else none)
theorem ef_L_restart (γ δ : St) (w : Int) : f_L_restart γ δ w  = (e_L_restart γ w ).map (fun z => (z.1, cmb z.2.1 δ z.2.2)) := by
  unfold f_L_restart e_L_restart hcl
  cases f_S_restart γ  with
  | some z => rfl
  | none =>
    cases g_S_restart γ  with
    | none => rfl
    | some z =>
      show (if z.1 = 1 then some (1, cmb γ δ w) else none) = Option.map _ (if z.1 = 1 then some (1, γ, w) else none)
      repeat (first | rfl | split)
def e_L_keep (γ : St) (w : Int) : Option (Int × St × Int) := hcl (f_S_keep γ ) (g_S_keep γ ) (fun _ γ1 => some (0, γ1, w)) (fun x => if x = 1 then some (1, γ, w) else none)
theorem ef_L_keep (γ δ : St) (w : Int) : f_L_keep γ δ w  = (e_L_keep γ w ).map (fun z => (z.1, cmb z.2.1 δ z.2.2)) := by
  unfold f_L_keep e_L_keep hcl
  cases f_S_keep γ  with
  | some z => rfl
  | none =>
    cases g_S_keep γ  with
    | none => rfl
    | some z =>
      show (if z.1 = 1 then some (1, cmb γ δ w) else none) = Option.map _ (if z.1 = 1 then some (1, γ, w) else none)
      repeat (first | rfl | split)
def e_L_back (γ : St) (w : Int) : Option (Int × St × Int) := hcl (f_S_back γ ) (g_S_back γ ) (fun r γ1 => some (0, γ1, r)) (fun x => if x = 1 then some (1, γ, w) else none)
theorem ef_L_back (γ δ : St) (w : Int) : f_L_back γ δ w  = (e_L_back γ w ).map (fun z => (z.1, cmb z.2.1 δ z.2.2)) := by
  unfold f_L_back e_L_back hcl
  cases f_S_back γ  with
  | some z => rfl
  | none =>
    cases g_S_back γ  with
    | none => rfl
    | some z =>
      show (if z.1 = 1 then some (1, cmb γ δ w) else none) = Option.map _ (if z.1 = 1 then some (1, γ, w) else none)
      repeat (first | rfl | split)
theorem sm_HH {Γ : Ctx} {Y : Scr} {mt : MT} {R : Room} {ce sl : Nat} {ζ : Type} {K : Kd ζ} {pc : Nat} {lv : List (Nat × Value)} {st : List Value} {γ δ : St} {w : Int} {y : MethodName} {mu : MT} {N fr lo n index : Nat} {As st0 : List Value} {o1 : Option (Int × St)} {o2 : Option (Int × St × Int)} {k : Int → St → Int → Option ζ} (hC : HC Γ y mu N fr lo As (cmb γ δ w) o1) (he : o1 = o2.map (fun z => (z.1, cmb z.2.1 δ z.2.2))) (hcw : Cond.codeWith y mu.2.1 mu.2.2.1 mu.2.2.2 (tabR N) ∈ gG) (hm : Cond.methodLink mt.1 index y ∈ gG) (hst : Cond.static y ∈ gG) (hin : Cond.initialized y.cls ∈ gG) (hd : y.cls ≠ "java/lang/invoke/MethodHandle" ∧ y.cls ≠ "java/lang/invoke/VarHandle" ∧ (parseMethodDescriptor y.desc).map (fun d => d.parameters.length) = some n) (hn : As.length = n) (hs0 : st0 = As.reverse ++ st) (hW : (st.map fun v => v.category).sum ≤ 8) (hR : fr + 1 ≤ R.frames ∧ 8 + (mu.2.2.1 + 11) + lo ≤ R.locals) (hf : ce + 1 ≤ R.cells ∧ sl + N ≤ R.slots) (d : decode mt.2.1 pc = .ok (.invokestatic index, 3))
    (kk : ∀ r γ' w', i32 r → SL Γ Y mt R (ce + 1) (sl + N) K (pc + 3) lv (vI r :: st) (cmb γ' δ w') (k r γ' w')) : SL Γ Y mt R ce sl K pc lv st0 (cmb γ δ w) (bndW o2 k) := by
  cases ho : o2 with
  | none => exact sm_none
  | some z =>
    rw [ho] at he
    have he : o1 = some (z.1, cmb z.2.1 δ z.2.2) := he
    show SL Γ Y mt R ce sl K pc lv st0 (cmb γ δ w) (k z.1 z.2.1 z.2.2)
    refine sm_eq (o' := bndN o1 (fun r _ => k r z.2.1 z.2.2)) (by rw [he]; rfl) ?_
    refine sm_H hC hcw hm hst hin hd hn hs0 hW hR hf d (fun r γ' hq hr => ?_)
    rw [he] at hq
    cases hq
    exact kk z.1 z.2.1 z.2.2 hr
noncomputable def f_law (xs : Nat → Int32) (L : Nat) : Nat → St → St → Int → Int → Option Int
  | 0, _, _, _, _ => none
  | n + 1, γ, δ, w, i =>
  chk (i32 (((L : Int)) - 6)) (if ((L : Int)) - 6 < i then
  (some 1)
  else
  (chk (inb (i) L) (if (iand (sv xs (i)) 15) = 0 then
  (chk (i32 (i + 1)) (chk (inb (i + 1) L) (chk (i32 (i + 2)) (chk (inb (i + 2) L) (chk (i32 (i + 3)) (chk (inb (i + 3) L) (chk (i32 (i + 4)) (chk (inb (i + 4) L) (chk (i32 (i + 5)) (chk (inb (i + 5) L) (bndW (e_L_feed γ w ((sv xs (i + 1))) ((sv xs (i + 2))) ((sv xs (i + 3))) ((sv xs (i + 4))) ((sv xs (i + 5)))) fun r7 γ8 w9 =>
  chk (i32 (i + 1)) (chk (inb (i + 1) L) (chk (i32 (i + 2)) (chk (inb (i + 2) L) (chk (i32 (i + 3)) (chk (inb (i + 3) L) (chk (i32 (i + 4)) (chk (inb (i + 4) L) (chk (i32 (i + 5)) (chk (inb (i + 5) L) (bndN (f_M_feed δ ((sv xs (i + 1))) ((sv xs (i + 2))) ((sv xs (i + 3))) ((sv xs (i + 4))) ((sv xs (i + 5)))) fun r15 δ16 =>
  bndN (f_M_thrown δ16 ) fun r17 δ18 =>
  if r17 = r7 then
  (if r7 ≠ 0 then
  (chk (i32 (i + 6)) (f_law xs L n γ8 δ18 w9 (i + 6)))
  else
  (if iL w9 = iL r15 then (chk (i32 (i + 6)) (f_law xs L n γ8 δ18 w9 (i + 6))) else (none)))
  else
  (none))))))))))))))))))))))
  else if (iand (sv xs (i)) 15) = 1 then
  (chk (i32 (i + 1)) (chk (inb (i + 1) L) (bndW (e_L_end γ w ((sv xs (i + 1)))) fun r23 γ24 w25 =>
  chk (i32 (i + 1)) (chk (inb (i + 1) L) (bndN (f_M_end δ ((sv xs (i + 1)))) fun r27 δ28 =>
  chk (i32 (i + 6)) (f_law xs L n γ24 δ28 w25 (i + 6)))))))
  else if (iand (sv xs (i)) 15) = 2 then
  (bndN (f_S_read γ ) fun r31 γ32 =>
  bndN (f_M_read δ) fun r33 δ34 =>
  chk (i32 (i + 6)) (f_law xs L n γ32 δ34 w (i + 6)))
  else if (iand (sv xs (i)) 15) = 3 then
  (chk (i32 (i + 1)) (chk (inb (i + 1) L) (bndN (f_S_fault γ ((sv xs (i + 1)))) fun r38 γ39 =>
  chk (i32 (i + 1)) (chk (inb (i + 1) L) (bndN (f_M_fault δ ((sv xs (i + 1)))) fun r41 δ42 =>
  chk (i32 (i + 6)) (f_law xs L n γ39 δ42 w (i + 6)))))))
  else if (iand (sv xs (i)) 15) = 4 then
  (chk (i32 (i + 1)) (chk (inb (i + 1) L) (chk (i32 (i + 2)) (chk (inb (i + 2) L) (bndW (e_L_input γ w ((sv xs (i + 1))) ((sv xs (i + 2)))) fun r47 γ48 w49 =>
  chk (i32 (i + 1)) (chk (inb (i + 1) L) (chk (i32 (i + 2)) (chk (inb (i + 2) L) (bndN (f_M_input δ ((sv xs (i + 1))) ((sv xs (i + 2)))) fun r52 δ53 =>
  chk (i32 (i + 6)) (f_law xs L n γ48 δ53 w49 (i + 6)))))))))))
  else if (iand (sv xs (i)) 15) = 5 then
  (chk (i32 (i + 1)) (chk (inb (i + 1) L) (bndW (e_L_tick γ w ((sv xs (i + 1)))) fun r57 γ58 w59 =>
  chk (i32 (i + 1)) (chk (inb (i + 1) L) (bndN (f_M_tick δ ((sv xs (i + 1)))) fun r61 δ62 =>
  chk (i32 (i + 6)) (f_law xs L n γ58 δ62 w59 (i + 6)))))))
  else if (iand (sv xs (i)) 15) = 6 then
  (chk (i32 (i + 1)) (chk (inb (i + 1) L) (bndW (e_L_value γ w ((sv xs (i + 1)))) fun r66 γ67 w68 =>
  chk (i32 (i + 1)) (chk (inb (i + 1) L) (bndN (f_M_value δ ((sv xs (i + 1)))) fun r70 δ71 =>
  chk (i32 (i + 6)) (f_law xs L n γ67 δ71 w68 (i + 6)))))))
  else if (iand (sv xs (i)) 15) = 7 then
  (chk (i32 (i + 1)) (chk (inb (i + 1) L) (chk (i32 (i + 2)) (chk (inb (i + 2) L) (bndW (e_L_about γ w ((sv xs (i + 1))) ((sv xs (i + 2)))) fun r76 γ77 w78 =>
  chk (i32 (i + 1)) (chk (inb (i + 1) L) (chk (i32 (i + 2)) (chk (inb (i + 2) L) (bndN (f_M_about δ ((sv xs (i + 1))) ((sv xs (i + 2)))) fun r81 δ82 =>
  chk (i32 (i + 6)) (f_law xs L n γ77 δ82 w78 (i + 6)))))))))))
  else if (iand (sv xs (i)) 15) = 8 then
  (chk (i32 (i + 1)) (chk (inb (i + 1) L) (chk (i32 (i + 2)) (chk (inb (i + 2) L) (bndW (e_L_causes γ w ((sv xs (i + 1))) ((sv xs (i + 2)))) fun r87 γ88 w89 =>
  chk (i32 (i + 1)) (chk (inb (i + 1) L) (chk (i32 (i + 2)) (chk (inb (i + 2) L) (bndN (f_M_causes_1 δ ((sv xs (i + 1))) ((sv xs (i + 2)))) fun r92 δ93 =>
  chk (i32 (i + 6)) (f_law xs L n γ88 δ93 w89 (i + 6)))))))))))
  else if (iand (sv xs (i)) 15) = 9 then
  (bndW (e_L_restart γ w ) fun r96 γ97 w98 =>
  bndN (f_M_restart δ ) fun r99 δ100 =>
  chk (i32 (i + 6)) (f_law xs L n γ97 δ100 w98 (i + 6)))
  else if (iand (sv xs (i)) 15) = 10 then
  (bndW (e_L_keep γ w ) fun r103 γ104 w105 =>
  bndN (f_M_keep δ ) fun _ δ107 =>
  chk (i32 (i + 6)) (f_law xs L n γ104 δ107 w105 (i + 6)))
  else if (iand (sv xs (i)) 15) = 11 then
  (bndW (e_L_back γ w ) fun r110 γ111 w112 =>
  bndN (f_M_back δ ) fun r113 δ114 =>
  chk (i32 (i + 6)) (f_law xs L n γ111 δ114 w112 (i + 6)))
  else if (iand (sv xs (i)) 15) = 12 then
  (chk (i32 (i + 1)) (chk (inb (i + 1) L) (bndN (f_S_count γ ((sv xs (i + 1)))) fun r118 γ119 =>
  chk (i32 (i + 1)) (chk (inb (i + 1) L) (bndN (f_M_count δ ((sv xs (i + 1)))) fun r121 δ122 =>
  chk (i32 (i + 6)) (f_law xs L n γ119 δ122 w (i + 6)))))))
  else (chk (i32 (i + 6)) (f_law xs L n γ δ w (i + 6))))))
set_option maxHeartbeats 8000000 in
theorem s_law {Γ : Ctx} (hno : Γ.l.stackTraces = false) {b L : Nat} {xs : Nat → Int32} (hL : L ≤ 3072) : ∀ (n : Nat) (γ δ : St) (w i : Int) (ce sl : Nat), i32 i → ce + 2 * n ≤ 601024 → sl + 40 * n ≤ 7293034 → SL Γ (b, L, xs) mt_L_law room_1 ce sl KW 23 [(4, vI i), (0, .ref b), (1, vR Γ 0), (2, vR Γ 88), (3, vR Γ 147)] [] (cmb γ δ w) (f_law xs L n γ δ w i) := by
  have hLi : i32 (L : Int) := by omega
  have hrc : room_1.cells = 601024 := rfl
  have hrs : room_1.slots = 7293034 := rfl
  intro n
  induction n with
  | zero => intros; exact sm_none
  | succ n ih =>
    intro γ δ w i ce sl hi hce hsl
    unfold f_law
    refine sm_iload 0 d_L_law_23 rfl ?_
    refine sm_aload_n 1 d_L_law_25 rfl ?_
    refine sm_slen d_L_law_26 ?_
    refine sm_bipush d_L_law_27 (by decide) ?_
    refine sm_isub d_L_law_29 ?_
    refine sm_chk (fun c1 => ?_)
    refine sm_icmp_gt 530 hi c1 d_L_law_30 (by decide) (fun _ => ?_) (fun _ => ?_)
    · refine sm_iconst d_L_law_530 ?_
      exact sm_end d_L_law_531
    · refine sm_aload_n 1 d_L_law_33 rfl ?_
      refine sm_iload 0 d_L_law_34 rfl ?_
      refine sm_sld hL d_L_law_36 ?_
      refine sm_bipush d_L_law_37 (by decide) ?_
      refine sm_iand d_L_law_39 ?_
      refine sm_tc (off := 68) 0 108 (iand_b _ _) d_L_law_40 (by decide) (by decide) (fun _ => ?_) (fun n21 => ?_)
      · refine sm_aload_n 2 d_L_law_108 rfl ?_
        refine sm_aload_n 1 d_L_law_109 rfl ?_
        refine sm_iload 0 d_L_law_110 rfl ?_
        refine sm_iconst d_L_law_112 ?_
        refine sm_iadd d_L_law_113 ?_
        refine sm_chk (fun c2 => ?_)
        refine sm_sld hL d_L_law_114 ?_
        refine sm_aload_n 1 d_L_law_115 rfl ?_
        refine sm_iload 0 d_L_law_116 rfl ?_
        refine sm_iconst d_L_law_118 ?_
        refine sm_iadd d_L_law_119 ?_
        refine sm_chk (fun c3 => ?_)
        refine sm_sld hL d_L_law_120 ?_
        refine sm_aload_n 1 d_L_law_121 rfl ?_
        refine sm_iload 0 d_L_law_122 rfl ?_
        refine sm_iconst d_L_law_124 ?_
        refine sm_iadd d_L_law_125 ?_
        refine sm_chk (fun c4 => ?_)
        refine sm_sld hL d_L_law_126 ?_
        refine sm_aload_n 1 d_L_law_127 rfl ?_
        refine sm_iload 0 d_L_law_128 rfl ?_
        refine sm_iconst d_L_law_130 ?_
        refine sm_iadd d_L_law_131 ?_
        refine sm_chk (fun c5 => ?_)
        refine sm_sld hL d_L_law_132 ?_
        refine sm_aload_n 1 d_L_law_133 rfl ?_
        refine sm_iload 0 d_L_law_134 rfl ?_
        refine sm_iconst d_L_law_136 ?_
        refine sm_iadd d_L_law_137 ?_
        refine sm_chk (fun c6 => ?_)
        refine sm_sld hL d_L_law_138 ?_
        refine sm_aload_n 4 d_L_law_139 rfl ?_
        refine sm_HH (h_L_feed hno γ δ w ((sv xs (i + 1))) ((sv xs (i + 2))) ((sv xs (i + 3))) ((sv xs (i + 4))) ((sv xs (i + 5))) (sv_b _ _) (sv_b _ _) (sv_b _ _) (sv_b _ _) (sv_b _ _)) (ef_L_feed γ δ w ((sv xs (i + 1))) ((sv xs (i + 2))) ((sv xs (i + 3))) ((sv xs (i + 4))) ((sv xs (i + 5)))) cw_L_feed ml_L_55 sm_L_feed in_L (n := 7) (by decide +kernel) (As := [vR Γ 0, vI (sv xs (i + 1)), vI (sv xs (i + 2)), vI (sv xs (i + 3)), vI (sv xs (i + 4)), vI (sv xs (i + 5)), vR Γ 147]) rfl rfl (Nat.le_of_ble_eq_true rfl) ⟨by decide, by decide⟩ ⟨by omega, by omega⟩ d_L_law_140 (fun r7 γ8 w9 hr7 => ?_)
        refine sm_istore [(5, vI r7), (4, vI i), (0, .ref b), (1, vR Γ 0), (2, vR Γ 88), (3, vR Γ 147)] d_L_law_143 (by decide) rfl ?_
        refine sm_aload_n 4 d_L_law_145 rfl ?_
        refine sm_aload_n 2 d_L_law_146 rfl ?_
        refine sm_iload 1 d_L_law_147 rfl ?_
        refine sm_iconst d_L_law_149 ?_
        refine sm_iadd d_L_law_150 ?_
        refine sm_chk (fun c10 => ?_)
        refine sm_sld hL d_L_law_151 ?_
        refine sm_aload_n 2 d_L_law_152 rfl ?_
        refine sm_iload 1 d_L_law_153 rfl ?_
        refine sm_iconst d_L_law_155 ?_
        refine sm_iadd d_L_law_156 ?_
        refine sm_chk (fun c11 => ?_)
        refine sm_sld hL d_L_law_157 ?_
        refine sm_aload_n 2 d_L_law_158 rfl ?_
        refine sm_iload 1 d_L_law_159 rfl ?_
        refine sm_iconst d_L_law_161 ?_
        refine sm_iadd d_L_law_162 ?_
        refine sm_chk (fun c12 => ?_)
        refine sm_sld hL d_L_law_163 ?_
        refine sm_aload_n 2 d_L_law_164 rfl ?_
        refine sm_iload 1 d_L_law_165 rfl ?_
        refine sm_iconst d_L_law_167 ?_
        refine sm_iadd d_L_law_168 ?_
        refine sm_chk (fun c13 => ?_)
        refine sm_sld hL d_L_law_169 ?_
        refine sm_aload_n 2 d_L_law_170 rfl ?_
        refine sm_iload 1 d_L_law_171 rfl ?_
        refine sm_iconst d_L_law_173 ?_
        refine sm_iadd d_L_law_174 ?_
        refine sm_chk (fun c14 => ?_)
        refine sm_sld hL d_L_law_175 ?_
        refine sm_VMi vf_M_feed (c_M_feed δ ((sv xs (i + 1))) ((sv xs (i + 2))) ((sv xs (i + 3))) ((sv xs (i + 4))) ((sv xs (i + 5))) (sv_b _ _) (sv_b _ _) (sv_b _ _) (sv_b _ _) (sv_b _ _)) ml_L_60 (As := [vI (sv xs (i + 1)), vI (sv xs (i + 2)), vI (sv xs (i + 3)), vI (sv xs (i + 4)), vI (sv xs (i + 5))]) rfl rfl (Nat.le_of_ble_eq_true rfl) ⟨by decide, by decide⟩ d_L_law_176 (fun r15 δ16 hr15 => ?_)
        refine sm_istore [(6, vI r15), (5, vI r7), (4, vI i), (0, .ref b), (1, vR Γ 0), (2, vR Γ 88), (3, vR Γ 147)] d_L_law_179 (by decide) rfl ?_
        refine sm_aload_n 5 d_L_law_181 rfl ?_
        refine sm_VMi vf_M_thrown (c_M_thrown δ16  ) ml_L_61 (As := []) rfl rfl (Nat.le_of_ble_eq_true rfl) ⟨by decide, by decide⟩ d_L_law_182 (fun r17 δ18 hr17 => ?_)
        refine sm_iload 1 d_L_law_185 rfl ?_
        refine sm_icmp_eq 192 hr17 hr7 d_L_law_187 (by decide) (fun _ => ?_) (fun _ => ?_)
        · refine sm_iload 1 d_L_law_192 rfl ?_
          refine sm_if_ne 209 hr7 d_L_law_194 (by decide) (fun _ => ?_) (fun _ => ?_)
          · refine sm_goto 524 d_L_law_209 (by decide) ?_
            refine sm_iinc 2 [(4, vI (i + 6)), (6, vI r15), (5, vI r7), (0, .ref b), (1, vR Γ 0), (2, vR Γ 88), (3, vR Γ 147)] d_L_law_524 rfl (by decide) rfl ?_
            refine sm_chk (fun c19 => ?_)
            refine sm_goto 23 d_L_law_527 (by decide) ?_
            exact sm_lv [0, 3, 4, 5, 6] rfl (ih γ8 δ18 w9 (i + 6) _ _ c19 (by omega) (by omega))
          · refine sm_aload_n 6 d_L_law_197 rfl ?_
            refine sm_iconst d_L_law_198 ?_
            refine sm_ol d_L_law_199 ?_
            refine sm_iload 0 d_L_law_200 rfl ?_
            refine sm_i2l hr15 d_L_law_202 ?_
            refine sm_leq 209 d_L_law_203 d_L_law_204 (by decide) ?_ ?_
            · refine sm_goto 524 d_L_law_209 (by decide) ?_
              refine sm_iinc 2 [(4, vI (i + 6)), (6, vI r15), (5, vI r7), (0, .ref b), (1, vR Γ 0), (2, vR Γ 88), (3, vR Γ 147)] d_L_law_524 rfl (by decide) rfl ?_
              refine sm_chk (fun c20 => ?_)
              refine sm_goto 23 d_L_law_527 (by decide) ?_
              exact sm_lv [0, 3, 4, 5, 6] rfl (ih γ8 δ18 w9 (i + 6) _ _ c20 (by omega) (by omega))
            · exact sm_none
        · exact sm_none
      refine sm_tc (off := 172) 1 212 (iand_b _ _) d_L_law_40 (by decide) (by decide) (fun _ => ?_) (fun n30 => ?_)
      · refine sm_aload_n 2 d_L_law_212 rfl ?_
        refine sm_aload_n 1 d_L_law_213 rfl ?_
        refine sm_iload 0 d_L_law_214 rfl ?_
        refine sm_iconst d_L_law_216 ?_
        refine sm_iadd d_L_law_217 ?_
        refine sm_chk (fun c22 => ?_)
        refine sm_sld hL d_L_law_218 ?_
        refine sm_aload_n 4 d_L_law_219 rfl ?_
        refine sm_HH (h_L_end hno γ δ w ((sv xs (i + 1))) (sv_b _ _)) (ef_L_end γ δ w ((sv xs (i + 1)))) cw_L_end ml_L_64 sm_L_end in_L (n := 3) (by decide +kernel) (As := [vR Γ 0, vI (sv xs (i + 1)), vR Γ 147]) rfl rfl (Nat.le_of_ble_eq_true rfl) ⟨by decide, by decide⟩ ⟨by omega, by omega⟩ d_L_law_220 (fun r23 γ24 w25 hr23 => ?_)
        refine sm_istore [(5, vI r23), (4, vI i), (0, .ref b), (1, vR Γ 0), (2, vR Γ 88), (3, vR Γ 147)] d_L_law_223 (by decide) rfl ?_
        refine sm_aload_n 4 d_L_law_225 rfl ?_
        refine sm_aload_n 2 d_L_law_226 rfl ?_
        refine sm_iload 1 d_L_law_227 rfl ?_
        refine sm_iconst d_L_law_229 ?_
        refine sm_iadd d_L_law_230 ?_
        refine sm_chk (fun c26 => ?_)
        refine sm_sld hL d_L_law_231 ?_
        refine sm_VMi vf_M_end (c_M_end δ ((sv xs (i + 1))) (sv_b _ _)) ml_L_67 (As := [vI (sv xs (i + 1))]) rfl rfl (Nat.le_of_ble_eq_true rfl) ⟨by decide, by decide⟩ d_L_law_232 (fun r27 δ28 hr27 => ?_)
        refine sm_istore [(6, vI r27), (5, vI r23), (4, vI i), (0, .ref b), (1, vR Γ 0), (2, vR Γ 88), (3, vR Γ 147)] d_L_law_235 (by decide) rfl ?_
        refine sm_goto 524 d_L_law_237 (by decide) ?_
        refine sm_iinc 2 [(4, vI (i + 6)), (6, vI r27), (5, vI r23), (0, .ref b), (1, vR Γ 0), (2, vR Γ 88), (3, vR Γ 147)] d_L_law_524 rfl (by decide) rfl ?_
        refine sm_chk (fun c29 => ?_)
        refine sm_goto 23 d_L_law_527 (by decide) ?_
        exact sm_lv [0, 3, 4, 5, 6] rfl (ih γ24 δ28 w25 (i + 6) _ _ c29 (by omega) (by omega))
      refine sm_tc (off := 200) 2 240 (iand_b _ _) d_L_law_40 (by decide) (by decide) (fun _ => ?_) (fun n36 => ?_)
      · refine sm_aload_n 2 d_L_law_240 rfl ?_
        refine sm_VSi vf_S_read (c_S_read γ  ) ml_L_68 (As := []) rfl rfl (Nat.le_of_ble_eq_true rfl) ⟨by decide, by decide⟩ d_L_law_241 (fun r31 γ32 hr31 => ?_)
        refine sm_pop d_L_law_244 rfl ?_
        refine sm_aload_n 3 d_L_law_245 rfl ?_
        refine sm_RM ml_L_71 rfl (Nat.le_of_ble_eq_true rfl) ⟨by decide, by decide⟩ ⟨by omega, by omega⟩ d_L_law_246 (fun r33 δ34 hr33 => ?_)
        refine sm_pop d_L_law_249 rfl ?_
        refine sm_goto 524 d_L_law_250 (by decide) ?_
        refine sm_iinc 0 [(4, vI (i + 6)), (0, .ref b), (1, vR Γ 0), (2, vR Γ 88), (3, vR Γ 147)] d_L_law_524 rfl (by decide) rfl ?_
        refine sm_chk (fun c35 => ?_)
        refine sm_goto 23 d_L_law_527 (by decide) ?_
        exact sm_lv [0, 1, 2, 3, 4] rfl (ih γ32 δ34 w (i + 6) _ _ c35 (by omega) (by omega))
      refine sm_tc (off := 213) 3 253 (iand_b _ _) d_L_law_40 (by decide) (by decide) (fun _ => ?_) (fun n44 => ?_)
      · refine sm_aload_n 2 d_L_law_253 rfl ?_
        refine sm_aload_n 1 d_L_law_254 rfl ?_
        refine sm_iload 0 d_L_law_255 rfl ?_
        refine sm_iconst d_L_law_257 ?_
        refine sm_iadd d_L_law_258 ?_
        refine sm_chk (fun c37 => ?_)
        refine sm_sld hL d_L_law_259 ?_
        refine sm_VSi vf_S_fault (c_S_fault γ ((sv xs (i + 1))) (sv_b _ _)) ml_L_72 (As := [vI (sv xs (i + 1))]) rfl rfl (Nat.le_of_ble_eq_true rfl) ⟨by decide, by decide⟩ d_L_law_260 (fun r38 γ39 hr38 => ?_)
        refine sm_pop d_L_law_263 rfl ?_
        refine sm_aload_n 3 d_L_law_264 rfl ?_
        refine sm_aload_n 1 d_L_law_265 rfl ?_
        refine sm_iload 0 d_L_law_266 rfl ?_
        refine sm_iconst d_L_law_268 ?_
        refine sm_iadd d_L_law_269 ?_
        refine sm_chk (fun c40 => ?_)
        refine sm_sld hL d_L_law_270 ?_
        refine sm_VMi vf_M_fault (c_M_fault δ ((sv xs (i + 1))) (sv_b _ _)) ml_L_75 (As := [vI (sv xs (i + 1))]) rfl rfl (Nat.le_of_ble_eq_true rfl) ⟨by decide, by decide⟩ d_L_law_271 (fun r41 δ42 hr41 => ?_)
        refine sm_pop d_L_law_274 rfl ?_
        refine sm_goto 524 d_L_law_275 (by decide) ?_
        refine sm_iinc 0 [(4, vI (i + 6)), (0, .ref b), (1, vR Γ 0), (2, vR Γ 88), (3, vR Γ 147)] d_L_law_524 rfl (by decide) rfl ?_
        refine sm_chk (fun c43 => ?_)
        refine sm_goto 23 d_L_law_527 (by decide) ?_
        exact sm_lv [0, 1, 2, 3, 4] rfl (ih γ39 δ42 w (i + 6) _ _ c43 (by omega) (by omega))
      refine sm_tc (off := 238) 4 278 (iand_b _ _) d_L_law_40 (by decide) (by decide) (fun _ => ?_) (fun n55 => ?_)
      · refine sm_aload_n 2 d_L_law_278 rfl ?_
        refine sm_aload_n 1 d_L_law_279 rfl ?_
        refine sm_iload 0 d_L_law_280 rfl ?_
        refine sm_iconst d_L_law_282 ?_
        refine sm_iadd d_L_law_283 ?_
        refine sm_chk (fun c45 => ?_)
        refine sm_sld hL d_L_law_284 ?_
        refine sm_aload_n 1 d_L_law_285 rfl ?_
        refine sm_iload 0 d_L_law_286 rfl ?_
        refine sm_iconst d_L_law_288 ?_
        refine sm_iadd d_L_law_289 ?_
        refine sm_chk (fun c46 => ?_)
        refine sm_sld hL d_L_law_290 ?_
        refine sm_aload_n 4 d_L_law_291 rfl ?_
        refine sm_HH (h_L_input hno γ δ w ((sv xs (i + 1))) ((sv xs (i + 2))) (sv_b _ _) (sv_b _ _)) (ef_L_input γ δ w ((sv xs (i + 1))) ((sv xs (i + 2)))) cw_L_input ml_L_76 sm_L_input in_L (n := 4) (by decide +kernel) (As := [vR Γ 0, vI (sv xs (i + 1)), vI (sv xs (i + 2)), vR Γ 147]) rfl rfl (Nat.le_of_ble_eq_true rfl) ⟨by decide, by decide⟩ ⟨by omega, by omega⟩ d_L_law_292 (fun r47 γ48 w49 hr47 => ?_)
        refine sm_istore [(5, vI r47), (4, vI i), (0, .ref b), (1, vR Γ 0), (2, vR Γ 88), (3, vR Γ 147)] d_L_law_295 (by decide) rfl ?_
        refine sm_aload_n 4 d_L_law_297 rfl ?_
        refine sm_aload_n 2 d_L_law_298 rfl ?_
        refine sm_iload 1 d_L_law_299 rfl ?_
        refine sm_iconst d_L_law_301 ?_
        refine sm_iadd d_L_law_302 ?_
        refine sm_chk (fun c50 => ?_)
        refine sm_sld hL d_L_law_303 ?_
        refine sm_aload_n 2 d_L_law_304 rfl ?_
        refine sm_iload 1 d_L_law_305 rfl ?_
        refine sm_iconst d_L_law_307 ?_
        refine sm_iadd d_L_law_308 ?_
        refine sm_chk (fun c51 => ?_)
        refine sm_sld hL d_L_law_309 ?_
        refine sm_VMi vf_M_input (c_M_input δ ((sv xs (i + 1))) ((sv xs (i + 2))) (sv_b _ _) (sv_b _ _)) ml_L_79 (As := [vI (sv xs (i + 1)), vI (sv xs (i + 2))]) rfl rfl (Nat.le_of_ble_eq_true rfl) ⟨by decide, by decide⟩ d_L_law_310 (fun r52 δ53 hr52 => ?_)
        refine sm_istore [(6, vI r52), (5, vI r47), (4, vI i), (0, .ref b), (1, vR Γ 0), (2, vR Γ 88), (3, vR Γ 147)] d_L_law_313 (by decide) rfl ?_
        refine sm_goto 524 d_L_law_315 (by decide) ?_
        refine sm_iinc 2 [(4, vI (i + 6)), (6, vI r52), (5, vI r47), (0, .ref b), (1, vR Γ 0), (2, vR Γ 88), (3, vR Γ 147)] d_L_law_524 rfl (by decide) rfl ?_
        refine sm_chk (fun c54 => ?_)
        refine sm_goto 23 d_L_law_527 (by decide) ?_
        exact sm_lv [0, 3, 4, 5, 6] rfl (ih γ48 δ53 w49 (i + 6) _ _ c54 (by omega) (by omega))
      refine sm_tc (off := 278) 5 318 (iand_b _ _) d_L_law_40 (by decide) (by decide) (fun _ => ?_) (fun n64 => ?_)
      · refine sm_aload_n 2 d_L_law_318 rfl ?_
        refine sm_aload_n 1 d_L_law_319 rfl ?_
        refine sm_iload 0 d_L_law_320 rfl ?_
        refine sm_iconst d_L_law_322 ?_
        refine sm_iadd d_L_law_323 ?_
        refine sm_chk (fun c56 => ?_)
        refine sm_sld hL d_L_law_324 ?_
        refine sm_aload_n 4 d_L_law_325 rfl ?_
        refine sm_HH (h_L_tick hno γ δ w ((sv xs (i + 1))) (sv_b _ _)) (ef_L_tick γ δ w ((sv xs (i + 1)))) cw_L_tick ml_L_80 sm_L_tick in_L (n := 3) (by decide +kernel) (As := [vR Γ 0, vI (sv xs (i + 1)), vR Γ 147]) rfl rfl (Nat.le_of_ble_eq_true rfl) ⟨by decide, by decide⟩ ⟨by omega, by omega⟩ d_L_law_326 (fun r57 γ58 w59 hr57 => ?_)
        refine sm_istore [(5, vI r57), (4, vI i), (0, .ref b), (1, vR Γ 0), (2, vR Γ 88), (3, vR Γ 147)] d_L_law_329 (by decide) rfl ?_
        refine sm_aload_n 4 d_L_law_331 rfl ?_
        refine sm_aload_n 2 d_L_law_332 rfl ?_
        refine sm_iload 1 d_L_law_333 rfl ?_
        refine sm_iconst d_L_law_335 ?_
        refine sm_iadd d_L_law_336 ?_
        refine sm_chk (fun c60 => ?_)
        refine sm_sld hL d_L_law_337 ?_
        refine sm_VMi vf_M_tick (c_M_tick δ ((sv xs (i + 1))) (sv_b _ _)) ml_L_82 (As := [vI (sv xs (i + 1))]) rfl rfl (Nat.le_of_ble_eq_true rfl) ⟨by decide, by decide⟩ d_L_law_338 (fun r61 δ62 hr61 => ?_)
        refine sm_istore [(6, vI r61), (5, vI r57), (4, vI i), (0, .ref b), (1, vR Γ 0), (2, vR Γ 88), (3, vR Γ 147)] d_L_law_341 (by decide) rfl ?_
        refine sm_goto 524 d_L_law_343 (by decide) ?_
        refine sm_iinc 2 [(4, vI (i + 6)), (6, vI r61), (5, vI r57), (0, .ref b), (1, vR Γ 0), (2, vR Γ 88), (3, vR Γ 147)] d_L_law_524 rfl (by decide) rfl ?_
        refine sm_chk (fun c63 => ?_)
        refine sm_goto 23 d_L_law_527 (by decide) ?_
        exact sm_lv [0, 3, 4, 5, 6] rfl (ih γ58 δ62 w59 (i + 6) _ _ c63 (by omega) (by omega))
      refine sm_tc (off := 306) 6 346 (iand_b _ _) d_L_law_40 (by decide) (by decide) (fun _ => ?_) (fun n73 => ?_)
      · refine sm_aload_n 2 d_L_law_346 rfl ?_
        refine sm_aload_n 1 d_L_law_347 rfl ?_
        refine sm_iload 0 d_L_law_348 rfl ?_
        refine sm_iconst d_L_law_350 ?_
        refine sm_iadd d_L_law_351 ?_
        refine sm_chk (fun c65 => ?_)
        refine sm_sld hL d_L_law_352 ?_
        refine sm_aload_n 4 d_L_law_353 rfl ?_
        refine sm_HH (h_L_value hno γ δ w ((sv xs (i + 1))) (sv_b _ _)) (ef_L_value γ δ w ((sv xs (i + 1)))) cw_L_value ml_L_83 sm_L_value in_L (n := 3) (by decide +kernel) (As := [vR Γ 0, vI (sv xs (i + 1)), vR Γ 147]) rfl rfl (Nat.le_of_ble_eq_true rfl) ⟨by decide, by decide⟩ ⟨by omega, by omega⟩ d_L_law_354 (fun r66 γ67 w68 hr66 => ?_)
        refine sm_istore [(5, vI r66), (4, vI i), (0, .ref b), (1, vR Γ 0), (2, vR Γ 88), (3, vR Γ 147)] d_L_law_357 (by decide) rfl ?_
        refine sm_aload_n 4 d_L_law_359 rfl ?_
        refine sm_aload_n 2 d_L_law_360 rfl ?_
        refine sm_iload 1 d_L_law_361 rfl ?_
        refine sm_iconst d_L_law_363 ?_
        refine sm_iadd d_L_law_364 ?_
        refine sm_chk (fun c69 => ?_)
        refine sm_sld hL d_L_law_365 ?_
        refine sm_VMl vf_M_value (c_M_value δ ((sv xs (i + 1))) (sv_b _ _)) ml_L_85 (As := [vI (sv xs (i + 1))]) rfl rfl (Nat.le_of_ble_eq_true rfl) ⟨by decide, by decide⟩ d_L_law_366 (fun r70 δ71 => ?_)
        refine sm_lstore [(6, .long (iL r70)), (5, vI r66), (4, vI i), (0, .ref b), (1, vR Γ 0), (2, vR Γ 88), (3, vR Γ 147)] d_L_law_369 (by decide) rfl ?_
        refine sm_goto 524 d_L_law_371 (by decide) ?_
        refine sm_iinc 2 [(4, vI (i + 6)), (6, .long (iL r70)), (5, vI r66), (0, .ref b), (1, vR Γ 0), (2, vR Γ 88), (3, vR Γ 147)] d_L_law_524 rfl (by decide) rfl ?_
        refine sm_chk (fun c72 => ?_)
        refine sm_goto 23 d_L_law_527 (by decide) ?_
        exact sm_lv [0, 3, 4, 5, 6] rfl (ih γ67 δ71 w68 (i + 6) _ _ c72 (by omega) (by omega))
      refine sm_tc (off := 334) 7 374 (iand_b _ _) d_L_law_40 (by decide) (by decide) (fun _ => ?_) (fun n84 => ?_)
      · refine sm_aload_n 2 d_L_law_374 rfl ?_
        refine sm_aload_n 1 d_L_law_375 rfl ?_
        refine sm_iload 0 d_L_law_376 rfl ?_
        refine sm_iconst d_L_law_378 ?_
        refine sm_iadd d_L_law_379 ?_
        refine sm_chk (fun c74 => ?_)
        refine sm_sld hL d_L_law_380 ?_
        refine sm_aload_n 1 d_L_law_381 rfl ?_
        refine sm_iload 0 d_L_law_382 rfl ?_
        refine sm_iconst d_L_law_384 ?_
        refine sm_iadd d_L_law_385 ?_
        refine sm_chk (fun c75 => ?_)
        refine sm_sld hL d_L_law_386 ?_
        refine sm_aload_n 4 d_L_law_387 rfl ?_
        refine sm_HH (h_L_about hno γ δ w ((sv xs (i + 1))) ((sv xs (i + 2))) (sv_b _ _) (sv_b _ _)) (ef_L_about γ δ w ((sv xs (i + 1))) ((sv xs (i + 2)))) cw_L_about ml_L_86 sm_L_about in_L (n := 4) (by decide +kernel) (As := [vR Γ 0, vI (sv xs (i + 1)), vI (sv xs (i + 2)), vR Γ 147]) rfl rfl (Nat.le_of_ble_eq_true rfl) ⟨by decide, by decide⟩ ⟨by omega, by omega⟩ d_L_law_388 (fun r76 γ77 w78 hr76 => ?_)
        refine sm_istore [(5, vI r76), (4, vI i), (0, .ref b), (1, vR Γ 0), (2, vR Γ 88), (3, vR Γ 147)] d_L_law_391 (by decide) rfl ?_
        refine sm_aload_n 4 d_L_law_393 rfl ?_
        refine sm_aload_n 2 d_L_law_394 rfl ?_
        refine sm_iload 1 d_L_law_395 rfl ?_
        refine sm_iconst d_L_law_397 ?_
        refine sm_iadd d_L_law_398 ?_
        refine sm_chk (fun c79 => ?_)
        refine sm_sld hL d_L_law_399 ?_
        refine sm_aload_n 2 d_L_law_400 rfl ?_
        refine sm_iload 1 d_L_law_401 rfl ?_
        refine sm_iconst d_L_law_403 ?_
        refine sm_iadd d_L_law_404 ?_
        refine sm_chk (fun c80 => ?_)
        refine sm_sld hL d_L_law_405 ?_
        refine sm_VMi vf_M_about (c_M_about δ ((sv xs (i + 1))) ((sv xs (i + 2))) (sv_b _ _) (sv_b _ _)) ml_L_88 (As := [vI (sv xs (i + 1)), vI (sv xs (i + 2))]) rfl rfl (Nat.le_of_ble_eq_true rfl) ⟨by decide, by decide⟩ d_L_law_406 (fun r81 δ82 hr81 => ?_)
        refine sm_istore [(6, vI r81), (5, vI r76), (4, vI i), (0, .ref b), (1, vR Γ 0), (2, vR Γ 88), (3, vR Γ 147)] d_L_law_409 (by decide) rfl ?_
        refine sm_goto 524 d_L_law_411 (by decide) ?_
        refine sm_iinc 2 [(4, vI (i + 6)), (6, vI r81), (5, vI r76), (0, .ref b), (1, vR Γ 0), (2, vR Γ 88), (3, vR Γ 147)] d_L_law_524 rfl (by decide) rfl ?_
        refine sm_chk (fun c83 => ?_)
        refine sm_goto 23 d_L_law_527 (by decide) ?_
        exact sm_lv [0, 3, 4, 5, 6] rfl (ih γ77 δ82 w78 (i + 6) _ _ c83 (by omega) (by omega))
      refine sm_tc (off := 374) 8 414 (iand_b _ _) d_L_law_40 (by decide) (by decide) (fun _ => ?_) (fun n95 => ?_)
      · refine sm_aload_n 2 d_L_law_414 rfl ?_
        refine sm_aload_n 1 d_L_law_415 rfl ?_
        refine sm_iload 0 d_L_law_416 rfl ?_
        refine sm_iconst d_L_law_418 ?_
        refine sm_iadd d_L_law_419 ?_
        refine sm_chk (fun c85 => ?_)
        refine sm_sld hL d_L_law_420 ?_
        refine sm_aload_n 1 d_L_law_421 rfl ?_
        refine sm_iload 0 d_L_law_422 rfl ?_
        refine sm_iconst d_L_law_424 ?_
        refine sm_iadd d_L_law_425 ?_
        refine sm_chk (fun c86 => ?_)
        refine sm_sld hL d_L_law_426 ?_
        refine sm_aload_n 4 d_L_law_427 rfl ?_
        refine sm_HH (h_L_causes hno γ δ w ((sv xs (i + 1))) ((sv xs (i + 2))) (sv_b _ _) (sv_b _ _)) (ef_L_causes γ δ w ((sv xs (i + 1))) ((sv xs (i + 2)))) cw_L_causes ml_L_89 sm_L_causes in_L (n := 4) (by decide +kernel) (As := [vR Γ 0, vI (sv xs (i + 1)), vI (sv xs (i + 2)), vR Γ 147]) rfl rfl (Nat.le_of_ble_eq_true rfl) ⟨by decide, by decide⟩ ⟨by omega, by omega⟩ d_L_law_428 (fun r87 γ88 w89 hr87 => ?_)
        refine sm_istore [(5, vI r87), (4, vI i), (0, .ref b), (1, vR Γ 0), (2, vR Γ 88), (3, vR Γ 147)] d_L_law_431 (by decide) rfl ?_
        refine sm_aload_n 4 d_L_law_433 rfl ?_
        refine sm_aload_n 2 d_L_law_434 rfl ?_
        refine sm_iload 1 d_L_law_435 rfl ?_
        refine sm_iconst d_L_law_437 ?_
        refine sm_iadd d_L_law_438 ?_
        refine sm_chk (fun c90 => ?_)
        refine sm_sld hL d_L_law_439 ?_
        refine sm_aload_n 2 d_L_law_440 rfl ?_
        refine sm_iload 1 d_L_law_441 rfl ?_
        refine sm_iconst d_L_law_443 ?_
        refine sm_iadd d_L_law_444 ?_
        refine sm_chk (fun c91 => ?_)
        refine sm_sld hL d_L_law_445 ?_
        refine sm_VMz vf_M_causes_1 (c_M_causes_1 δ ((sv xs (i + 1))) ((sv xs (i + 2))) (sv_b _ _) (sv_b _ _)) ml_L_91 (As := [vI (sv xs (i + 1)), vI (sv xs (i + 2))]) rfl rfl (Nat.le_of_ble_eq_true rfl) ⟨by decide, by decide⟩ d_L_law_446 (fun r92 δ93 hr92 => ?_)
        refine sm_istore [(6, vI r92), (5, vI r87), (4, vI i), (0, .ref b), (1, vR Γ 0), (2, vR Γ 88), (3, vR Γ 147)] d_L_law_449 (by decide) rfl ?_
        refine sm_goto 524 d_L_law_451 (by decide) ?_
        refine sm_iinc 2 [(4, vI (i + 6)), (6, vI r92), (5, vI r87), (0, .ref b), (1, vR Γ 0), (2, vR Γ 88), (3, vR Γ 147)] d_L_law_524 rfl (by decide) rfl ?_
        refine sm_chk (fun c94 => ?_)
        refine sm_goto 23 d_L_law_527 (by decide) ?_
        exact sm_lv [0, 3, 4, 5, 6] rfl (ih γ88 δ93 w89 (i + 6) _ _ c94 (by omega) (by omega))
      refine sm_tc (off := 414) 9 454 (iand_b _ _) d_L_law_40 (by decide) (by decide) (fun _ => ?_) (fun n102 => ?_)
      · refine sm_aload_n 2 d_L_law_454 rfl ?_
        refine sm_aload_n 4 d_L_law_455 rfl ?_
        refine sm_HH (h_L_restart hno γ δ w  ) (ef_L_restart γ δ w ) cw_L_restart ml_L_92 sm_L_restart in_L (n := 2) (by decide +kernel) (As := [vR Γ 0, vR Γ 147]) rfl rfl (Nat.le_of_ble_eq_true rfl) ⟨by decide, by decide⟩ ⟨by omega, by omega⟩ d_L_law_456 (fun r96 γ97 w98 hr96 => ?_)
        refine sm_istore [(5, vI r96), (4, vI i), (0, .ref b), (1, vR Γ 0), (2, vR Γ 88), (3, vR Γ 147)] d_L_law_459 (by decide) rfl ?_
        refine sm_aload_n 4 d_L_law_461 rfl ?_
        refine sm_VMi vf_M_restart (c_M_restart δ  ) ml_L_95 (As := []) rfl rfl (Nat.le_of_ble_eq_true rfl) ⟨by decide, by decide⟩ d_L_law_462 (fun r99 δ100 hr99 => ?_)
        refine sm_istore [(6, vI r99), (5, vI r96), (4, vI i), (0, .ref b), (1, vR Γ 0), (2, vR Γ 88), (3, vR Γ 147)] d_L_law_465 (by decide) rfl ?_
        refine sm_goto 524 d_L_law_467 (by decide) ?_
        refine sm_iinc 2 [(4, vI (i + 6)), (6, vI r99), (5, vI r96), (0, .ref b), (1, vR Γ 0), (2, vR Γ 88), (3, vR Γ 147)] d_L_law_524 rfl (by decide) rfl ?_
        refine sm_chk (fun c101 => ?_)
        refine sm_goto 23 d_L_law_527 (by decide) ?_
        exact sm_lv [0, 3, 4, 5, 6] rfl (ih γ97 δ100 w98 (i + 6) _ _ c101 (by omega) (by omega))
      refine sm_tc (off := 430) 10 470 (iand_b _ _) d_L_law_40 (by decide) (by decide) (fun _ => ?_) (fun n109 => ?_)
      · refine sm_aload_n 2 d_L_law_470 rfl ?_
        refine sm_HH (h_L_keep hno γ δ w  ) (ef_L_keep γ δ w ) cw_L_keep ml_L_96 sm_L_keep in_L (n := 1) (by decide +kernel) (As := [vR Γ 0]) rfl rfl (Nat.le_of_ble_eq_true rfl) ⟨by decide, by decide⟩ ⟨by omega, by omega⟩ d_L_law_471 (fun r103 γ104 w105 hr103 => ?_)
        refine sm_istore [(5, vI r103), (4, vI i), (0, .ref b), (1, vR Γ 0), (2, vR Γ 88), (3, vR Γ 147)] d_L_law_474 (by decide) rfl ?_
        refine sm_aload_n 4 d_L_law_476 rfl ?_
        refine sm_VMv vf_M_keep (c_M_keep δ  ) ml_L_99 (As := []) rfl rfl (Nat.le_of_ble_eq_true rfl) ⟨by decide, by decide⟩ d_L_law_477 (fun _ δ107 => ?_)
        refine sm_goto 524 d_L_law_480 (by decide) ?_
        refine sm_iinc 1 [(4, vI (i + 6)), (5, vI r103), (0, .ref b), (1, vR Γ 0), (2, vR Γ 88), (3, vR Γ 147)] d_L_law_524 rfl (by decide) rfl ?_
        refine sm_chk (fun c108 => ?_)
        refine sm_goto 23 d_L_law_527 (by decide) ?_
        exact sm_lv [0, 2, 3, 4, 5] rfl (ih γ104 δ107 w105 (i + 6) _ _ c108 (by omega) (by omega))
      refine sm_tc (off := 443) 11 483 (iand_b _ _) d_L_law_40 (by decide) (by decide) (fun _ => ?_) (fun n116 => ?_)
      · refine sm_aload_n 2 d_L_law_483 rfl ?_
        refine sm_aload_n 4 d_L_law_484 rfl ?_
        refine sm_HH (h_L_back hno γ δ w  ) (ef_L_back γ δ w ) cw_L_back ml_L_100 sm_L_back in_L (n := 2) (by decide +kernel) (As := [vR Γ 0, vR Γ 147]) rfl rfl (Nat.le_of_ble_eq_true rfl) ⟨by decide, by decide⟩ ⟨by omega, by omega⟩ d_L_law_485 (fun r110 γ111 w112 hr110 => ?_)
        refine sm_istore [(5, vI r110), (4, vI i), (0, .ref b), (1, vR Γ 0), (2, vR Γ 88), (3, vR Γ 147)] d_L_law_488 (by decide) rfl ?_
        refine sm_aload_n 4 d_L_law_490 rfl ?_
        refine sm_VMi vf_M_back (c_M_back δ  ) ml_L_102 (As := []) rfl rfl (Nat.le_of_ble_eq_true rfl) ⟨by decide, by decide⟩ d_L_law_491 (fun r113 δ114 hr113 => ?_)
        refine sm_istore [(6, vI r113), (5, vI r110), (4, vI i), (0, .ref b), (1, vR Γ 0), (2, vR Γ 88), (3, vR Γ 147)] d_L_law_494 (by decide) rfl ?_
        refine sm_goto 524 d_L_law_496 (by decide) ?_
        refine sm_iinc 2 [(4, vI (i + 6)), (6, vI r113), (5, vI r110), (0, .ref b), (1, vR Γ 0), (2, vR Γ 88), (3, vR Γ 147)] d_L_law_524 rfl (by decide) rfl ?_
        refine sm_chk (fun c115 => ?_)
        refine sm_goto 23 d_L_law_527 (by decide) ?_
        exact sm_lv [0, 3, 4, 5, 6] rfl (ih γ111 δ114 w112 (i + 6) _ _ c115 (by omega) (by omega))
      refine sm_tc (off := 459) 12 499 (iand_b _ _) d_L_law_40 (by decide) (by decide) (fun _ => ?_) (fun n124 => ?_)
      · refine sm_aload_n 2 d_L_law_499 rfl ?_
        refine sm_aload_n 1 d_L_law_500 rfl ?_
        refine sm_iload 0 d_L_law_501 rfl ?_
        refine sm_iconst d_L_law_503 ?_
        refine sm_iadd d_L_law_504 ?_
        refine sm_chk (fun c117 => ?_)
        refine sm_sld hL d_L_law_505 ?_
        refine sm_VSi vf_S_count (c_S_count γ ((sv xs (i + 1))) (sv_b _ _)) ml_L_103 (As := [vI (sv xs (i + 1))]) rfl rfl (Nat.le_of_ble_eq_true rfl) ⟨by decide, by decide⟩ d_L_law_506 (fun r118 γ119 hr118 => ?_)
        refine sm_pop d_L_law_509 rfl ?_
        refine sm_aload_n 3 d_L_law_510 rfl ?_
        refine sm_aload_n 1 d_L_law_511 rfl ?_
        refine sm_iload 0 d_L_law_512 rfl ?_
        refine sm_iconst d_L_law_514 ?_
        refine sm_iadd d_L_law_515 ?_
        refine sm_chk (fun c120 => ?_)
        refine sm_sld hL d_L_law_516 ?_
        refine sm_VMi vf_M_count (c_M_count δ ((sv xs (i + 1))) (sv_b _ _)) ml_L_106 (As := [vI (sv xs (i + 1))]) rfl rfl (Nat.le_of_ble_eq_true rfl) ⟨by decide, by decide⟩ d_L_law_517 (fun r121 δ122 hr121 => ?_)
        refine sm_pop d_L_law_520 rfl ?_
        refine sm_goto 524 d_L_law_521 (by decide) ?_
        refine sm_iinc 0 [(4, vI (i + 6)), (0, .ref b), (1, vR Γ 0), (2, vR Γ 88), (3, vR Γ 147)] d_L_law_524 rfl (by decide) rfl ?_
        refine sm_chk (fun c123 => ?_)
        refine sm_goto 23 d_L_law_527 (by decide) ?_
        exact sm_lv [0, 1, 2, 3, 4] rfl (ih γ119 δ122 w (i + 6) _ _ c123 (by omega) (by omega))
      refine sm_td 524 (iand_b _ _) d_L_law_40 (by omega) (by decide) ?_
      refine sm_iinc 0 [(4, vI (i + 6)), (0, .ref b), (1, vR Γ 0), (2, vR Γ 88), (3, vR Γ 147)] d_L_law_524 rfl (by decide) rfl ?_
      refine sm_chk (fun c125 => ?_)
      refine sm_goto 23 d_L_law_527 (by decide) ?_
      exact sm_lv [0, 1, 2, 3, 4] rfl (ih γ δ w (i + 6) _ _ c125 (by omega) (by omega))
