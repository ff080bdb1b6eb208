/-! the law's loop as a function -/
theorem d_L_law_0 : decode code 0 = .ok (.new 8, 3) := by decide +kernel
theorem d_L_law_3 : decode code 3 = .ok (.dup, 1) := by decide +kernel
theorem d_L_law_4 : decode code 4 = .ok (.invokespecial 51, 3) := by decide +kernel
theorem d_L_law_7 : decode code 7 = .ok (.astore_n 1, 1) := by decide +kernel
theorem d_L_law_8 : decode code 8 = .ok (.new 52, 3) := by decide +kernel
theorem d_L_law_11 : decode code 11 = .ok (.dup, 1) := by decide +kernel
theorem d_L_law_12 : decode code 12 = .ok (.invokespecial 54, 3) := by decide +kernel
theorem d_L_law_15 : decode code 15 = .ok (.astore_n 2, 1) := by decide +kernel
theorem d_L_law_16 : decode code 16 = .ok (.iconst 1, 1) := by decide +kernel
theorem d_L_law_17 : decode code 17 = .ok (.newarray .long, 2) := by decide +kernel
theorem d_L_law_19 : decode code 19 = .ok (.astore_n 3, 1) := by decide +kernel
theorem d_L_law_20 : decode code 20 = .ok (.iconst 0, 1) := by decide +kernel
theorem d_L_law_21 : decode code 21 = .ok (.istore 4, 2) := by decide +kernel
theorem d_L_law_23 : decode code 23 = .ok (.iload 4, 2) := by decide +kernel
theorem d_L_law_25 : decode code 25 = .ok (.aload_n 0, 1) := by decide +kernel
theorem d_L_law_26 : decode code 26 = .ok (.arraylength, 1) := by decide +kernel
theorem d_L_law_27 : decode code 27 = .ok (.bipush 6, 2) := by decide +kernel
theorem d_L_law_29 : decode code 29 = .ok (.isub, 1) := by decide +kernel
theorem d_L_law_30 : decode code 30 = .ok (.if_icmp .gt 741, 3) := by decide +kernel
theorem d_L_law_33 : decode code 33 = .ok (.aload_n 0, 1) := by decide +kernel
theorem d_L_law_34 : decode code 34 = .ok (.iload 4, 2) := by decide +kernel
theorem d_L_law_36 : decode code 36 = .ok (.iaload, 1) := by decide +kernel
theorem d_L_law_37 : decode code 37 = .ok (.bipush 15, 2) := by decide +kernel
theorem d_L_law_39 : decode code 39 = .ok (.iand, 1) := by decide +kernel
theorem d_L_law_40 : decode code 40 = .ok (.tableswitch 725 0 12 #[68, 172, 228, 241, 266, 334, 390, 445, 513, 588, 632, 656, 700], 68) := by decide +kernel
theorem d_L_law_108 : decode code 108 = .ok (.aload_n 1, 1) := by decide +kernel
theorem d_L_law_109 : decode code 109 = .ok (.aload_n 0, 1) := by decide +kernel
theorem d_L_law_110 : decode code 110 = .ok (.iload 4, 2) := by decide +kernel
theorem d_L_law_112 : decode code 112 = .ok (.iconst 1, 1) := by decide +kernel
theorem d_L_law_113 : decode code 113 = .ok (.iadd, 1) := by decide +kernel
theorem d_L_law_114 : decode code 114 = .ok (.iaload, 1) := by decide +kernel
theorem d_L_law_115 : decode code 115 = .ok (.aload_n 0, 1) := by decide +kernel
theorem d_L_law_116 : decode code 116 = .ok (.iload 4, 2) := by decide +kernel
theorem d_L_law_118 : decode code 118 = .ok (.iconst 2, 1) := by decide +kernel
theorem d_L_law_119 : decode code 119 = .ok (.iadd, 1) := by decide +kernel
theorem d_L_law_120 : decode code 120 = .ok (.iaload, 1) := by decide +kernel
theorem d_L_law_121 : decode code 121 = .ok (.aload_n 0, 1) := by decide +kernel
theorem d_L_law_122 : decode code 122 = .ok (.iload 4, 2) := by decide +kernel
theorem d_L_law_124 : decode code 124 = .ok (.iconst 3, 1) := by decide +kernel
theorem d_L_law_125 : decode code 125 = .ok (.iadd, 1) := by decide +kernel
theorem d_L_law_126 : decode code 126 = .ok (.iaload, 1) := by decide +kernel
theorem d_L_law_127 : decode code 127 = .ok (.aload_n 0, 1) := by decide +kernel
theorem d_L_law_128 : decode code 128 = .ok (.iload 4, 2) := by decide +kernel
theorem d_L_law_130 : decode code 130 = .ok (.iconst 4, 1) := by decide +kernel
theorem d_L_law_131 : decode code 131 = .ok (.iadd, 1) := by decide +kernel
theorem d_L_law_132 : decode code 132 = .ok (.iaload, 1) := by decide +kernel
theorem d_L_law_133 : decode code 133 = .ok (.aload_n 0, 1) := by decide +kernel
theorem d_L_law_134 : decode code 134 = .ok (.iload 4, 2) := by decide +kernel
theorem d_L_law_136 : decode code 136 = .ok (.iconst 5, 1) := by decide +kernel
theorem d_L_law_137 : decode code 137 = .ok (.iadd, 1) := by decide +kernel
theorem d_L_law_138 : decode code 138 = .ok (.iaload, 1) := by decide +kernel
theorem d_L_law_139 : decode code 139 = .ok (.aload_n 3, 1) := by decide +kernel
theorem d_L_law_140 : decode code 140 = .ok (.invokestatic 55, 3) := by decide +kernel
theorem d_L_law_143 : decode code 143 = .ok (.istore 5, 2) := by decide +kernel
theorem d_L_law_145 : decode code 145 = .ok (.aload_n 2, 1) := by decide +kernel
theorem d_L_law_146 : decode code 146 = .ok (.aload_n 0, 1) := by decide +kernel
theorem d_L_law_147 : decode code 147 = .ok (.iload 4, 2) := by decide +kernel
theorem d_L_law_149 : decode code 149 = .ok (.iconst 1, 1) := by decide +kernel
theorem d_L_law_150 : decode code 150 = .ok (.iadd, 1) := by decide +kernel
theorem d_L_law_151 : decode code 151 = .ok (.iaload, 1) := by decide +kernel
theorem d_L_law_152 : decode code 152 = .ok (.aload_n 0, 1) := by decide +kernel
theorem d_L_law_153 : decode code 153 = .ok (.iload 4, 2) := by decide +kernel
theorem d_L_law_155 : decode code 155 = .ok (.iconst 2, 1) := by decide +kernel
theorem d_L_law_156 : decode code 156 = .ok (.iadd, 1) := by decide +kernel
theorem d_L_law_157 : decode code 157 = .ok (.iaload, 1) := by decide +kernel
theorem d_L_law_158 : decode code 158 = .ok (.aload_n 0, 1) := by decide +kernel
theorem d_L_law_159 : decode code 159 = .ok (.iload 4, 2) := by decide +kernel
theorem d_L_law_161 : decode code 161 = .ok (.iconst 3, 1) := by decide +kernel
theorem d_L_law_162 : decode code 162 = .ok (.iadd, 1) := by decide +kernel
theorem d_L_law_163 : decode code 163 = .ok (.iaload, 1) := by decide +kernel
theorem d_L_law_164 : decode code 164 = .ok (.aload_n 0, 1) := by decide +kernel
theorem d_L_law_165 : decode code 165 = .ok (.iload 4, 2) := by decide +kernel
theorem d_L_law_167 : decode code 167 = .ok (.iconst 4, 1) := by decide +kernel
theorem d_L_law_168 : decode code 168 = .ok (.iadd, 1) := by decide +kernel
theorem d_L_law_169 : decode code 169 = .ok (.iaload, 1) := by decide +kernel
theorem d_L_law_170 : decode code 170 = .ok (.aload_n 0, 1) := by decide +kernel
theorem d_L_law_171 : decode code 171 = .ok (.iload 4, 2) := by decide +kernel
theorem d_L_law_173 : decode code 173 = .ok (.iconst 5, 1) := by decide +kernel
theorem d_L_law_174 : decode code 174 = .ok (.iadd, 1) := by decide +kernel
theorem d_L_law_175 : decode code 175 = .ok (.iaload, 1) := by decide +kernel
theorem d_L_law_176 : decode code 176 = .ok (.invokevirtual 60, 3) := by decide +kernel
theorem d_L_law_179 : decode code 179 = .ok (.istore 6, 2) := by decide +kernel
theorem d_L_law_181 : decode code 181 = .ok (.aload_n 2, 1) := by decide +kernel
theorem d_L_law_182 : decode code 182 = .ok (.invokevirtual 61, 3) := by decide +kernel
theorem d_L_law_185 : decode code 185 = .ok (.iload 5, 2) := by decide +kernel
theorem d_L_law_187 : decode code 187 = .ok (.if_icmp .eq 5, 3) := by decide +kernel
theorem d_L_law_190 : decode code 190 = .ok (.iconst 0, 1) := by decide +kernel
theorem d_L_law_191 : decode code 191 = .ok (.ireturn, 1) := by decide +kernel
theorem d_L_law_192 : decode code 192 = .ok (.iload 5, 2) := by decide +kernel
theorem d_L_law_194 : decode code 194 = .ok (.ifCond .ne 15, 3) := by decide +kernel
theorem d_L_law_197 : decode code 197 = .ok (.aload_n 3, 1) := by decide +kernel
theorem d_L_law_198 : decode code 198 = .ok (.iconst 0, 1) := by decide +kernel
theorem d_L_law_199 : decode code 199 = .ok (.laload, 1) := by decide +kernel
theorem d_L_law_200 : decode code 200 = .ok (.iload 6, 2) := by decide +kernel
theorem d_L_law_202 : decode code 202 = .ok (.i2l, 1) := by decide +kernel
theorem d_L_law_203 : decode code 203 = .ok (.lcmp, 1) := by decide +kernel
theorem d_L_law_204 : decode code 204 = .ok (.ifCond .eq 5, 3) := by decide +kernel
theorem d_L_law_207 : decode code 207 = .ok (.iconst 0, 1) := by decide +kernel
theorem d_L_law_208 : decode code 208 = .ok (.ireturn, 1) := by decide +kernel
theorem d_L_law_209 : decode code 209 = .ok (.goto 556, 3) := by decide +kernel
theorem d_L_law_212 : decode code 212 = .ok (.aload_n 1, 1) := by decide +kernel
theorem d_L_law_213 : decode code 213 = .ok (.aload_n 0, 1) := by decide +kernel
theorem d_L_law_214 : decode code 214 = .ok (.iload 4, 2) := by decide +kernel
theorem d_L_law_216 : decode code 216 = .ok (.iconst 1, 1) := by decide +kernel
theorem d_L_law_217 : decode code 217 = .ok (.iadd, 1) := by decide +kernel
theorem d_L_law_218 : decode code 218 = .ok (.iaload, 1) := by decide +kernel
theorem d_L_law_219 : decode code 219 = .ok (.aload_n 3, 1) := by decide +kernel
theorem d_L_law_220 : decode code 220 = .ok (.invokestatic 64, 3) := by decide +kernel
theorem d_L_law_223 : decode code 223 = .ok (.istore 5, 2) := by decide +kernel
theorem d_L_law_225 : decode code 225 = .ok (.aload_n 2, 1) := by decide +kernel
theorem d_L_law_226 : decode code 226 = .ok (.aload_n 0, 1) := by decide +kernel
theorem d_L_law_227 : decode code 227 = .ok (.iload 4, 2) := by decide +kernel
theorem d_L_law_229 : decode code 229 = .ok (.iconst 1, 1) := by decide +kernel
theorem d_L_law_230 : decode code 230 = .ok (.iadd, 1) := by decide +kernel
theorem d_L_law_231 : decode code 231 = .ok (.iaload, 1) := by decide +kernel
theorem d_L_law_232 : decode code 232 = .ok (.invokevirtual 67, 3) := by decide +kernel
theorem d_L_law_235 : decode code 235 = .ok (.istore 6, 2) := by decide +kernel
theorem d_L_law_237 : decode code 237 = .ok (.aload_n 2, 1) := by decide +kernel
theorem d_L_law_238 : decode code 238 = .ok (.invokevirtual 61, 3) := by decide +kernel
theorem d_L_law_241 : decode code 241 = .ok (.iload 5, 2) := by decide +kernel
theorem d_L_law_243 : decode code 243 = .ok (.if_icmp .eq 5, 3) := by decide +kernel
theorem d_L_law_246 : decode code 246 = .ok (.iconst 0, 1) := by decide +kernel
theorem d_L_law_247 : decode code 247 = .ok (.ireturn, 1) := by decide +kernel
theorem d_L_law_248 : decode code 248 = .ok (.iload 5, 2) := by decide +kernel
theorem d_L_law_250 : decode code 250 = .ok (.ifCond .ne 15, 3) := by decide +kernel
theorem d_L_law_253 : decode code 253 = .ok (.aload_n 3, 1) := by decide +kernel
theorem d_L_law_254 : decode code 254 = .ok (.iconst 0, 1) := by decide +kernel
theorem d_L_law_255 : decode code 255 = .ok (.laload, 1) := by decide +kernel
theorem d_L_law_256 : decode code 256 = .ok (.iload 6, 2) := by decide +kernel
theorem d_L_law_258 : decode code 258 = .ok (.i2l, 1) := by decide +kernel
theorem d_L_law_259 : decode code 259 = .ok (.lcmp, 1) := by decide +kernel
theorem d_L_law_260 : decode code 260 = .ok (.ifCond .eq 5, 3) := by decide +kernel
theorem d_L_law_263 : decode code 263 = .ok (.iconst 0, 1) := by decide +kernel
theorem d_L_law_264 : decode code 264 = .ok (.ireturn, 1) := by decide +kernel
theorem d_L_law_265 : decode code 265 = .ok (.goto 500, 3) := by decide +kernel
theorem d_L_law_268 : decode code 268 = .ok (.aload_n 1, 1) := by decide +kernel
theorem d_L_law_269 : decode code 269 = .ok (.invokevirtual 68, 3) := by decide +kernel
theorem d_L_law_272 : decode code 272 = .ok (.aload_n 2, 1) := by decide +kernel
theorem d_L_law_273 : decode code 273 = .ok (.invokevirtual 71, 3) := by decide +kernel
theorem d_L_law_276 : decode code 276 = .ok (.if_icmp .eq 489, 3) := by decide +kernel
theorem d_L_law_279 : decode code 279 = .ok (.iconst 0, 1) := by decide +kernel
theorem d_L_law_280 : decode code 280 = .ok (.ireturn, 1) := by decide +kernel
theorem d_L_law_281 : decode code 281 = .ok (.aload_n 1, 1) := by decide +kernel
theorem d_L_law_282 : decode code 282 = .ok (.aload_n 0, 1) := by decide +kernel
theorem d_L_law_283 : decode code 283 = .ok (.iload 4, 2) := by decide +kernel
theorem d_L_law_285 : decode code 285 = .ok (.iconst 1, 1) := by decide +kernel
theorem d_L_law_286 : decode code 286 = .ok (.iadd, 1) := by decide +kernel
theorem d_L_law_287 : decode code 287 = .ok (.iaload, 1) := by decide +kernel
theorem d_L_law_288 : decode code 288 = .ok (.invokevirtual 72, 3) := by decide +kernel
theorem d_L_law_291 : decode code 291 = .ok (.aload_n 2, 1) := by decide +kernel
theorem d_L_law_292 : decode code 292 = .ok (.aload_n 0, 1) := by decide +kernel
theorem d_L_law_293 : decode code 293 = .ok (.iload 4, 2) := by decide +kernel
theorem d_L_law_295 : decode code 295 = .ok (.iconst 1, 1) := by decide +kernel
theorem d_L_law_296 : decode code 296 = .ok (.iadd, 1) := by decide +kernel
theorem d_L_law_297 : decode code 297 = .ok (.iaload, 1) := by decide +kernel
theorem d_L_law_298 : decode code 298 = .ok (.invokevirtual 75, 3) := by decide +kernel
theorem d_L_law_301 : decode code 301 = .ok (.if_icmp .eq 464, 3) := by decide +kernel
theorem d_L_law_304 : decode code 304 = .ok (.iconst 0, 1) := by decide +kernel
theorem d_L_law_305 : decode code 305 = .ok (.ireturn, 1) := by decide +kernel
theorem d_L_law_306 : decode code 306 = .ok (.aload_n 1, 1) := by decide +kernel
theorem d_L_law_307 : decode code 307 = .ok (.aload_n 0, 1) := by decide +kernel
theorem d_L_law_308 : decode code 308 = .ok (.iload 4, 2) := by decide +kernel
theorem d_L_law_310 : decode code 310 = .ok (.iconst 1, 1) := by decide +kernel
theorem d_L_law_311 : decode code 311 = .ok (.iadd, 1) := by decide +kernel
theorem d_L_law_312 : decode code 312 = .ok (.iaload, 1) := by decide +kernel
theorem d_L_law_313 : decode code 313 = .ok (.aload_n 0, 1) := by decide +kernel
theorem d_L_law_314 : decode code 314 = .ok (.iload 4, 2) := by decide +kernel
theorem d_L_law_316 : decode code 316 = .ok (.iconst 2, 1) := by decide +kernel
theorem d_L_law_317 : decode code 317 = .ok (.iadd, 1) := by decide +kernel
theorem d_L_law_318 : decode code 318 = .ok (.iaload, 1) := by decide +kernel
theorem d_L_law_319 : decode code 319 = .ok (.aload_n 3, 1) := by decide +kernel
theorem d_L_law_320 : decode code 320 = .ok (.invokestatic 76, 3) := by decide +kernel
theorem d_L_law_323 : decode code 323 = .ok (.istore 5, 2) := by decide +kernel
theorem d_L_law_325 : decode code 325 = .ok (.aload_n 2, 1) := by decide +kernel
theorem d_L_law_326 : decode code 326 = .ok (.aload_n 0, 1) := by decide +kernel
theorem d_L_law_327 : decode code 327 = .ok (.iload 4, 2) := by decide +kernel
theorem d_L_law_329 : decode code 329 = .ok (.iconst 1, 1) := by decide +kernel
theorem d_L_law_330 : decode code 330 = .ok (.iadd, 1) := by decide +kernel
theorem d_L_law_331 : decode code 331 = .ok (.iaload, 1) := by decide +kernel
theorem d_L_law_332 : decode code 332 = .ok (.aload_n 0, 1) := by decide +kernel
theorem d_L_law_333 : decode code 333 = .ok (.iload 4, 2) := by decide +kernel
theorem d_L_law_335 : decode code 335 = .ok (.iconst 2, 1) := by decide +kernel
theorem d_L_law_336 : decode code 336 = .ok (.iadd, 1) := by decide +kernel
theorem d_L_law_337 : decode code 337 = .ok (.iaload, 1) := by decide +kernel
theorem d_L_law_338 : decode code 338 = .ok (.invokevirtual 79, 3) := by decide +kernel
theorem d_L_law_341 : decode code 341 = .ok (.istore 6, 2) := by decide +kernel
theorem d_L_law_343 : decode code 343 = .ok (.aload_n 2, 1) := by decide +kernel
theorem d_L_law_344 : decode code 344 = .ok (.invokevirtual 61, 3) := by decide +kernel
theorem d_L_law_347 : decode code 347 = .ok (.iload 5, 2) := by decide +kernel
theorem d_L_law_349 : decode code 349 = .ok (.if_icmp .eq 5, 3) := by decide +kernel
theorem d_L_law_352 : decode code 352 = .ok (.iconst 0, 1) := by decide +kernel
theorem d_L_law_353 : decode code 353 = .ok (.ireturn, 1) := by decide +kernel
theorem d_L_law_354 : decode code 354 = .ok (.iload 5, 2) := by decide +kernel
theorem d_L_law_356 : decode code 356 = .ok (.ifCond .ne 15, 3) := by decide +kernel
theorem d_L_law_359 : decode code 359 = .ok (.aload_n 3, 1) := by decide +kernel
theorem d_L_law_360 : decode code 360 = .ok (.iconst 0, 1) := by decide +kernel
theorem d_L_law_361 : decode code 361 = .ok (.laload, 1) := by decide +kernel
theorem d_L_law_362 : decode code 362 = .ok (.iload 6, 2) := by decide +kernel
theorem d_L_law_364 : decode code 364 = .ok (.i2l, 1) := by decide +kernel
theorem d_L_law_365 : decode code 365 = .ok (.lcmp, 1) := by decide +kernel
theorem d_L_law_366 : decode code 366 = .ok (.ifCond .eq 5, 3) := by decide +kernel
theorem d_L_law_369 : decode code 369 = .ok (.iconst 0, 1) := by decide +kernel
theorem d_L_law_370 : decode code 370 = .ok (.ireturn, 1) := by decide +kernel
theorem d_L_law_371 : decode code 371 = .ok (.goto 394, 3) := by decide +kernel
theorem d_L_law_374 : decode code 374 = .ok (.aload_n 1, 1) := by decide +kernel
theorem d_L_law_375 : decode code 375 = .ok (.aload_n 0, 1) := by decide +kernel
theorem d_L_law_376 : decode code 376 = .ok (.iload 4, 2) := by decide +kernel
theorem d_L_law_378 : decode code 378 = .ok (.iconst 1, 1) := by decide +kernel
theorem d_L_law_379 : decode code 379 = .ok (.iadd, 1) := by decide +kernel
theorem d_L_law_380 : decode code 380 = .ok (.iaload, 1) := by decide +kernel
theorem d_L_law_381 : decode code 381 = .ok (.aload_n 3, 1) := by decide +kernel
theorem d_L_law_382 : decode code 382 = .ok (.invokestatic 80, 3) := by decide +kernel
theorem d_L_law_385 : decode code 385 = .ok (.istore 5, 2) := by decide +kernel
theorem d_L_law_387 : decode code 387 = .ok (.aload_n 2, 1) := by decide +kernel
theorem d_L_law_388 : decode code 388 = .ok (.aload_n 0, 1) := by decide +kernel
theorem d_L_law_389 : decode code 389 = .ok (.iload 4, 2) := by decide +kernel
theorem d_L_law_391 : decode code 391 = .ok (.iconst 1, 1) := by decide +kernel
theorem d_L_law_392 : decode code 392 = .ok (.iadd, 1) := by decide +kernel
theorem d_L_law_393 : decode code 393 = .ok (.iaload, 1) := by decide +kernel
theorem d_L_law_394 : decode code 394 = .ok (.invokevirtual 82, 3) := by decide +kernel
theorem d_L_law_397 : decode code 397 = .ok (.istore 6, 2) := by decide +kernel
theorem d_L_law_399 : decode code 399 = .ok (.aload_n 2, 1) := by decide +kernel
theorem d_L_law_400 : decode code 400 = .ok (.invokevirtual 61, 3) := by decide +kernel
theorem d_L_law_403 : decode code 403 = .ok (.iload 5, 2) := by decide +kernel
theorem d_L_law_405 : decode code 405 = .ok (.if_icmp .eq 5, 3) := by decide +kernel
theorem d_L_law_408 : decode code 408 = .ok (.iconst 0, 1) := by decide +kernel
theorem d_L_law_409 : decode code 409 = .ok (.ireturn, 1) := by decide +kernel
theorem d_L_law_410 : decode code 410 = .ok (.iload 5, 2) := by decide +kernel
theorem d_L_law_412 : decode code 412 = .ok (.ifCond .ne 15, 3) := by decide +kernel
theorem d_L_law_415 : decode code 415 = .ok (.aload_n 3, 1) := by decide +kernel
theorem d_L_law_416 : decode code 416 = .ok (.iconst 0, 1) := by decide +kernel
theorem d_L_law_417 : decode code 417 = .ok (.laload, 1) := by decide +kernel
theorem d_L_law_418 : decode code 418 = .ok (.iload 6, 2) := by decide +kernel
theorem d_L_law_420 : decode code 420 = .ok (.i2l, 1) := by decide +kernel
theorem d_L_law_421 : decode code 421 = .ok (.lcmp, 1) := by decide +kernel
theorem d_L_law_422 : decode code 422 = .ok (.ifCond .eq 5, 3) := by decide +kernel
theorem d_L_law_425 : decode code 425 = .ok (.iconst 0, 1) := by decide +kernel
theorem d_L_law_426 : decode code 426 = .ok (.ireturn, 1) := by decide +kernel
theorem d_L_law_427 : decode code 427 = .ok (.goto 338, 3) := by decide +kernel
theorem d_L_law_430 : decode code 430 = .ok (.aload_n 1, 1) := by decide +kernel
theorem d_L_law_431 : decode code 431 = .ok (.aload_n 0, 1) := by decide +kernel
theorem d_L_law_432 : decode code 432 = .ok (.iload 4, 2) := by decide +kernel
theorem d_L_law_434 : decode code 434 = .ok (.iconst 1, 1) := by decide +kernel
theorem d_L_law_435 : decode code 435 = .ok (.iadd, 1) := by decide +kernel
theorem d_L_law_436 : decode code 436 = .ok (.iaload, 1) := by decide +kernel
theorem d_L_law_437 : decode code 437 = .ok (.aload_n 3, 1) := by decide +kernel
theorem d_L_law_438 : decode code 438 = .ok (.invokestatic 83, 3) := by decide +kernel
theorem d_L_law_441 : decode code 441 = .ok (.istore 5, 2) := by decide +kernel
theorem d_L_law_443 : decode code 443 = .ok (.aload_n 2, 1) := by decide +kernel
theorem d_L_law_444 : decode code 444 = .ok (.aload_n 0, 1) := by decide +kernel
theorem d_L_law_445 : decode code 445 = .ok (.iload 4, 2) := by decide +kernel
theorem d_L_law_447 : decode code 447 = .ok (.iconst 1, 1) := by decide +kernel
theorem d_L_law_448 : decode code 448 = .ok (.iadd, 1) := by decide +kernel
theorem d_L_law_449 : decode code 449 = .ok (.iaload, 1) := by decide +kernel
theorem d_L_law_450 : decode code 450 = .ok (.invokevirtual 85, 3) := by decide +kernel
theorem d_L_law_453 : decode code 453 = .ok (.lstore 6, 2) := by decide +kernel
theorem d_L_law_455 : decode code 455 = .ok (.aload_n 2, 1) := by decide +kernel
theorem d_L_law_456 : decode code 456 = .ok (.invokevirtual 61, 3) := by decide +kernel
theorem d_L_law_459 : decode code 459 = .ok (.iload 5, 2) := by decide +kernel
theorem d_L_law_461 : decode code 461 = .ok (.if_icmp .eq 5, 3) := by decide +kernel
theorem d_L_law_464 : decode code 464 = .ok (.iconst 0, 1) := by decide +kernel
theorem d_L_law_465 : decode code 465 = .ok (.ireturn, 1) := by decide +kernel
theorem d_L_law_466 : decode code 466 = .ok (.iload 5, 2) := by decide +kernel
theorem d_L_law_468 : decode code 468 = .ok (.ifCond .ne 14, 3) := by decide +kernel
theorem d_L_law_471 : decode code 471 = .ok (.aload_n 3, 1) := by decide +kernel
theorem d_L_law_472 : decode code 472 = .ok (.iconst 0, 1) := by decide +kernel
theorem d_L_law_473 : decode code 473 = .ok (.laload, 1) := by decide +kernel
theorem d_L_law_474 : decode code 474 = .ok (.lload 6, 2) := by decide +kernel
theorem d_L_law_476 : decode code 476 = .ok (.lcmp, 1) := by decide +kernel
theorem d_L_law_477 : decode code 477 = .ok (.ifCond .eq 5, 3) := by decide +kernel
theorem d_L_law_480 : decode code 480 = .ok (.iconst 0, 1) := by decide +kernel
theorem d_L_law_481 : decode code 481 = .ok (.ireturn, 1) := by decide +kernel
theorem d_L_law_482 : decode code 482 = .ok (.goto 283, 3) := by decide +kernel
theorem d_L_law_485 : decode code 485 = .ok (.aload_n 1, 1) := by decide +kernel
theorem d_L_law_486 : decode code 486 = .ok (.aload_n 0, 1) := by decide +kernel
theorem d_L_law_487 : decode code 487 = .ok (.iload 4, 2) := by decide +kernel
theorem d_L_law_489 : decode code 489 = .ok (.iconst 1, 1) := by decide +kernel
theorem d_L_law_490 : decode code 490 = .ok (.iadd, 1) := by decide +kernel
theorem d_L_law_491 : decode code 491 = .ok (.iaload, 1) := by decide +kernel
theorem d_L_law_492 : decode code 492 = .ok (.aload_n 0, 1) := by decide +kernel
theorem d_L_law_493 : decode code 493 = .ok (.iload 4, 2) := by decide +kernel
theorem d_L_law_495 : decode code 495 = .ok (.iconst 2, 1) := by decide +kernel
theorem d_L_law_496 : decode code 496 = .ok (.iadd, 1) := by decide +kernel
theorem d_L_law_497 : decode code 497 = .ok (.iaload, 1) := by decide +kernel
theorem d_L_law_498 : decode code 498 = .ok (.aload_n 3, 1) := by decide +kernel
theorem d_L_law_499 : decode code 499 = .ok (.invokestatic 86, 3) := by decide +kernel
theorem d_L_law_502 : decode code 502 = .ok (.istore 5, 2) := by decide +kernel
theorem d_L_law_504 : decode code 504 = .ok (.aload_n 2, 1) := by decide +kernel
theorem d_L_law_505 : decode code 505 = .ok (.aload_n 0, 1) := by decide +kernel
theorem d_L_law_506 : decode code 506 = .ok (.iload 4, 2) := by decide +kernel
theorem d_L_law_508 : decode code 508 = .ok (.iconst 1, 1) := by decide +kernel
theorem d_L_law_509 : decode code 509 = .ok (.iadd, 1) := by decide +kernel
theorem d_L_law_510 : decode code 510 = .ok (.iaload, 1) := by decide +kernel
theorem d_L_law_511 : decode code 511 = .ok (.aload_n 0, 1) := by decide +kernel
theorem d_L_law_512 : decode code 512 = .ok (.iload 4, 2) := by decide +kernel
theorem d_L_law_514 : decode code 514 = .ok (.iconst 2, 1) := by decide +kernel
theorem d_L_law_515 : decode code 515 = .ok (.iadd, 1) := by decide +kernel
theorem d_L_law_516 : decode code 516 = .ok (.iaload, 1) := by decide +kernel
theorem d_L_law_517 : decode code 517 = .ok (.invokevirtual 88, 3) := by decide +kernel
theorem d_L_law_520 : decode code 520 = .ok (.istore 6, 2) := by decide +kernel
theorem d_L_law_522 : decode code 522 = .ok (.aload_n 2, 1) := by decide +kernel
theorem d_L_law_523 : decode code 523 = .ok (.invokevirtual 61, 3) := by decide +kernel
theorem d_L_law_526 : decode code 526 = .ok (.iload 5, 2) := by decide +kernel
theorem d_L_law_528 : decode code 528 = .ok (.if_icmp .eq 5, 3) := by decide +kernel
theorem d_L_law_531 : decode code 531 = .ok (.iconst 0, 1) := by decide +kernel
theorem d_L_law_532 : decode code 532 = .ok (.ireturn, 1) := by decide +kernel
theorem d_L_law_533 : decode code 533 = .ok (.iload 5, 2) := by decide +kernel
theorem d_L_law_535 : decode code 535 = .ok (.ifCond .ne 15, 3) := by decide +kernel
theorem d_L_law_538 : decode code 538 = .ok (.aload_n 3, 1) := by decide +kernel
theorem d_L_law_539 : decode code 539 = .ok (.iconst 0, 1) := by decide +kernel
theorem d_L_law_540 : decode code 540 = .ok (.laload, 1) := by decide +kernel
theorem d_L_law_541 : decode code 541 = .ok (.iload 6, 2) := by decide +kernel
theorem d_L_law_543 : decode code 543 = .ok (.i2l, 1) := by decide +kernel
theorem d_L_law_544 : decode code 544 = .ok (.lcmp, 1) := by decide +kernel
theorem d_L_law_545 : decode code 545 = .ok (.ifCond .eq 5, 3) := by decide +kernel
theorem d_L_law_548 : decode code 548 = .ok (.iconst 0, 1) := by decide +kernel
theorem d_L_law_549 : decode code 549 = .ok (.ireturn, 1) := by decide +kernel
theorem d_L_law_550 : decode code 550 = .ok (.goto 215, 3) := by decide +kernel
theorem d_L_law_553 : decode code 553 = .ok (.aload_n 1, 1) := by decide +kernel
theorem d_L_law_554 : decode code 554 = .ok (.aload_n 0, 1) := by decide +kernel
theorem d_L_law_555 : decode code 555 = .ok (.iload 4, 2) := by decide +kernel
theorem d_L_law_557 : decode code 557 = .ok (.iconst 1, 1) := by decide +kernel
theorem d_L_law_558 : decode code 558 = .ok (.iadd, 1) := by decide +kernel
theorem d_L_law_559 : decode code 559 = .ok (.iaload, 1) := by decide +kernel
theorem d_L_law_560 : decode code 560 = .ok (.aload_n 0, 1) := by decide +kernel
theorem d_L_law_561 : decode code 561 = .ok (.iload 4, 2) := by decide +kernel
theorem d_L_law_563 : decode code 563 = .ok (.iconst 2, 1) := by decide +kernel
theorem d_L_law_564 : decode code 564 = .ok (.iadd, 1) := by decide +kernel
theorem d_L_law_565 : decode code 565 = .ok (.iaload, 1) := by decide +kernel
theorem d_L_law_566 : decode code 566 = .ok (.aload_n 3, 1) := by decide +kernel
theorem d_L_law_567 : decode code 567 = .ok (.invokestatic 89, 3) := by decide +kernel
theorem d_L_law_570 : decode code 570 = .ok (.istore 5, 2) := by decide +kernel
theorem d_L_law_572 : decode code 572 = .ok (.aload_n 2, 1) := by decide +kernel
theorem d_L_law_573 : decode code 573 = .ok (.aload_n 0, 1) := by decide +kernel
theorem d_L_law_574 : decode code 574 = .ok (.iload 4, 2) := by decide +kernel
theorem d_L_law_576 : decode code 576 = .ok (.iconst 1, 1) := by decide +kernel
theorem d_L_law_577 : decode code 577 = .ok (.iadd, 1) := by decide +kernel
theorem d_L_law_578 : decode code 578 = .ok (.iaload, 1) := by decide +kernel
theorem d_L_law_579 : decode code 579 = .ok (.aload_n 0, 1) := by decide +kernel
theorem d_L_law_580 : decode code 580 = .ok (.iload 4, 2) := by decide +kernel
theorem d_L_law_582 : decode code 582 = .ok (.iconst 2, 1) := by decide +kernel
theorem d_L_law_583 : decode code 583 = .ok (.iadd, 1) := by decide +kernel
theorem d_L_law_584 : decode code 584 = .ok (.iaload, 1) := by decide +kernel
theorem d_L_law_585 : decode code 585 = .ok (.invokevirtual 91, 3) := by decide +kernel
theorem d_L_law_588 : decode code 588 = .ok (.istore 6, 2) := by decide +kernel
theorem d_L_law_590 : decode code 590 = .ok (.aload_n 2, 1) := by decide +kernel
theorem d_L_law_591 : decode code 591 = .ok (.invokevirtual 61, 3) := by decide +kernel
theorem d_L_law_594 : decode code 594 = .ok (.iload 5, 2) := by decide +kernel
theorem d_L_law_596 : decode code 596 = .ok (.if_icmp .eq 5, 3) := by decide +kernel
theorem d_L_law_599 : decode code 599 = .ok (.iconst 0, 1) := by decide +kernel
theorem d_L_law_600 : decode code 600 = .ok (.ireturn, 1) := by decide +kernel
theorem d_L_law_601 : decode code 601 = .ok (.iload 5, 2) := by decide +kernel
theorem d_L_law_603 : decode code 603 = .ok (.ifCond .ne 22, 3) := by decide +kernel
theorem d_L_law_606 : decode code 606 = .ok (.aload_n 3, 1) := by decide +kernel
theorem d_L_law_607 : decode code 607 = .ok (.iconst 0, 1) := by decide +kernel
theorem d_L_law_608 : decode code 608 = .ok (.laload, 1) := by decide +kernel
theorem d_L_law_609 : decode code 609 = .ok (.iload 6, 2) := by decide +kernel
theorem d_L_law_611 : decode code 611 = .ok (.ifCond .eq 7, 3) := by decide +kernel
theorem d_L_law_614 : decode code 614 = .ok (.lconst 1, 1) := by decide +kernel
theorem d_L_law_615 : decode code 615 = .ok (.goto 4, 3) := by decide +kernel
theorem d_L_law_618 : decode code 618 = .ok (.lconst 0, 1) := by decide +kernel
theorem d_L_law_619 : decode code 619 = .ok (.lcmp, 1) := by decide +kernel
theorem d_L_law_620 : decode code 620 = .ok (.ifCond .eq 5, 3) := by decide +kernel
theorem d_L_law_623 : decode code 623 = .ok (.iconst 0, 1) := by decide +kernel
theorem d_L_law_624 : decode code 624 = .ok (.ireturn, 1) := by decide +kernel
theorem d_L_law_625 : decode code 625 = .ok (.goto 140, 3) := by decide +kernel
theorem d_L_law_628 : decode code 628 = .ok (.aload_n 1, 1) := by decide +kernel
theorem d_L_law_629 : decode code 629 = .ok (.aload_n 3, 1) := by decide +kernel
theorem d_L_law_630 : decode code 630 = .ok (.invokestatic 92, 3) := by decide +kernel
theorem d_L_law_633 : decode code 633 = .ok (.istore 5, 2) := by decide +kernel
theorem d_L_law_635 : decode code 635 = .ok (.aload_n 2, 1) := by decide +kernel
theorem d_L_law_636 : decode code 636 = .ok (.invokevirtual 95, 3) := by decide +kernel
theorem d_L_law_639 : decode code 639 = .ok (.istore 6, 2) := by decide +kernel
theorem d_L_law_641 : decode code 641 = .ok (.aload_n 2, 1) := by decide +kernel
theorem d_L_law_642 : decode code 642 = .ok (.invokevirtual 61, 3) := by decide +kernel
theorem d_L_law_645 : decode code 645 = .ok (.iload 5, 2) := by decide +kernel
theorem d_L_law_647 : decode code 647 = .ok (.if_icmp .eq 5, 3) := by decide +kernel
theorem d_L_law_650 : decode code 650 = .ok (.iconst 0, 1) := by decide +kernel
theorem d_L_law_651 : decode code 651 = .ok (.ireturn, 1) := by decide +kernel
theorem d_L_law_652 : decode code 652 = .ok (.iload 5, 2) := by decide +kernel
theorem d_L_law_654 : decode code 654 = .ok (.ifCond .ne 15, 3) := by decide +kernel
theorem d_L_law_657 : decode code 657 = .ok (.aload_n 3, 1) := by decide +kernel
theorem d_L_law_658 : decode code 658 = .ok (.iconst 0, 1) := by decide +kernel
theorem d_L_law_659 : decode code 659 = .ok (.laload, 1) := by decide +kernel
theorem d_L_law_660 : decode code 660 = .ok (.iload 6, 2) := by decide +kernel
theorem d_L_law_662 : decode code 662 = .ok (.i2l, 1) := by decide +kernel
theorem d_L_law_663 : decode code 663 = .ok (.lcmp, 1) := by decide +kernel
theorem d_L_law_664 : decode code 664 = .ok (.ifCond .eq 5, 3) := by decide +kernel
theorem d_L_law_667 : decode code 667 = .ok (.iconst 0, 1) := by decide +kernel
theorem d_L_law_668 : decode code 668 = .ok (.ireturn, 1) := by decide +kernel
theorem d_L_law_669 : decode code 669 = .ok (.goto 96, 3) := by decide +kernel
theorem d_L_law_672 : decode code 672 = .ok (.aload_n 1, 1) := by decide +kernel
theorem d_L_law_673 : decode code 673 = .ok (.invokestatic 96, 3) := by decide +kernel
theorem d_L_law_676 : decode code 676 = .ok (.istore 5, 2) := by decide +kernel
theorem d_L_law_678 : decode code 678 = .ok (.aload_n 2, 1) := by decide +kernel
theorem d_L_law_679 : decode code 679 = .ok (.invokevirtual 99, 3) := by decide +kernel
theorem d_L_law_682 : decode code 682 = .ok (.aload_n 2, 1) := by decide +kernel
theorem d_L_law_683 : decode code 683 = .ok (.invokevirtual 61, 3) := by decide +kernel
theorem d_L_law_686 : decode code 686 = .ok (.iload 5, 2) := by decide +kernel
theorem d_L_law_688 : decode code 688 = .ok (.if_icmp .eq 5, 3) := by decide +kernel
theorem d_L_law_691 : decode code 691 = .ok (.iconst 0, 1) := by decide +kernel
theorem d_L_law_692 : decode code 692 = .ok (.ireturn, 1) := by decide +kernel
theorem d_L_law_693 : decode code 693 = .ok (.goto 72, 3) := by decide +kernel
theorem d_L_law_696 : decode code 696 = .ok (.aload_n 1, 1) := by decide +kernel
theorem d_L_law_697 : decode code 697 = .ok (.aload_n 3, 1) := by decide +kernel
theorem d_L_law_698 : decode code 698 = .ok (.invokestatic 100, 3) := by decide +kernel
theorem d_L_law_701 : decode code 701 = .ok (.istore 5, 2) := by decide +kernel
theorem d_L_law_703 : decode code 703 = .ok (.aload_n 2, 1) := by decide +kernel
theorem d_L_law_704 : decode code 704 = .ok (.invokevirtual 102, 3) := by decide +kernel
theorem d_L_law_707 : decode code 707 = .ok (.istore 6, 2) := by decide +kernel
theorem d_L_law_709 : decode code 709 = .ok (.aload_n 2, 1) := by decide +kernel
theorem d_L_law_710 : decode code 710 = .ok (.invokevirtual 61, 3) := by decide +kernel
theorem d_L_law_713 : decode code 713 = .ok (.iload 5, 2) := by decide +kernel
theorem d_L_law_715 : decode code 715 = .ok (.if_icmp .eq 5, 3) := by decide +kernel
theorem d_L_law_718 : decode code 718 = .ok (.iconst 0, 1) := by decide +kernel
theorem d_L_law_719 : decode code 719 = .ok (.ireturn, 1) := by decide +kernel
theorem d_L_law_720 : decode code 720 = .ok (.iload 5, 2) := by decide +kernel
theorem d_L_law_722 : decode code 722 = .ok (.ifCond .ne 15, 3) := by decide +kernel
theorem d_L_law_725 : decode code 725 = .ok (.aload_n 3, 1) := by decide +kernel
theorem d_L_law_726 : decode code 726 = .ok (.iconst 0, 1) := by decide +kernel
theorem d_L_law_727 : decode code 727 = .ok (.laload, 1) := by decide +kernel
theorem d_L_law_728 : decode code 728 = .ok (.iload 6, 2) := by decide +kernel
theorem d_L_law_730 : decode code 730 = .ok (.i2l, 1) := by decide +kernel
theorem d_L_law_731 : decode code 731 = .ok (.lcmp, 1) := by decide +kernel
theorem d_L_law_732 : decode code 732 = .ok (.ifCond .eq 5, 3) := by decide +kernel
theorem d_L_law_735 : decode code 735 = .ok (.iconst 0, 1) := by decide +kernel
theorem d_L_law_736 : decode code 736 = .ok (.ireturn, 1) := by decide +kernel
theorem d_L_law_737 : decode code 737 = .ok (.goto 28, 3) := by decide +kernel
theorem d_L_law_740 : decode code 740 = .ok (.aload_n 1, 1) := by decide +kernel
theorem d_L_law_741 : decode code 741 = .ok (.aload_n 0, 1) := by decide +kernel
theorem d_L_law_742 : decode code 742 = .ok (.iload 4, 2) := by decide +kernel
theorem d_L_law_744 : decode code 744 = .ok (.iconst 1, 1) := by decide +kernel
theorem d_L_law_745 : decode code 745 = .ok (.iadd, 1) := by decide +kernel
theorem d_L_law_746 : decode code 746 = .ok (.iaload, 1) := by decide +kernel
theorem d_L_law_747 : decode code 747 = .ok (.invokevirtual 103, 3) := by decide +kernel
theorem d_L_law_750 : decode code 750 = .ok (.aload_n 2, 1) := by decide +kernel
theorem d_L_law_751 : decode code 751 = .ok (.aload_n 0, 1) := by decide +kernel
theorem d_L_law_752 : decode code 752 = .ok (.iload 4, 2) := by decide +kernel
theorem d_L_law_754 : decode code 754 = .ok (.iconst 1, 1) := by decide +kernel
theorem d_L_law_755 : decode code 755 = .ok (.iadd, 1) := by decide +kernel
theorem d_L_law_756 : decode code 756 = .ok (.iaload, 1) := by decide +kernel
theorem d_L_law_757 : decode code 757 = .ok (.invokevirtual 106, 3) := by decide +kernel
theorem d_L_law_760 : decode code 760 = .ok (.if_icmp .eq 5, 3) := by decide +kernel
theorem d_L_law_763 : decode code 763 = .ok (.iconst 0, 1) := by decide +kernel
theorem d_L_law_764 : decode code 764 = .ok (.ireturn, 1) := by decide +kernel
theorem d_L_law_765 : decode code 765 = .ok (.iinc 4 6, 3) := by decide +kernel
theorem d_L_law_768 : decode code 768 = .ok (.goto (-745), 3) := by decide +kernel
theorem d_L_law_771 : decode code 771 = .ok (.iconst 1, 1) := by decide +kernel
theorem d_L_law_772 : decode code 772 = .ok (.ireturn, 1) := by decide +kernel
/-- a helper's answer, its parts -/
def bndW {ζ : Type} (o : Option (Int × St × Int)) (k : Int → St → Int → Option ζ) : Option ζ := match o with
  | none => none
  | some z => k z.1 z.2.1 z.2.2
def e_L_feed (γ : St) (w a0 a1 a2 a3 a4 : Int) : Option (Int × St × Int) := hcl (f_S_feed γ a0 a1 a2 a3 a4) (g_S_feed γ a0 a1 a2 a3 a4) (fun r γ1 => some (0, γ1, r)) (fun x => if x = 1 then some (1, γ, w) else none)
theorem ef_L_feed (γ δ : St) (w a0 a1 a2 a3 a4 : Int) : f_L_feed γ δ w a0 a1 a2 a3 a4 = (e_L_feed γ w a0 a1 a2 a3 a4).map (fun z => (z.1, cmb z.2.1 δ z.2.2)) := by
  unfold f_L_feed e_L_feed hcl
  cases f_S_feed γ a0 a1 a2 a3 a4 with
  | some z => rfl
  | none =>
    cases g_S_feed γ a0 a1 a2 a3 a4 with
    | none => rfl
    | some z =>
      show (if z.1 = 1 then some (1, cmb γ δ w) else none) = Option.map _ (if z.1 = 1 then some (1, γ, w) else none)
      repeat (first | rfl | split)
def e_L_end (γ : St) (w a0 : Int) : Option (Int × St × Int) := hcl (f_S_end γ a0) (g_S_end γ a0) (fun r γ1 => some (0, γ1, r)) (fun x => if x = 2 then some (1, γ, w) else none)
theorem ef_L_end (γ δ : St) (w a0 : Int) : f_L_end γ δ w a0 = (e_L_end γ w a0).map (fun z => (z.1, cmb z.2.1 δ z.2.2)) := by
  unfold f_L_end e_L_end hcl
  cases f_S_end γ a0 with
  | some z => rfl
  | none =>
    cases g_S_end γ a0 with
    | none => rfl
    | some z =>
      show (if z.1 = 2 then some (1, cmb γ δ w) else none) = Option.map _ (if z.1 = 2 then some (1, γ, w) else none)
      repeat (first | rfl | split)
def e_L_input (γ : St) (w a0 a1 : Int) : Option (Int × St × Int) := hcl (f_S_input γ a0 a1) (g_S_input γ a0 a1) (fun r γ1 => some (0, γ1, r)) (fun x => if x = 3 then some (1, γ, w) else if x = 2 then some (2, γ, w) else none)
theorem ef_L_input (γ δ : St) (w a0 a1 : Int) : f_L_input γ δ w a0 a1 = (e_L_input γ w a0 a1).map (fun z => (z.1, cmb z.2.1 δ z.2.2)) := by
  unfold f_L_input e_L_input hcl
  cases f_S_input γ a0 a1 with
  | some z => rfl
  | none =>
    cases g_S_input γ a0 a1 with
    | none => rfl
    | some z =>
      show (if z.1 = 3 then some (1, cmb γ δ w) else if z.1 = 2 then some (2, cmb γ δ w) else none) = Option.map _ (if z.1 = 3 then some (1, γ, w) else if z.1 = 2 then some (2, γ, w) else none)
      repeat (first | rfl | split)
def e_L_tick (γ : St) (w a0 : Int) : Option (Int × St × Int) := hcl (f_S_tick γ a0) (g_S_tick γ a0) (fun r γ1 => some (0, γ1, r)) (fun x => if x = 2 then some (1, γ, w) else if x = 1 then some (2, γ, w) else none)
theorem ef_L_tick (γ δ : St) (w a0 : Int) : f_L_tick γ δ w a0 = (e_L_tick γ w a0).map (fun z => (z.1, cmb z.2.1 δ z.2.2)) := by
  unfold f_L_tick e_L_tick hcl
  cases f_S_tick γ a0 with
  | some z => rfl
  | none =>
    cases g_S_tick γ a0 with
    | none => rfl
    | some z =>
      show (if z.1 = 2 then some (1, cmb γ δ w) else if z.1 = 1 then some (2, cmb γ δ w) else none) = Option.map _ (if z.1 = 2 then some (1, γ, w) else if z.1 = 1 then some (2, γ, w) else none)
      repeat (first | rfl | split)
def e_L_value (γ : St) (w a0 : Int) : Option (Int × St × Int) := hcl (f_S_value γ a0) (g_S_value γ a0) (fun r γ1 => some (0, γ1, r)) (fun x => if x = 3 then some (1, γ, w) else if x = 1 then some (2, γ, w) else none)
theorem ef_L_value (γ δ : St) (w a0 : Int) : f_L_value γ δ w a0 = (e_L_value γ w a0).map (fun z => (z.1, cmb z.2.1 δ z.2.2)) := by
  unfold f_L_value e_L_value hcl
  cases f_S_value γ a0 with
  | some z => rfl
  | none =>
    cases g_S_value γ a0 with
    | none => rfl
    | some z =>
      show (if z.1 = 3 then some (1, cmb γ δ w) else if z.1 = 1 then some (2, cmb γ δ w) else none) = Option.map _ (if z.1 = 3 then some (1, γ, w) else if z.1 = 1 then some (2, γ, w) else none)
      repeat (first | rfl | split)
def e_L_about (γ : St) (w a0 a1 : Int) : Option (Int × St × Int) := hcl (f_S_about γ a0 a1) (g_S_about γ a0 a1) (fun r γ1 => some (0, γ1, r)) (fun x => if x = 3 then some (1, γ, w) else if x = 2 then some (2, γ, w) else none)
theorem ef_L_about (γ δ : St) (w a0 a1 : Int) : f_L_about γ δ w a0 a1 = (e_L_about γ w a0 a1).map (fun z => (z.1, cmb z.2.1 δ z.2.2)) := by
  unfold f_L_about e_L_about hcl
  cases f_S_about γ a0 a1 with
  | some z => rfl
  | none =>
    cases g_S_about γ a0 a1 with
    | none => rfl
    | some z =>
      show (if z.1 = 3 then some (1, cmb γ δ w) else if z.1 = 2 then some (2, cmb γ δ w) else none) = Option.map _ (if z.1 = 3 then some (1, γ, w) else if z.1 = 2 then some (2, γ, w) else none)
      repeat (first | rfl | split)
def e_L_causes (γ : St) (w a0 a1 : Int) : Option (Int × St × Int) := hcl (f_S_causes γ a0 a1) (g_S_causes γ a0 a1) (fun r γ1 => if r = 0 then some (0, γ1, 0) else some (0, γ1, 1)) (fun x => if x = 3 then some (1, γ, w) else none)
theorem ef_L_causes (γ δ : St) (w a0 a1 : Int) : f_L_causes γ δ w a0 a1 = (e_L_causes γ w a0 a1).map (fun z => (z.1, cmb z.2.1 δ z.2.2)) := by
  unfold f_L_causes e_L_causes hcl
  cases f_S_causes γ a0 a1 with
  | some z => 
    show (if z.1 = 0 then _ else _) = Option.map _ (if z.1 = 0 then _ else _)
    split <;> rfl
  | none =>
    cases g_S_causes γ a0 a1 with
    | none => rfl
    | some z =>
      show (if z.1 = 3 then some (1, cmb γ δ w) else none) = Option.map _ (if z.1 = 3 then some (1, γ, w) else none)
      repeat (first | rfl | split)
def e_L_restart (γ : St) (w : Int) : Option (Int × St × Int) := hcl (f_S_restart γ ) (g_S_restart γ ) (fun r γ1 => some (0, γ1, r)) (fun x => if x = 1 then some (1, γ, w) else none)
theorem ef_L_restart (γ δ : St) (w : Int) : f_L_restart γ δ w  = (e_L_restart γ w ).map (fun z => (z.1, cmb z.2.1 δ z.2.2)) := by
  unfold f_L_restart e_L_restart hcl
  cases f_S_restart γ  with
  | some z => rfl
  | none =>
    cases g_S_restart γ  with
    | none => rfl
    | some z =>
      show (if z.1 = 1 then some (1, cmb γ δ w) else none) = Option.map _ (if z.1 = 1 then some (1, γ, w) else none)
      repeat (first | rfl | split)
def e_L_keep (γ : St) (w : Int) : Option (Int × St × Int) := hcl (f_S_keep γ ) (g_S_keep γ ) (fun _ γ1 => some (0, γ1, w)) (fun x => if x = 1 then some (1, γ, w) else none)
theorem ef_L_keep (γ δ : St) (w : Int) : f_L_keep γ δ w  = (e_L_keep γ w ).map (fun z => (z.1, cmb z.2.1 δ z.2.2)) := by
  unfold f_L_keep e_L_keep hcl
  cases f_S_keep γ  with
  | some z => rfl
  | none =>
    cases g_S_keep γ  with
    | none => rfl
    | some z =>
      show (if z.1 = 1 then some (1, cmb γ δ w) else none) = Option.map _ (if z.1 = 1 then some (1, γ, w) else none)
      repeat (first | rfl | split)
def e_L_back (γ : St) (w : Int) : Option (Int × St × Int) := hcl (f_S_back γ ) (g_S_back γ ) (fun r γ1 => some (0, γ1, r)) (fun x => if x = 1 then some (1, γ, w) else none)
theorem ef_L_back (γ δ : St) (w : Int) : f_L_back γ δ w  = (e_L_back γ w ).map (fun z => (z.1, cmb z.2.1 δ z.2.2)) := by
  unfold f_L_back e_L_back hcl
  cases f_S_back γ  with
  | some z => rfl
  | none =>
    cases g_S_back γ  with
    | none => rfl
    | some z =>
      show (if z.1 = 1 then some (1, cmb γ δ w) else none) = Option.map _ (if z.1 = 1 then some (1, γ, w) else none)
      repeat (first | rfl | split)
theorem sm_HH {Γ : Ctx} {Y : Scr} {mt : MT} {R : Room} {ce sl : Nat} {ζ : Type} {K : Kd ζ} {pc : Nat} {lv : List (Nat × Value)} {st : List Value} {γ δ : St} {w : Int} {y : MethodName} {mu : MT} {N fr lo n index : Nat} {As st0 : List Value} {o1 : Option (Int × St)} {o2 : Option (Int × St × Int)} {k : Int → St → Int → Option ζ} (hC : HC Γ y mu N fr lo As (cmb γ δ w) o1) (he : o1 = o2.map (fun z => (z.1, cmb z.2.1 δ z.2.2))) (hcw : Cond.codeWith y mu.2.1 mu.2.2.1 mu.2.2.2 (tabR N) ∈ gG) (hm : Cond.methodLink mt.1 index y ∈ gG) (hst : Cond.static y ∈ gG) (hin : Cond.initialized y.cls ∈ gG) (hd : y.cls ≠ "java/lang/invoke/MethodHandle" ∧ y.cls ≠ "java/lang/invoke/VarHandle" ∧ (parseMethodDescriptor y.desc).map (fun d => d.parameters.length) = some n) (hn : As.length = n) (hs0 : st0 = As.reverse ++ st) (hW : (st.map fun v => v.category).sum ≤ 8) (hR : fr + 1 ≤ R.frames ∧ 8 + (mu.2.2.1 + 11) + lo ≤ R.locals) (hf : ce + 1 ≤ R.cells ∧ sl + N ≤ R.slots) (d : decode mt.2.1 pc = .ok (.invokestatic index, 3))
    (kk : ∀ r γ' w', i32 r → SL Γ Y mt R (ce + 1) (sl + N) K (pc + 3) lv (vI r :: st) (cmb γ' δ w') (k r γ' w')) : SL Γ Y mt R ce sl K pc lv st0 (cmb γ δ w) (bndW o2 k) := by
  cases ho : o2 with
  | none => exact sm_none
  | some z =>
    rw [ho] at he
    have he : o1 = some (z.1, cmb z.2.1 δ z.2.2) := he
    show SL Γ Y mt R ce sl K pc lv st0 (cmb γ δ w) (k z.1 z.2.1 z.2.2)
    refine sm_eq (o' := bndN o1 (fun r _ => k r z.2.1 z.2.2)) (by rw [he]; rfl) ?_
    refine sm_H hC hcw hm hst hin hd hn hs0 hW hR hf d (fun r γ' hq hr => ?_)
    rw [he] at hq
    cases hq
    exact kk z.1 z.2.1 z.2.2 hr
noncomputable def f_law (xs : Nat → Int32) (L : Nat) : Nat → St → St → Int → Int → Option Int
  | 0, _, _, _, _ => none
  | n + 1, γ, δ, w, i =>
  chk (i32 (((L : Int)) - 6)) (if ((L : Int)) - 6 < i then
  (some 1)
  else
  (chk (inb (i) L) (if (iand (sv xs (i)) 15) = 0 then
  (chk (i32 (i + 1)) (chk (inb (i + 1) L) (chk (i32 (i + 2)) (chk (inb (i + 2) L) (chk (i32 (i + 3)) (chk (inb (i + 3) L) (chk (i32 (i + 4)) (chk (inb (i + 4) L) (chk (i32 (i + 5)) (chk (inb (i + 5) L) (bndW (e_L_feed γ w ((sv xs (i + 1))) ((sv xs (i + 2))) ((sv xs (i + 3))) ((sv xs (i + 4))) ((sv xs (i + 5)))) fun r7 γ8 w9 =>
  chk (i32 (i + 1)) (chk (inb (i + 1) L) (chk (i32 (i + 2)) (chk (inb (i + 2) L) (chk (i32 (i + 3)) (chk (inb (i + 3) L) (chk (i32 (i + 4)) (chk (inb (i + 4) L) (chk (i32 (i + 5)) (chk (inb (i + 5) L) (bndN (f_M_feed δ ((sv xs (i + 1))) ((sv xs (i + 2))) ((sv xs (i + 3))) ((sv xs (i + 4))) ((sv xs (i + 5)))) fun r15 δ16 =>
  bndN (f_M_thrown δ16 ) fun r17 δ18 =>
  if r17 = r7 then
  (if r7 ≠ 0 then
  (chk (i32 (i + 6)) (f_law xs L n γ8 δ18 w9 (i + 6)))
  else
  (if iL w9 = iL r15 then (chk (i32 (i + 6)) (f_law xs L n γ8 δ18 w9 (i + 6))) else (none)))
  else
  (none))))))))))))))))))))))
  else if (iand (sv xs (i)) 15) = 1 then
  (chk (i32 (i + 1)) (chk (inb (i + 1) L) (bndW (e_L_end γ w ((sv xs (i + 1)))) fun r23 γ24 w25 =>
  chk (i32 (i + 1)) (chk (inb (i + 1) L) (bndN (f_M_end δ ((sv xs (i + 1)))) fun r27 δ28 =>
  bndN (f_M_thrown δ28 ) fun r29 δ30 =>
  if r29 = r23 then
  (if r23 ≠ 0 then
  (chk (i32 (i + 6)) (f_law xs L n γ24 δ30 w25 (i + 6)))
  else
  (if iL w25 = iL r27 then (chk (i32 (i + 6)) (f_law xs L n γ24 δ30 w25 (i + 6))) else (none)))
  else
  (none))))))
  else if (iand (sv xs (i)) 15) = 2 then
  (bndN (f_S_read γ ) fun r34 γ35 =>
  bndN (f_M_read δ) fun r36 δ37 =>
  if r34 = r36 then
  (chk (i32 (i + 6)) (f_law xs L n γ35 δ37 w (i + 6)))
  else
  (none))
  else if (iand (sv xs (i)) 15) = 3 then
  (chk (i32 (i + 1)) (chk (inb (i + 1) L) (bndN (f_S_fault γ ((sv xs (i + 1)))) fun r41 γ42 =>
  chk (i32 (i + 1)) (chk (inb (i + 1) L) (bndN (f_M_fault δ ((sv xs (i + 1)))) fun r44 δ45 =>
  if r41 = r44 then
  (chk (i32 (i + 6)) (f_law xs L n γ42 δ45 w (i + 6)))
  else
  (none))))))
  else if (iand (sv xs (i)) 15) = 4 then
  (chk (i32 (i + 1)) (chk (inb (i + 1) L) (chk (i32 (i + 2)) (chk (inb (i + 2) L) (bndW (e_L_input γ w ((sv xs (i + 1))) ((sv xs (i + 2)))) fun r50 γ51 w52 =>
  chk (i32 (i + 1)) (chk (inb (i + 1) L) (chk (i32 (i + 2)) (chk (inb (i + 2) L) (bndN (f_M_input δ ((sv xs (i + 1))) ((sv xs (i + 2)))) fun r55 δ56 =>
  bndN (f_M_thrown δ56 ) fun r57 δ58 =>
  if r57 = r50 then
  (if r50 ≠ 0 then
  (chk (i32 (i + 6)) (f_law xs L n γ51 δ58 w52 (i + 6)))
  else
  (if iL w52 = iL r55 then (chk (i32 (i + 6)) (f_law xs L n γ51 δ58 w52 (i + 6))) else (none)))
  else
  (none))))))))))
  else if (iand (sv xs (i)) 15) = 5 then
  (chk (i32 (i + 1)) (chk (inb (i + 1) L) (bndW (e_L_tick γ w ((sv xs (i + 1)))) fun r63 γ64 w65 =>
  chk (i32 (i + 1)) (chk (inb (i + 1) L) (bndN (f_M_tick δ ((sv xs (i + 1)))) fun r67 δ68 =>
  bndN (f_M_thrown δ68 ) fun r69 δ70 =>
  if r69 = r63 then
  (if r63 ≠ 0 then
  (chk (i32 (i + 6)) (f_law xs L n γ64 δ70 w65 (i + 6)))
  else
  (if iL w65 = iL r67 then (chk (i32 (i + 6)) (f_law xs L n γ64 δ70 w65 (i + 6))) else (none)))
  else
  (none))))))
  else if (iand (sv xs (i)) 15) = 6 then
  (chk (i32 (i + 1)) (chk (inb (i + 1) L) (bndW (e_L_value γ w ((sv xs (i + 1)))) fun r75 γ76 w77 =>
  chk (i32 (i + 1)) (chk (inb (i + 1) L) (bndN (f_M_value δ ((sv xs (i + 1)))) fun r79 δ80 =>
  bndN (f_M_thrown δ80 ) fun r81 δ82 =>
  if r81 = r75 then
  (if r75 ≠ 0 then
  (chk (i32 (i + 6)) (f_law xs L n γ76 δ82 w77 (i + 6)))
  else
  (if iL w77 = iL r79 then (chk (i32 (i + 6)) (f_law xs L n γ76 δ82 w77 (i + 6))) else (none)))
  else
  (none))))))
  else if (iand (sv xs (i)) 15) = 7 then
  (chk (i32 (i + 1)) (chk (inb (i + 1) L) (chk (i32 (i + 2)) (chk (inb (i + 2) L) (bndW (e_L_about γ w ((sv xs (i + 1))) ((sv xs (i + 2)))) fun r88 γ89 w90 =>
  chk (i32 (i + 1)) (chk (inb (i + 1) L) (chk (i32 (i + 2)) (chk (inb (i + 2) L) (bndN (f_M_about δ ((sv xs (i + 1))) ((sv xs (i + 2)))) fun r93 δ94 =>
  bndN (f_M_thrown δ94 ) fun r95 δ96 =>
  if r95 = r88 then
  (if r88 ≠ 0 then
  (chk (i32 (i + 6)) (f_law xs L n γ89 δ96 w90 (i + 6)))
  else
  (if iL w90 = iL r93 then (chk (i32 (i + 6)) (f_law xs L n γ89 δ96 w90 (i + 6))) else (none)))
  else
  (none))))))))))
  else if (iand (sv xs (i)) 15) = 8 then
  (chk (i32 (i + 1)) (chk (inb (i + 1) L) (chk (i32 (i + 2)) (chk (inb (i + 2) L) (bndW (e_L_causes γ w ((sv xs (i + 1))) ((sv xs (i + 2)))) fun r102 γ103 w104 =>
  chk (i32 (i + 1)) (chk (inb (i + 1) L) (chk (i32 (i + 2)) (chk (inb (i + 2) L) (bndN (f_M_causes_1 δ ((sv xs (i + 1))) ((sv xs (i + 2)))) fun r107 δ108 =>
  bndN (f_M_thrown δ108 ) fun r109 δ110 =>
  if r109 = r102 then
  (if r102 ≠ 0 then
  (chk (i32 (i + 6)) (f_law xs L n γ103 δ110 w104 (i + 6)))
  else
  (if r107 = 0 then
  (if iL w104 = iL 0 then (chk (i32 (i + 6)) (f_law xs L n γ103 δ110 w104 (i + 6))) else (none))
  else
  (if iL w104 = iL 1 then (chk (i32 (i + 6)) (f_law xs L n γ103 δ110 w104 (i + 6))) else (none))))
  else
  (none))))))))))
  else if (iand (sv xs (i)) 15) = 9 then
  (bndW (e_L_restart γ w ) fun r115 γ116 w117 =>
  bndN (f_M_restart δ ) fun r118 δ119 =>
  bndN (f_M_thrown δ119 ) fun r120 δ121 =>
  if r120 = r115 then
  (if r115 ≠ 0 then
  (chk (i32 (i + 6)) (f_law xs L n γ116 δ121 w117 (i + 6)))
  else
  (if iL w117 = iL r118 then (chk (i32 (i + 6)) (f_law xs L n γ116 δ121 w117 (i + 6))) else (none)))
  else
  (none))
  else if (iand (sv xs (i)) 15) = 10 then
  (bndW (e_L_keep γ w ) fun r125 γ126 w127 =>
  bndN (f_M_keep δ ) fun _ δ129 =>
  bndN (f_M_thrown δ129 ) fun r130 δ131 =>
  if r130 = r125 then
  (chk (i32 (i + 6)) (f_law xs L n γ126 δ131 w127 (i + 6)))
  else
  (none))
  else if (iand (sv xs (i)) 15) = 11 then
  (bndW (e_L_back γ w ) fun r134 γ135 w136 =>
  bndN (f_M_back δ ) fun r137 δ138 =>
  bndN (f_M_thrown δ138 ) fun r139 δ140 =>
  if r139 = r134 then
  (if r134 ≠ 0 then
  (chk (i32 (i + 6)) (f_law xs L n γ135 δ140 w136 (i + 6)))
  else
  (if iL w136 = iL r137 then (chk (i32 (i + 6)) (f_law xs L n γ135 δ140 w136 (i + 6))) else (none)))
  else
  (none))
  else if (iand (sv xs (i)) 15) = 12 then
  (chk (i32 (i + 1)) (chk (inb (i + 1) L) (bndN (f_S_count γ ((sv xs (i + 1)))) fun r145 γ146 =>
  chk (i32 (i + 1)) (chk (inb (i + 1) L) (bndN (f_M_count δ ((sv xs (i + 1)))) fun r148 δ149 =>
  if r145 = r148 then
  (chk (i32 (i + 6)) (f_law xs L n γ146 δ149 w (i + 6)))
  else
  (none))))))
  else (chk (i32 (i + 6)) (f_law xs L n γ δ w (i + 6))))))
set_option maxHeartbeats 8000000 in
theorem s_law {Γ : Ctx} (hno : Γ.l.stackTraces = false) {b L : Nat} {xs : Nat → Int32} (hL : L ≤ 3072) : ∀ (n : Nat) (γ δ : St) (w i : Int) (ce sl : Nat), i32 i → ce + 2 * n ≤ room_1.cells → sl + 40 * n ≤ room_1.slots → SL Γ (b, L, xs) mt_L_law room_1 ce sl KW 23 [(4, vI i), (0, .ref b), (1, vR Γ 0), (2, vR Γ 88), (3, vR Γ 147)] [] (cmb γ δ w) (f_law xs L n γ δ w i) := by
  have hLi : i32 (L : Int) := by omega
  have hrc : 600000 ≤ room_1.cells := by decide
  have hrs : 7000000 ≤ room_1.slots := by decide
  intro n
  induction n with
  | zero => intros; exact sm_none
  | succ n ih =>
    intro γ δ w i ce sl hi hce hsl
    unfold f_law
    refine sm_iload 0 d_L_law_23 rfl ?_
    refine sm_aload_n 1 d_L_law_25 rfl ?_
    refine sm_slen d_L_law_26 ?_
    refine sm_bipush d_L_law_27 (by decide) ?_
    refine sm_isub d_L_law_29 ?_
    refine sm_chk (fun c1 => ?_)
    refine sm_icmp_gt 771 hi c1 d_L_law_30 (by decide) (fun _ => ?_) (fun _ => ?_)
    · refine sm_iconst d_L_law_771 ?_
      exact sm_end d_L_law_772
    · refine sm_aload_n 1 d_L_law_33 rfl ?_
      refine sm_iload 0 d_L_law_34 rfl ?_
      refine sm_sld hL d_L_law_36 ?_
      refine sm_bipush d_L_law_37 (by decide) ?_
      refine sm_iand d_L_law_39 ?_
      refine sm_tc (off := 68) 0 108 (iand_b _ _) d_L_law_40 (by decide) (by decide) (fun _ => ?_) (fun n21 => ?_)
      · refine sm_aload_n 2 d_L_law_108 rfl ?_
        refine sm_aload_n 1 d_L_law_109 rfl ?_
        refine sm_iload 0 d_L_law_110 rfl ?_
        refine sm_iconst d_L_law_112 ?_
        refine sm_iadd d_L_law_113 ?_
        refine sm_chk (fun c2 => ?_)
        refine sm_sld hL d_L_law_114 ?_
        refine sm_aload_n 1 d_L_law_115 rfl ?_
        refine sm_iload 0 d_L_law_116 rfl ?_
        refine sm_iconst d_L_law_118 ?_
        refine sm_iadd d_L_law_119 ?_
        refine sm_chk (fun c3 => ?_)
        refine sm_sld hL d_L_law_120 ?_
        refine sm_aload_n 1 d_L_law_121 rfl ?_
        refine sm_iload 0 d_L_law_122 rfl ?_
        refine sm_iconst d_L_law_124 ?_
        refine sm_iadd d_L_law_125 ?_
        refine sm_chk (fun c4 => ?_)
        refine sm_sld hL d_L_law_126 ?_
        refine sm_aload_n 1 d_L_law_127 rfl ?_
        refine sm_iload 0 d_L_law_128 rfl ?_
        refine sm_iconst d_L_law_130 ?_
        refine sm_iadd d_L_law_131 ?_
        refine sm_chk (fun c5 => ?_)
        refine sm_sld hL d_L_law_132 ?_
        refine sm_aload_n 1 d_L_law_133 rfl ?_
        refine sm_iload 0 d_L_law_134 rfl ?_
        refine sm_iconst d_L_law_136 ?_
        refine sm_iadd d_L_law_137 ?_
        refine sm_chk (fun c6 => ?_)
        refine sm_sld hL d_L_law_138 ?_
        refine sm_aload_n 4 d_L_law_139 rfl ?_
        refine sm_HH (h_L_feed hno γ δ w ((sv xs (i + 1))) ((sv xs (i + 2))) ((sv xs (i + 3))) ((sv xs (i + 4))) ((sv xs (i + 5))) (sv_b _ _) (sv_b _ _) (sv_b _ _) (sv_b _ _) (sv_b _ _)) (ef_L_feed γ δ w ((sv xs (i + 1))) ((sv xs (i + 2))) ((sv xs (i + 3))) ((sv xs (i + 4))) ((sv xs (i + 5)))) cw_L_feed ml_L_55 sm_L_feed in_L (n := 7) (by decide +kernel) (As := [vR Γ 0, vI (sv xs (i + 1)), vI (sv xs (i + 2)), vI (sv xs (i + 3)), vI (sv xs (i + 4)), vI (sv xs (i + 5)), vR Γ 147]) rfl rfl (Nat.le_of_ble_eq_true rfl) ⟨by decide, by decide⟩ ⟨by omega, by omega⟩ d_L_law_140 (fun r7 γ8 w9 hr7 => ?_)
        refine sm_istore [(5, vI r7), (4, vI i), (0, .ref b), (1, vR Γ 0), (2, vR Γ 88), (3, vR Γ 147)] d_L_law_143 (by decide) rfl ?_
        refine sm_aload_n 4 d_L_law_145 rfl ?_
        refine sm_aload_n 2 d_L_law_146 rfl ?_
        refine sm_iload 1 d_L_law_147 rfl ?_
        refine sm_iconst d_L_law_149 ?_
        refine sm_iadd d_L_law_150 ?_
        refine sm_chk (fun c10 => ?_)
        refine sm_sld hL d_L_law_151 ?_
        refine sm_aload_n 2 d_L_law_152 rfl ?_
        refine sm_iload 1 d_L_law_153 rfl ?_
        refine sm_iconst d_L_law_155 ?_
        refine sm_iadd d_L_law_156 ?_
        refine sm_chk (fun c11 => ?_)
        refine sm_sld hL d_L_law_157 ?_
        refine sm_aload_n 2 d_L_law_158 rfl ?_
        refine sm_iload 1 d_L_law_159 rfl ?_
        refine sm_iconst d_L_law_161 ?_
        refine sm_iadd d_L_law_162 ?_
        refine sm_chk (fun c12 => ?_)
        refine sm_sld hL d_L_law_163 ?_
        refine sm_aload_n 2 d_L_law_164 rfl ?_
        refine sm_iload 1 d_L_law_165 rfl ?_
        refine sm_iconst d_L_law_167 ?_
        refine sm_iadd d_L_law_168 ?_
        refine sm_chk (fun c13 => ?_)
        refine sm_sld hL d_L_law_169 ?_
        refine sm_aload_n 2 d_L_law_170 rfl ?_
        refine sm_iload 1 d_L_law_171 rfl ?_
        refine sm_iconst d_L_law_173 ?_
        refine sm_iadd d_L_law_174 ?_
        refine sm_chk (fun c14 => ?_)
        refine sm_sld hL d_L_law_175 ?_
        refine sm_VMi vf_M_feed (c_M_feed δ ((sv xs (i + 1))) ((sv xs (i + 2))) ((sv xs (i + 3))) ((sv xs (i + 4))) ((sv xs (i + 5))) (sv_b _ _) (sv_b _ _) (sv_b _ _) (sv_b _ _) (sv_b _ _)) ml_L_60 (As := [vI (sv xs (i + 1)), vI (sv xs (i + 2)), vI (sv xs (i + 3)), vI (sv xs (i + 4)), vI (sv xs (i + 5))]) rfl rfl (Nat.le_of_ble_eq_true rfl) ⟨by decide, by decide⟩ d_L_law_176 (fun r15 δ16 hr15 => ?_)
        refine sm_istore [(6, vI r15), (5, vI r7), (4, vI i), (0, .ref b), (1, vR Γ 0), (2, vR Γ 88), (3, vR Γ 147)] d_L_law_179 (by decide) rfl ?_
        refine sm_aload_n 5 d_L_law_181 rfl ?_
        refine sm_VMi vf_M_thrown (c_M_thrown δ16  ) ml_L_61 (As := []) rfl rfl (Nat.le_of_ble_eq_true rfl) ⟨by decide, by decide⟩ d_L_law_182 (fun r17 δ18 hr17 => ?_)
        refine sm_iload 1 d_L_law_185 rfl ?_
        refine sm_icmp_eq 192 hr17 hr7 d_L_law_187 (by decide) (fun _ => ?_) (fun _ => ?_)
        · refine sm_iload 1 d_L_law_192 rfl ?_
          refine sm_if_ne 209 hr7 d_L_law_194 (by decide) (fun _ => ?_) (fun _ => ?_)
          · refine sm_goto 765 d_L_law_209 (by decide) ?_
            refine sm_iinc 2 [(4, vI (i + 6)), (6, vI r15), (5, vI r7), (0, .ref b), (1, vR Γ 0), (2, vR Γ 88), (3, vR Γ 147)] d_L_law_765 rfl (by decide) rfl ?_
            refine sm_chk (fun c19 => ?_)
            refine sm_goto 23 d_L_law_768 (by decide) ?_
            exact sm_lv [0, 3, 4, 5, 6] rfl (ih γ8 δ18 w9 (i + 6) _ _ c19 (by omega) (by omega))
          · refine sm_aload_n 6 d_L_law_197 rfl ?_
            refine sm_iconst d_L_law_198 ?_
            refine sm_ol d_L_law_199 ?_
            refine sm_iload 0 d_L_law_200 rfl ?_
            refine sm_i2l hr15 d_L_law_202 ?_
            refine sm_leq 209 d_L_law_203 d_L_law_204 (by decide) ?_ ?_
            · refine sm_goto 765 d_L_law_209 (by decide) ?_
              refine sm_iinc 2 [(4, vI (i + 6)), (6, vI r15), (5, vI r7), (0, .ref b), (1, vR Γ 0), (2, vR Γ 88), (3, vR Γ 147)] d_L_law_765 rfl (by decide) rfl ?_
              refine sm_chk (fun c20 => ?_)
              refine sm_goto 23 d_L_law_768 (by decide) ?_
              exact sm_lv [0, 3, 4, 5, 6] rfl (ih γ8 δ18 w9 (i + 6) _ _ c20 (by omega) (by omega))
            · exact sm_none
        · exact sm_none
      refine sm_tc (off := 172) 1 212 (iand_b _ _) d_L_law_40 (by decide) (by decide) (fun _ => ?_) (fun n33 => ?_)
      · refine sm_aload_n 2 d_L_law_212 rfl ?_
        refine sm_aload_n 1 d_L_law_213 rfl ?_
        refine sm_iload 0 d_L_law_214 rfl ?_
        refine sm_iconst d_L_law_216 ?_
        refine sm_iadd d_L_law_217 ?_
        refine sm_chk (fun c22 => ?_)
        refine sm_sld hL d_L_law_218 ?_
        refine sm_aload_n 4 d_L_law_219 rfl ?_
        refine sm_HH (h_L_end hno γ δ w ((sv xs (i + 1))) (sv_b _ _)) (ef_L_end γ δ w ((sv xs (i + 1)))) cw_L_end ml_L_64 sm_L_end in_L (n := 3) (by decide +kernel) (As := [vR Γ 0, vI (sv xs (i + 1)), vR Γ 147]) rfl rfl (Nat.le_of_ble_eq_true rfl) ⟨by decide, by decide⟩ ⟨by omega, by omega⟩ d_L_law_220 (fun r23 γ24 w25 hr23 => ?_)
        refine sm_istore [(5, vI r23), (4, vI i), (0, .ref b), (1, vR Γ 0), (2, vR Γ 88), (3, vR Γ 147)] d_L_law_223 (by decide) rfl ?_
        refine sm_aload_n 4 d_L_law_225 rfl ?_
        refine sm_aload_n 2 d_L_law_226 rfl ?_
        refine sm_iload 1 d_L_law_227 rfl ?_
        refine sm_iconst d_L_law_229 ?_
        refine sm_iadd d_L_law_230 ?_
        refine sm_chk (fun c26 => ?_)
        refine sm_sld hL d_L_law_231 ?_
        refine sm_VMi vf_M_end (c_M_end δ ((sv xs (i + 1))) (sv_b _ _)) ml_L_67 (As := [vI (sv xs (i + 1))]) rfl rfl (Nat.le_of_ble_eq_true rfl) ⟨by decide, by decide⟩ d_L_law_232 (fun r27 δ28 hr27 => ?_)
        refine sm_istore [(6, vI r27), (5, vI r23), (4, vI i), (0, .ref b), (1, vR Γ 0), (2, vR Γ 88), (3, vR Γ 147)] d_L_law_235 (by decide) rfl ?_
        refine sm_aload_n 5 d_L_law_237 rfl ?_
        refine sm_VMi vf_M_thrown (c_M_thrown δ28  ) ml_L_61 (As := []) rfl rfl (Nat.le_of_ble_eq_true rfl) ⟨by decide, by decide⟩ d_L_law_238 (fun r29 δ30 hr29 => ?_)
        refine sm_iload 1 d_L_law_241 rfl ?_
        refine sm_icmp_eq 248 hr29 hr23 d_L_law_243 (by decide) (fun _ => ?_) (fun _ => ?_)
        · refine sm_iload 1 d_L_law_248 rfl ?_
          refine sm_if_ne 265 hr23 d_L_law_250 (by decide) (fun _ => ?_) (fun _ => ?_)
          · refine sm_goto 765 d_L_law_265 (by decide) ?_
            refine sm_iinc 2 [(4, vI (i + 6)), (6, vI r27), (5, vI r23), (0, .ref b), (1, vR Γ 0), (2, vR Γ 88), (3, vR Γ 147)] d_L_law_765 rfl (by decide) rfl ?_
            refine sm_chk (fun c31 => ?_)
            refine sm_goto 23 d_L_law_768 (by decide) ?_
            exact sm_lv [0, 3, 4, 5, 6] rfl (ih γ24 δ30 w25 (i + 6) _ _ c31 (by omega) (by omega))
          · refine sm_aload_n 6 d_L_law_253 rfl ?_
            refine sm_iconst d_L_law_254 ?_
            refine sm_ol d_L_law_255 ?_
            refine sm_iload 0 d_L_law_256 rfl ?_
            refine sm_i2l hr27 d_L_law_258 ?_
            refine sm_leq 265 d_L_law_259 d_L_law_260 (by decide) ?_ ?_
            · refine sm_goto 765 d_L_law_265 (by decide) ?_
              refine sm_iinc 2 [(4, vI (i + 6)), (6, vI r27), (5, vI r23), (0, .ref b), (1, vR Γ 0), (2, vR Γ 88), (3, vR Γ 147)] d_L_law_765 rfl (by decide) rfl ?_
              refine sm_chk (fun c32 => ?_)
              refine sm_goto 23 d_L_law_768 (by decide) ?_
              exact sm_lv [0, 3, 4, 5, 6] rfl (ih γ24 δ30 w25 (i + 6) _ _ c32 (by omega) (by omega))
            · exact sm_none
        · exact sm_none
      refine sm_tc (off := 228) 2 268 (iand_b _ _) d_L_law_40 (by decide) (by decide) (fun _ => ?_) (fun n39 => ?_)
      · refine sm_aload_n 2 d_L_law_268 rfl ?_
        refine sm_VSi vf_S_read (c_S_read γ  ) ml_L_68 (As := []) rfl rfl (Nat.le_of_ble_eq_true rfl) ⟨by decide, by decide⟩ d_L_law_269 (fun r34 γ35 hr34 => ?_)
        refine sm_aload_n 3 d_L_law_272 rfl ?_
        refine sm_RM ml_L_71 rfl (Nat.le_of_ble_eq_true rfl) ⟨by decide, by decide⟩ ⟨by omega, by omega⟩ d_L_law_273 (fun r36 δ37 hr36 => ?_)
        refine sm_icmp_eq 765 hr34 hr36 d_L_law_276 (by decide) (fun _ => ?_) (fun _ => ?_)
        · refine sm_iinc 0 [(4, vI (i + 6)), (0, .ref b), (1, vR Γ 0), (2, vR Γ 88), (3, vR Γ 147)] d_L_law_765 rfl (by decide) rfl ?_
          refine sm_chk (fun c38 => ?_)
          refine sm_goto 23 d_L_law_768 (by decide) ?_
          exact sm_lv [0, 1, 2, 3, 4] rfl (ih γ35 δ37 w (i + 6) _ _ c38 (by omega) (by omega))
        · exact sm_none
      refine sm_tc (off := 241) 3 281 (iand_b _ _) d_L_law_40 (by decide) (by decide) (fun _ => ?_) (fun n47 => ?_)
      · refine sm_aload_n 2 d_L_law_281 rfl ?_
        refine sm_aload_n 1 d_L_law_282 rfl ?_
        refine sm_iload 0 d_L_law_283 rfl ?_
        refine sm_iconst d_L_law_285 ?_
        refine sm_iadd d_L_law_286 ?_
        refine sm_chk (fun c40 => ?_)
        refine sm_sld hL d_L_law_287 ?_
        refine sm_VSi vf_S_fault (c_S_fault γ ((sv xs (i + 1))) (sv_b _ _)) ml_L_72 (As := [vI (sv xs (i + 1))]) rfl rfl (Nat.le_of_ble_eq_true rfl) ⟨by decide, by decide⟩ d_L_law_288 (fun r41 γ42 hr41 => ?_)
        refine sm_aload_n 3 d_L_law_291 rfl ?_
        refine sm_aload_n 1 d_L_law_292 rfl ?_
        refine sm_iload 0 d_L_law_293 rfl ?_
        refine sm_iconst d_L_law_295 ?_
        refine sm_iadd d_L_law_296 ?_
        refine sm_chk (fun c43 => ?_)
        refine sm_sld hL d_L_law_297 ?_
        refine sm_VMi vf_M_fault (c_M_fault δ ((sv xs (i + 1))) (sv_b _ _)) ml_L_75 (As := [vI (sv xs (i + 1))]) rfl rfl (Nat.le_of_ble_eq_true rfl) ⟨by decide, by decide⟩ d_L_law_298 (fun r44 δ45 hr44 => ?_)
        refine sm_icmp_eq 765 hr41 hr44 d_L_law_301 (by decide) (fun _ => ?_) (fun _ => ?_)
        · refine sm_iinc 0 [(4, vI (i + 6)), (0, .ref b), (1, vR Γ 0), (2, vR Γ 88), (3, vR Γ 147)] d_L_law_765 rfl (by decide) rfl ?_
          refine sm_chk (fun c46 => ?_)
          refine sm_goto 23 d_L_law_768 (by decide) ?_
          exact sm_lv [0, 1, 2, 3, 4] rfl (ih γ42 δ45 w (i + 6) _ _ c46 (by omega) (by omega))
        · exact sm_none
      refine sm_tc (off := 266) 4 306 (iand_b _ _) d_L_law_40 (by decide) (by decide) (fun _ => ?_) (fun n61 => ?_)
      · refine sm_aload_n 2 d_L_law_306 rfl ?_
        refine sm_aload_n 1 d_L_law_307 rfl ?_
        refine sm_iload 0 d_L_law_308 rfl ?_
        refine sm_iconst d_L_law_310 ?_
        refine sm_iadd d_L_law_311 ?_
        refine sm_chk (fun c48 => ?_)
        refine sm_sld hL d_L_law_312 ?_
        refine sm_aload_n 1 d_L_law_313 rfl ?_
        refine sm_iload 0 d_L_law_314 rfl ?_
        refine sm_iconst d_L_law_316 ?_
        refine sm_iadd d_L_law_317 ?_
        refine sm_chk (fun c49 => ?_)
        refine sm_sld hL d_L_law_318 ?_
        refine sm_aload_n 4 d_L_law_319 rfl ?_
        refine sm_HH (h_L_input hno γ δ w ((sv xs (i + 1))) ((sv xs (i + 2))) (sv_b _ _) (sv_b _ _)) (ef_L_input γ δ w ((sv xs (i + 1))) ((sv xs (i + 2)))) cw_L_input ml_L_76 sm_L_input in_L (n := 4) (by decide +kernel) (As := [vR Γ 0, vI (sv xs (i + 1)), vI (sv xs (i + 2)), vR Γ 147]) rfl rfl (Nat.le_of_ble_eq_true rfl) ⟨by decide, by decide⟩ ⟨by omega, by omega⟩ d_L_law_320 (fun r50 γ51 w52 hr50 => ?_)
        refine sm_istore [(5, vI r50), (4, vI i), (0, .ref b), (1, vR Γ 0), (2, vR Γ 88), (3, vR Γ 147)] d_L_law_323 (by decide) rfl ?_
        refine sm_aload_n 4 d_L_law_325 rfl ?_
        refine sm_aload_n 2 d_L_law_326 rfl ?_
        refine sm_iload 1 d_L_law_327 rfl ?_
        refine sm_iconst d_L_law_329 ?_
        refine sm_iadd d_L_law_330 ?_
        refine sm_chk (fun c53 => ?_)
        refine sm_sld hL d_L_law_331 ?_
        refine sm_aload_n 2 d_L_law_332 rfl ?_
        refine sm_iload 1 d_L_law_333 rfl ?_
        refine sm_iconst d_L_law_335 ?_
        refine sm_iadd d_L_law_336 ?_
        refine sm_chk (fun c54 => ?_)
        refine sm_sld hL d_L_law_337 ?_
        refine sm_VMi vf_M_input (c_M_input δ ((sv xs (i + 1))) ((sv xs (i + 2))) (sv_b _ _) (sv_b _ _)) ml_L_79 (As := [vI (sv xs (i + 1)), vI (sv xs (i + 2))]) rfl rfl (Nat.le_of_ble_eq_true rfl) ⟨by decide, by decide⟩ d_L_law_338 (fun r55 δ56 hr55 => ?_)
        refine sm_istore [(6, vI r55), (5, vI r50), (4, vI i), (0, .ref b), (1, vR Γ 0), (2, vR Γ 88), (3, vR Γ 147)] d_L_law_341 (by decide) rfl ?_
        refine sm_aload_n 5 d_L_law_343 rfl ?_
        refine sm_VMi vf_M_thrown (c_M_thrown δ56  ) ml_L_61 (As := []) rfl rfl (Nat.le_of_ble_eq_true rfl) ⟨by decide, by decide⟩ d_L_law_344 (fun r57 δ58 hr57 => ?_)
        refine sm_iload 1 d_L_law_347 rfl ?_
        refine sm_icmp_eq 354 hr57 hr50 d_L_law_349 (by decide) (fun _ => ?_) (fun _ => ?_)
        · refine sm_iload 1 d_L_law_354 rfl ?_
          refine sm_if_ne 371 hr50 d_L_law_356 (by decide) (fun _ => ?_) (fun _ => ?_)
          · refine sm_goto 765 d_L_law_371 (by decide) ?_
            refine sm_iinc 2 [(4, vI (i + 6)), (6, vI r55), (5, vI r50), (0, .ref b), (1, vR Γ 0), (2, vR Γ 88), (3, vR Γ 147)] d_L_law_765 rfl (by decide) rfl ?_
            refine sm_chk (fun c59 => ?_)
            refine sm_goto 23 d_L_law_768 (by decide) ?_
            exact sm_lv [0, 3, 4, 5, 6] rfl (ih γ51 δ58 w52 (i + 6) _ _ c59 (by omega) (by omega))
          · refine sm_aload_n 6 d_L_law_359 rfl ?_
            refine sm_iconst d_L_law_360 ?_
            refine sm_ol d_L_law_361 ?_
            refine sm_iload 0 d_L_law_362 rfl ?_
            refine sm_i2l hr55 d_L_law_364 ?_
            refine sm_leq 371 d_L_law_365 d_L_law_366 (by decide) ?_ ?_
            · refine sm_goto 765 d_L_law_371 (by decide) ?_
              refine sm_iinc 2 [(4, vI (i + 6)), (6, vI r55), (5, vI r50), (0, .ref b), (1, vR Γ 0), (2, vR Γ 88), (3, vR Γ 147)] d_L_law_765 rfl (by decide) rfl ?_
              refine sm_chk (fun c60 => ?_)
              refine sm_goto 23 d_L_law_768 (by decide) ?_
              exact sm_lv [0, 3, 4, 5, 6] rfl (ih γ51 δ58 w52 (i + 6) _ _ c60 (by omega) (by omega))
            · exact sm_none
        · exact sm_none
      refine sm_tc (off := 334) 5 374 (iand_b _ _) d_L_law_40 (by decide) (by decide) (fun _ => ?_) (fun n73 => ?_)
      · refine sm_aload_n 2 d_L_law_374 rfl ?_
        refine sm_aload_n 1 d_L_law_375 rfl ?_
        refine sm_iload 0 d_L_law_376 rfl ?_
        refine sm_iconst d_L_law_378 ?_
        refine sm_iadd d_L_law_379 ?_
        refine sm_chk (fun c62 => ?_)
        refine sm_sld hL d_L_law_380 ?_
        refine sm_aload_n 4 d_L_law_381 rfl ?_
        refine sm_HH (h_L_tick hno γ δ w ((sv xs (i + 1))) (sv_b _ _)) (ef_L_tick γ δ w ((sv xs (i + 1)))) cw_L_tick ml_L_80 sm_L_tick in_L (n := 3) (by decide +kernel) (As := [vR Γ 0, vI (sv xs (i + 1)), vR Γ 147]) rfl rfl (Nat.le_of_ble_eq_true rfl) ⟨by decide, by decide⟩ ⟨by omega, by omega⟩ d_L_law_382 (fun r63 γ64 w65 hr63 => ?_)
        refine sm_istore [(5, vI r63), (4, vI i), (0, .ref b), (1, vR Γ 0), (2, vR Γ 88), (3, vR Γ 147)] d_L_law_385 (by decide) rfl ?_
        refine sm_aload_n 4 d_L_law_387 rfl ?_
        refine sm_aload_n 2 d_L_law_388 rfl ?_
        refine sm_iload 1 d_L_law_389 rfl ?_
        refine sm_iconst d_L_law_391 ?_
        refine sm_iadd d_L_law_392 ?_
        refine sm_chk (fun c66 => ?_)
        refine sm_sld hL d_L_law_393 ?_
        refine sm_VMi vf_M_tick (c_M_tick δ ((sv xs (i + 1))) (sv_b _ _)) ml_L_82 (As := [vI (sv xs (i + 1))]) rfl rfl (Nat.le_of_ble_eq_true rfl) ⟨by decide, by decide⟩ d_L_law_394 (fun r67 δ68 hr67 => ?_)
        refine sm_istore [(6, vI r67), (5, vI r63), (4, vI i), (0, .ref b), (1, vR Γ 0), (2, vR Γ 88), (3, vR Γ 147)] d_L_law_397 (by decide) rfl ?_
        refine sm_aload_n 5 d_L_law_399 rfl ?_
        refine sm_VMi vf_M_thrown (c_M_thrown δ68  ) ml_L_61 (As := []) rfl rfl (Nat.le_of_ble_eq_true rfl) ⟨by decide, by decide⟩ d_L_law_400 (fun r69 δ70 hr69 => ?_)
        refine sm_iload 1 d_L_law_403 rfl ?_
        refine sm_icmp_eq 410 hr69 hr63 d_L_law_405 (by decide) (fun _ => ?_) (fun _ => ?_)
        · refine sm_iload 1 d_L_law_410 rfl ?_
          refine sm_if_ne 427 hr63 d_L_law_412 (by decide) (fun _ => ?_) (fun _ => ?_)
          · refine sm_goto 765 d_L_law_427 (by decide) ?_
            refine sm_iinc 2 [(4, vI (i + 6)), (6, vI r67), (5, vI r63), (0, .ref b), (1, vR Γ 0), (2, vR Γ 88), (3, vR Γ 147)] d_L_law_765 rfl (by decide) rfl ?_
            refine sm_chk (fun c71 => ?_)
            refine sm_goto 23 d_L_law_768 (by decide) ?_
            exact sm_lv [0, 3, 4, 5, 6] rfl (ih γ64 δ70 w65 (i + 6) _ _ c71 (by omega) (by omega))
          · refine sm_aload_n 6 d_L_law_415 rfl ?_
            refine sm_iconst d_L_law_416 ?_
            refine sm_ol d_L_law_417 ?_
            refine sm_iload 0 d_L_law_418 rfl ?_
            refine sm_i2l hr67 d_L_law_420 ?_
            refine sm_leq 427 d_L_law_421 d_L_law_422 (by decide) ?_ ?_
            · refine sm_goto 765 d_L_law_427 (by decide) ?_
              refine sm_iinc 2 [(4, vI (i + 6)), (6, vI r67), (5, vI r63), (0, .ref b), (1, vR Γ 0), (2, vR Γ 88), (3, vR Γ 147)] d_L_law_765 rfl (by decide) rfl ?_
              refine sm_chk (fun c72 => ?_)
              refine sm_goto 23 d_L_law_768 (by decide) ?_
              exact sm_lv [0, 3, 4, 5, 6] rfl (ih γ64 δ70 w65 (i + 6) _ _ c72 (by omega) (by omega))
            · exact sm_none
        · exact sm_none
      refine sm_tc (off := 390) 6 430 (iand_b _ _) d_L_law_40 (by decide) (by decide) (fun _ => ?_) (fun n85 => ?_)
      · refine sm_aload_n 2 d_L_law_430 rfl ?_
        refine sm_aload_n 1 d_L_law_431 rfl ?_
        refine sm_iload 0 d_L_law_432 rfl ?_
        refine sm_iconst d_L_law_434 ?_
        refine sm_iadd d_L_law_435 ?_
        refine sm_chk (fun c74 => ?_)
        refine sm_sld hL d_L_law_436 ?_
        refine sm_aload_n 4 d_L_law_437 rfl ?_
        refine sm_HH (h_L_value hno γ δ w ((sv xs (i + 1))) (sv_b _ _)) (ef_L_value γ δ w ((sv xs (i + 1)))) cw_L_value ml_L_83 sm_L_value in_L (n := 3) (by decide +kernel) (As := [vR Γ 0, vI (sv xs (i + 1)), vR Γ 147]) rfl rfl (Nat.le_of_ble_eq_true rfl) ⟨by decide, by decide⟩ ⟨by omega, by omega⟩ d_L_law_438 (fun r75 γ76 w77 hr75 => ?_)
        refine sm_istore [(5, vI r75), (4, vI i), (0, .ref b), (1, vR Γ 0), (2, vR Γ 88), (3, vR Γ 147)] d_L_law_441 (by decide) rfl ?_
        refine sm_aload_n 4 d_L_law_443 rfl ?_
        refine sm_aload_n 2 d_L_law_444 rfl ?_
        refine sm_iload 1 d_L_law_445 rfl ?_
        refine sm_iconst d_L_law_447 ?_
        refine sm_iadd d_L_law_448 ?_
        refine sm_chk (fun c78 => ?_)
        refine sm_sld hL d_L_law_449 ?_
        refine sm_VMl vf_M_value (c_M_value δ ((sv xs (i + 1))) (sv_b _ _)) ml_L_85 (As := [vI (sv xs (i + 1))]) rfl rfl (Nat.le_of_ble_eq_true rfl) ⟨by decide, by decide⟩ d_L_law_450 (fun r79 δ80 => ?_)
        refine sm_lstore [(6, .long (iL r79)), (5, vI r75), (4, vI i), (0, .ref b), (1, vR Γ 0), (2, vR Γ 88), (3, vR Γ 147)] d_L_law_453 (by decide) rfl ?_
        refine sm_aload_n 5 d_L_law_455 rfl ?_
        refine sm_VMi vf_M_thrown (c_M_thrown δ80  ) ml_L_61 (As := []) rfl rfl (Nat.le_of_ble_eq_true rfl) ⟨by decide, by decide⟩ d_L_law_456 (fun r81 δ82 hr81 => ?_)
        refine sm_iload 1 d_L_law_459 rfl ?_
        refine sm_icmp_eq 466 hr81 hr75 d_L_law_461 (by decide) (fun _ => ?_) (fun _ => ?_)
        · refine sm_iload 1 d_L_law_466 rfl ?_
          refine sm_if_ne 482 hr75 d_L_law_468 (by decide) (fun _ => ?_) (fun _ => ?_)
          · refine sm_goto 765 d_L_law_482 (by decide) ?_
            refine sm_iinc 2 [(4, vI (i + 6)), (6, .long (iL r79)), (5, vI r75), (0, .ref b), (1, vR Γ 0), (2, vR Γ 88), (3, vR Γ 147)] d_L_law_765 rfl (by decide) rfl ?_
            refine sm_chk (fun c83 => ?_)
            refine sm_goto 23 d_L_law_768 (by decide) ?_
            exact sm_lv [0, 3, 4, 5, 6] rfl (ih γ76 δ82 w77 (i + 6) _ _ c83 (by omega) (by omega))
          · refine sm_aload_n 6 d_L_law_471 rfl ?_
            refine sm_iconst d_L_law_472 ?_
            refine sm_ol d_L_law_473 ?_
            refine sm_lload 0 d_L_law_474 rfl ?_
            refine sm_leq 482 d_L_law_476 d_L_law_477 (by decide) ?_ ?_
            · refine sm_goto 765 d_L_law_482 (by decide) ?_
              refine sm_iinc 2 [(4, vI (i + 6)), (6, .long (iL r79)), (5, vI r75), (0, .ref b), (1, vR Γ 0), (2, vR Γ 88), (3, vR Γ 147)] d_L_law_765 rfl (by decide) rfl ?_
              refine sm_chk (fun c84 => ?_)
              refine sm_goto 23 d_L_law_768 (by decide) ?_
              exact sm_lv [0, 3, 4, 5, 6] rfl (ih γ76 δ82 w77 (i + 6) _ _ c84 (by omega) (by omega))
            · exact sm_none
        · exact sm_none
      refine sm_tc (off := 445) 7 485 (iand_b _ _) d_L_law_40 (by decide) (by decide) (fun _ => ?_) (fun n99 => ?_)
      · refine sm_aload_n 2 d_L_law_485 rfl ?_
        refine sm_aload_n 1 d_L_law_486 rfl ?_
        refine sm_iload 0 d_L_law_487 rfl ?_
        refine sm_iconst d_L_law_489 ?_
        refine sm_iadd d_L_law_490 ?_
        refine sm_chk (fun c86 => ?_)
        refine sm_sld hL d_L_law_491 ?_
        refine sm_aload_n 1 d_L_law_492 rfl ?_
        refine sm_iload 0 d_L_law_493 rfl ?_
        refine sm_iconst d_L_law_495 ?_
        refine sm_iadd d_L_law_496 ?_
        refine sm_chk (fun c87 => ?_)
        refine sm_sld hL d_L_law_497 ?_
        refine sm_aload_n 4 d_L_law_498 rfl ?_
        refine sm_HH (h_L_about hno γ δ w ((sv xs (i + 1))) ((sv xs (i + 2))) (sv_b _ _) (sv_b _ _)) (ef_L_about γ δ w ((sv xs (i + 1))) ((sv xs (i + 2)))) cw_L_about ml_L_86 sm_L_about in_L (n := 4) (by decide +kernel) (As := [vR Γ 0, vI (sv xs (i + 1)), vI (sv xs (i + 2)), vR Γ 147]) rfl rfl (Nat.le_of_ble_eq_true rfl) ⟨by decide, by decide⟩ ⟨by omega, by omega⟩ d_L_law_499 (fun r88 γ89 w90 hr88 => ?_)
        refine sm_istore [(5, vI r88), (4, vI i), (0, .ref b), (1, vR Γ 0), (2, vR Γ 88), (3, vR Γ 147)] d_L_law_502 (by decide) rfl ?_
        refine sm_aload_n 4 d_L_law_504 rfl ?_
        refine sm_aload_n 2 d_L_law_505 rfl ?_
        refine sm_iload 1 d_L_law_506 rfl ?_
        refine sm_iconst d_L_law_508 ?_
        refine sm_iadd d_L_law_509 ?_
        refine sm_chk (fun c91 => ?_)
        refine sm_sld hL d_L_law_510 ?_
        refine sm_aload_n 2 d_L_law_511 rfl ?_
        refine sm_iload 1 d_L_law_512 rfl ?_
        refine sm_iconst d_L_law_514 ?_
        refine sm_iadd d_L_law_515 ?_
        refine sm_chk (fun c92 => ?_)
        refine sm_sld hL d_L_law_516 ?_
        refine sm_VMi vf_M_about (c_M_about δ ((sv xs (i + 1))) ((sv xs (i + 2))) (sv_b _ _) (sv_b _ _)) ml_L_88 (As := [vI (sv xs (i + 1)), vI (sv xs (i + 2))]) rfl rfl (Nat.le_of_ble_eq_true rfl) ⟨by decide, by decide⟩ d_L_law_517 (fun r93 δ94 hr93 => ?_)
        refine sm_istore [(6, vI r93), (5, vI r88), (4, vI i), (0, .ref b), (1, vR Γ 0), (2, vR Γ 88), (3, vR Γ 147)] d_L_law_520 (by decide) rfl ?_
        refine sm_aload_n 5 d_L_law_522 rfl ?_
        refine sm_VMi vf_M_thrown (c_M_thrown δ94  ) ml_L_61 (As := []) rfl rfl (Nat.le_of_ble_eq_true rfl) ⟨by decide, by decide⟩ d_L_law_523 (fun r95 δ96 hr95 => ?_)
        refine sm_iload 1 d_L_law_526 rfl ?_
        refine sm_icmp_eq 533 hr95 hr88 d_L_law_528 (by decide) (fun _ => ?_) (fun _ => ?_)
        · refine sm_iload 1 d_L_law_533 rfl ?_
          refine sm_if_ne 550 hr88 d_L_law_535 (by decide) (fun _ => ?_) (fun _ => ?_)
          · refine sm_goto 765 d_L_law_550 (by decide) ?_
            refine sm_iinc 2 [(4, vI (i + 6)), (6, vI r93), (5, vI r88), (0, .ref b), (1, vR Γ 0), (2, vR Γ 88), (3, vR Γ 147)] d_L_law_765 rfl (by decide) rfl ?_
            refine sm_chk (fun c97 => ?_)
            refine sm_goto 23 d_L_law_768 (by decide) ?_
            exact sm_lv [0, 3, 4, 5, 6] rfl (ih γ89 δ96 w90 (i + 6) _ _ c97 (by omega) (by omega))
          · refine sm_aload_n 6 d_L_law_538 rfl ?_
            refine sm_iconst d_L_law_539 ?_
            refine sm_ol d_L_law_540 ?_
            refine sm_iload 0 d_L_law_541 rfl ?_
            refine sm_i2l hr93 d_L_law_543 ?_
            refine sm_leq 550 d_L_law_544 d_L_law_545 (by decide) ?_ ?_
            · refine sm_goto 765 d_L_law_550 (by decide) ?_
              refine sm_iinc 2 [(4, vI (i + 6)), (6, vI r93), (5, vI r88), (0, .ref b), (1, vR Γ 0), (2, vR Γ 88), (3, vR Γ 147)] d_L_law_765 rfl (by decide) rfl ?_
              refine sm_chk (fun c98 => ?_)
              refine sm_goto 23 d_L_law_768 (by decide) ?_
              exact sm_lv [0, 3, 4, 5, 6] rfl (ih γ89 δ96 w90 (i + 6) _ _ c98 (by omega) (by omega))
            · exact sm_none
        · exact sm_none
      refine sm_tc (off := 513) 8 553 (iand_b _ _) d_L_law_40 (by decide) (by decide) (fun _ => ?_) (fun n114 => ?_)
      · refine sm_aload_n 2 d_L_law_553 rfl ?_
        refine sm_aload_n 1 d_L_law_554 rfl ?_
        refine sm_iload 0 d_L_law_555 rfl ?_
        refine sm_iconst d_L_law_557 ?_
        refine sm_iadd d_L_law_558 ?_
        refine sm_chk (fun c100 => ?_)
        refine sm_sld hL d_L_law_559 ?_
        refine sm_aload_n 1 d_L_law_560 rfl ?_
        refine sm_iload 0 d_L_law_561 rfl ?_
        refine sm_iconst d_L_law_563 ?_
        refine sm_iadd d_L_law_564 ?_
        refine sm_chk (fun c101 => ?_)
        refine sm_sld hL d_L_law_565 ?_
        refine sm_aload_n 4 d_L_law_566 rfl ?_
        refine sm_HH (h_L_causes hno γ δ w ((sv xs (i + 1))) ((sv xs (i + 2))) (sv_b _ _) (sv_b _ _)) (ef_L_causes γ δ w ((sv xs (i + 1))) ((sv xs (i + 2)))) cw_L_causes ml_L_89 sm_L_causes in_L (n := 4) (by decide +kernel) (As := [vR Γ 0, vI (sv xs (i + 1)), vI (sv xs (i + 2)), vR Γ 147]) rfl rfl (Nat.le_of_ble_eq_true rfl) ⟨by decide, by decide⟩ ⟨by omega, by omega⟩ d_L_law_567 (fun r102 γ103 w104 hr102 => ?_)
        refine sm_istore [(5, vI r102), (4, vI i), (0, .ref b), (1, vR Γ 0), (2, vR Γ 88), (3, vR Γ 147)] d_L_law_570 (by decide) rfl ?_
        refine sm_aload_n 4 d_L_law_572 rfl ?_
        refine sm_aload_n 2 d_L_law_573 rfl ?_
        refine sm_iload 1 d_L_law_574 rfl ?_
        refine sm_iconst d_L_law_576 ?_
        refine sm_iadd d_L_law_577 ?_
        refine sm_chk (fun c105 => ?_)
        refine sm_sld hL d_L_law_578 ?_
        refine sm_aload_n 2 d_L_law_579 rfl ?_
        refine sm_iload 1 d_L_law_580 rfl ?_
        refine sm_iconst d_L_law_582 ?_
        refine sm_iadd d_L_law_583 ?_
        refine sm_chk (fun c106 => ?_)
        refine sm_sld hL d_L_law_584 ?_
        refine sm_VMz vf_M_causes_1 (c_M_causes_1 δ ((sv xs (i + 1))) ((sv xs (i + 2))) (sv_b _ _) (sv_b _ _)) ml_L_91 (As := [vI (sv xs (i + 1)), vI (sv xs (i + 2))]) rfl rfl (Nat.le_of_ble_eq_true rfl) ⟨by decide, by decide⟩ d_L_law_585 (fun r107 δ108 hr107 => ?_)
        refine sm_istore [(6, vI r107), (5, vI r102), (4, vI i), (0, .ref b), (1, vR Γ 0), (2, vR Γ 88), (3, vR Γ 147)] d_L_law_588 (by decide) rfl ?_
        refine sm_aload_n 5 d_L_law_590 rfl ?_
        refine sm_VMi vf_M_thrown (c_M_thrown δ108  ) ml_L_61 (As := []) rfl rfl (Nat.le_of_ble_eq_true rfl) ⟨by decide, by decide⟩ d_L_law_591 (fun r109 δ110 hr109 => ?_)
        refine sm_iload 1 d_L_law_594 rfl ?_
        refine sm_icmp_eq 601 hr109 hr102 d_L_law_596 (by decide) (fun _ => ?_) (fun _ => ?_)
        · refine sm_iload 1 d_L_law_601 rfl ?_
          refine sm_if_ne 625 hr102 d_L_law_603 (by decide) (fun _ => ?_) (fun _ => ?_)
          · refine sm_goto 765 d_L_law_625 (by decide) ?_
            refine sm_iinc 2 [(4, vI (i + 6)), (6, vI r107), (5, vI r102), (0, .ref b), (1, vR Γ 0), (2, vR Γ 88), (3, vR Γ 147)] d_L_law_765 rfl (by decide) rfl ?_
            refine sm_chk (fun c111 => ?_)
            refine sm_goto 23 d_L_law_768 (by decide) ?_
            exact sm_lv [0, 3, 4, 5, 6] rfl (ih γ103 δ110 w104 (i + 6) _ _ c111 (by omega) (by omega))
          · refine sm_aload_n 6 d_L_law_606 rfl ?_
            refine sm_iconst d_L_law_607 ?_
            refine sm_ol d_L_law_608 ?_
            refine sm_iload 0 d_L_law_609 rfl ?_
            refine sm_if_eq 618 (z2i hr107) d_L_law_611 (by decide) (fun _ => ?_) (fun _ => ?_)
            · refine sm_lconst 0 d_L_law_618 (by decide) ?_
              refine sm_leq 625 d_L_law_619 d_L_law_620 (by decide) ?_ ?_
              · refine sm_goto 765 d_L_law_625 (by decide) ?_
                refine sm_iinc 2 [(4, vI (i + 6)), (6, vI r107), (5, vI r102), (0, .ref b), (1, vR Γ 0), (2, vR Γ 88), (3, vR Γ 147)] d_L_law_765 rfl (by decide) rfl ?_
                refine sm_chk (fun c112 => ?_)
                refine sm_goto 23 d_L_law_768 (by decide) ?_
                exact sm_lv [0, 3, 4, 5, 6] rfl (ih γ103 δ110 w104 (i + 6) _ _ c112 (by omega) (by omega))
              · exact sm_none
            · refine sm_lconst 1 d_L_law_614 (by decide) ?_
              refine sm_goto 619 d_L_law_615 (by decide) ?_
              refine sm_leq 625 d_L_law_619 d_L_law_620 (by decide) ?_ ?_
              · refine sm_goto 765 d_L_law_625 (by decide) ?_
                refine sm_iinc 2 [(4, vI (i + 6)), (6, vI r107), (5, vI r102), (0, .ref b), (1, vR Γ 0), (2, vR Γ 88), (3, vR Γ 147)] d_L_law_765 rfl (by decide) rfl ?_
                refine sm_chk (fun c113 => ?_)
                refine sm_goto 23 d_L_law_768 (by decide) ?_
                exact sm_lv [0, 3, 4, 5, 6] rfl (ih γ103 δ110 w104 (i + 6) _ _ c113 (by omega) (by omega))
              · exact sm_none
        · exact sm_none
      refine sm_tc (off := 588) 9 628 (iand_b _ _) d_L_law_40 (by decide) (by decide) (fun _ => ?_) (fun n124 => ?_)
      · refine sm_aload_n 2 d_L_law_628 rfl ?_
        refine sm_aload_n 4 d_L_law_629 rfl ?_
        refine sm_HH (h_L_restart hno γ δ w  ) (ef_L_restart γ δ w ) cw_L_restart ml_L_92 sm_L_restart in_L (n := 2) (by decide +kernel) (As := [vR Γ 0, vR Γ 147]) rfl rfl (Nat.le_of_ble_eq_true rfl) ⟨by decide, by decide⟩ ⟨by omega, by omega⟩ d_L_law_630 (fun r115 γ116 w117 hr115 => ?_)
        refine sm_istore [(5, vI r115), (4, vI i), (0, .ref b), (1, vR Γ 0), (2, vR Γ 88), (3, vR Γ 147)] d_L_law_633 (by decide) rfl ?_
        refine sm_aload_n 4 d_L_law_635 rfl ?_
        refine sm_VMi vf_M_restart (c_M_restart δ  ) ml_L_95 (As := []) rfl rfl (Nat.le_of_ble_eq_true rfl) ⟨by decide, by decide⟩ d_L_law_636 (fun r118 δ119 hr118 => ?_)
        refine sm_istore [(6, vI r118), (5, vI r115), (4, vI i), (0, .ref b), (1, vR Γ 0), (2, vR Γ 88), (3, vR Γ 147)] d_L_law_639 (by decide) rfl ?_
        refine sm_aload_n 5 d_L_law_641 rfl ?_
        refine sm_VMi vf_M_thrown (c_M_thrown δ119  ) ml_L_61 (As := []) rfl rfl (Nat.le_of_ble_eq_true rfl) ⟨by decide, by decide⟩ d_L_law_642 (fun r120 δ121 hr120 => ?_)
        refine sm_iload 1 d_L_law_645 rfl ?_
        refine sm_icmp_eq 652 hr120 hr115 d_L_law_647 (by decide) (fun _ => ?_) (fun _ => ?_)
        · refine sm_iload 1 d_L_law_652 rfl ?_
          refine sm_if_ne 669 hr115 d_L_law_654 (by decide) (fun _ => ?_) (fun _ => ?_)
          · refine sm_goto 765 d_L_law_669 (by decide) ?_
            refine sm_iinc 2 [(4, vI (i + 6)), (6, vI r118), (5, vI r115), (0, .ref b), (1, vR Γ 0), (2, vR Γ 88), (3, vR Γ 147)] d_L_law_765 rfl (by decide) rfl ?_
            refine sm_chk (fun c122 => ?_)
            refine sm_goto 23 d_L_law_768 (by decide) ?_
            exact sm_lv [0, 3, 4, 5, 6] rfl (ih γ116 δ121 w117 (i + 6) _ _ c122 (by omega) (by omega))
          · refine sm_aload_n 6 d_L_law_657 rfl ?_
            refine sm_iconst d_L_law_658 ?_
            refine sm_ol d_L_law_659 ?_
            refine sm_iload 0 d_L_law_660 rfl ?_
            refine sm_i2l hr118 d_L_law_662 ?_
            refine sm_leq 669 d_L_law_663 d_L_law_664 (by decide) ?_ ?_
            · refine sm_goto 765 d_L_law_669 (by decide) ?_
              refine sm_iinc 2 [(4, vI (i + 6)), (6, vI r118), (5, vI r115), (0, .ref b), (1, vR Γ 0), (2, vR Γ 88), (3, vR Γ 147)] d_L_law_765 rfl (by decide) rfl ?_
              refine sm_chk (fun c123 => ?_)
              refine sm_goto 23 d_L_law_768 (by decide) ?_
              exact sm_lv [0, 3, 4, 5, 6] rfl (ih γ116 δ121 w117 (i + 6) _ _ c123 (by omega) (by omega))
            · exact sm_none
        · exact sm_none
      refine sm_tc (off := 632) 10 672 (iand_b _ _) d_L_law_40 (by decide) (by decide) (fun _ => ?_) (fun n133 => ?_)
      · refine sm_aload_n 2 d_L_law_672 rfl ?_
        refine sm_HH (h_L_keep hno γ δ w  ) (ef_L_keep γ δ w ) cw_L_keep ml_L_96 sm_L_keep in_L (n := 1) (by decide +kernel) (As := [vR Γ 0]) rfl rfl (Nat.le_of_ble_eq_true rfl) ⟨by decide, by decide⟩ ⟨by omega, by omega⟩ d_L_law_673 (fun r125 γ126 w127 hr125 => ?_)
        refine sm_istore [(5, vI r125), (4, vI i), (0, .ref b), (1, vR Γ 0), (2, vR Γ 88), (3, vR Γ 147)] d_L_law_676 (by decide) rfl ?_
        refine sm_aload_n 4 d_L_law_678 rfl ?_
        refine sm_VMv vf_M_keep (c_M_keep δ  ) ml_L_99 (As := []) rfl rfl (Nat.le_of_ble_eq_true rfl) ⟨by decide, by decide⟩ d_L_law_679 (fun _ δ129 => ?_)
        refine sm_aload_n 4 d_L_law_682 rfl ?_
        refine sm_VMi vf_M_thrown (c_M_thrown δ129  ) ml_L_61 (As := []) rfl rfl (Nat.le_of_ble_eq_true rfl) ⟨by decide, by decide⟩ d_L_law_683 (fun r130 δ131 hr130 => ?_)
        refine sm_iload 0 d_L_law_686 rfl ?_
        refine sm_icmp_eq 693 hr130 hr125 d_L_law_688 (by decide) (fun _ => ?_) (fun _ => ?_)
        · refine sm_goto 765 d_L_law_693 (by decide) ?_
          refine sm_iinc 1 [(4, vI (i + 6)), (5, vI r125), (0, .ref b), (1, vR Γ 0), (2, vR Γ 88), (3, vR Γ 147)] d_L_law_765 rfl (by decide) rfl ?_
          refine sm_chk (fun c132 => ?_)
          refine sm_goto 23 d_L_law_768 (by decide) ?_
          exact sm_lv [0, 2, 3, 4, 5] rfl (ih γ126 δ131 w127 (i + 6) _ _ c132 (by omega) (by omega))
        · exact sm_none
      refine sm_tc (off := 656) 11 696 (iand_b _ _) d_L_law_40 (by decide) (by decide) (fun _ => ?_) (fun n143 => ?_)
      · refine sm_aload_n 2 d_L_law_696 rfl ?_
        refine sm_aload_n 4 d_L_law_697 rfl ?_
        refine sm_HH (h_L_back hno γ δ w  ) (ef_L_back γ δ w ) cw_L_back ml_L_100 sm_L_back in_L (n := 2) (by decide +kernel) (As := [vR Γ 0, vR Γ 147]) rfl rfl (Nat.le_of_ble_eq_true rfl) ⟨by decide, by decide⟩ ⟨by omega, by omega⟩ d_L_law_698 (fun r134 γ135 w136 hr134 => ?_)
        refine sm_istore [(5, vI r134), (4, vI i), (0, .ref b), (1, vR Γ 0), (2, vR Γ 88), (3, vR Γ 147)] d_L_law_701 (by decide) rfl ?_
        refine sm_aload_n 4 d_L_law_703 rfl ?_
        refine sm_VMi vf_M_back (c_M_back δ  ) ml_L_102 (As := []) rfl rfl (Nat.le_of_ble_eq_true rfl) ⟨by decide, by decide⟩ d_L_law_704 (fun r137 δ138 hr137 => ?_)
        refine sm_istore [(6, vI r137), (5, vI r134), (4, vI i), (0, .ref b), (1, vR Γ 0), (2, vR Γ 88), (3, vR Γ 147)] d_L_law_707 (by decide) rfl ?_
        refine sm_aload_n 5 d_L_law_709 rfl ?_
        refine sm_VMi vf_M_thrown (c_M_thrown δ138  ) ml_L_61 (As := []) rfl rfl (Nat.le_of_ble_eq_true rfl) ⟨by decide, by decide⟩ d_L_law_710 (fun r139 δ140 hr139 => ?_)
        refine sm_iload 1 d_L_law_713 rfl ?_
        refine sm_icmp_eq 720 hr139 hr134 d_L_law_715 (by decide) (fun _ => ?_) (fun _ => ?_)
        · refine sm_iload 1 d_L_law_720 rfl ?_
          refine sm_if_ne 737 hr134 d_L_law_722 (by decide) (fun _ => ?_) (fun _ => ?_)
          · refine sm_goto 765 d_L_law_737 (by decide) ?_
            refine sm_iinc 2 [(4, vI (i + 6)), (6, vI r137), (5, vI r134), (0, .ref b), (1, vR Γ 0), (2, vR Γ 88), (3, vR Γ 147)] d_L_law_765 rfl (by decide) rfl ?_
            refine sm_chk (fun c141 => ?_)
            refine sm_goto 23 d_L_law_768 (by decide) ?_
            exact sm_lv [0, 3, 4, 5, 6] rfl (ih γ135 δ140 w136 (i + 6) _ _ c141 (by omega) (by omega))
          · refine sm_aload_n 6 d_L_law_725 rfl ?_
            refine sm_iconst d_L_law_726 ?_
            refine sm_ol d_L_law_727 ?_
            refine sm_iload 0 d_L_law_728 rfl ?_
            refine sm_i2l hr137 d_L_law_730 ?_
            refine sm_leq 737 d_L_law_731 d_L_law_732 (by decide) ?_ ?_
            · refine sm_goto 765 d_L_law_737 (by decide) ?_
              refine sm_iinc 2 [(4, vI (i + 6)), (6, vI r137), (5, vI r134), (0, .ref b), (1, vR Γ 0), (2, vR Γ 88), (3, vR Γ 147)] d_L_law_765 rfl (by decide) rfl ?_
              refine sm_chk (fun c142 => ?_)
              refine sm_goto 23 d_L_law_768 (by decide) ?_
              exact sm_lv [0, 3, 4, 5, 6] rfl (ih γ135 δ140 w136 (i + 6) _ _ c142 (by omega) (by omega))
            · exact sm_none
        · exact sm_none
      refine sm_tc (off := 700) 12 740 (iand_b _ _) d_L_law_40 (by decide) (by decide) (fun _ => ?_) (fun n151 => ?_)
      · refine sm_aload_n 2 d_L_law_740 rfl ?_
        refine sm_aload_n 1 d_L_law_741 rfl ?_
        refine sm_iload 0 d_L_law_742 rfl ?_
        refine sm_iconst d_L_law_744 ?_
        refine sm_iadd d_L_law_745 ?_
        refine sm_chk (fun c144 => ?_)
        refine sm_sld hL d_L_law_746 ?_
        refine sm_VSi vf_S_count (c_S_count γ ((sv xs (i + 1))) (sv_b _ _)) ml_L_103 (As := [vI (sv xs (i + 1))]) rfl rfl (Nat.le_of_ble_eq_true rfl) ⟨by decide, by decide⟩ d_L_law_747 (fun r145 γ146 hr145 => ?_)
        refine sm_aload_n 3 d_L_law_750 rfl ?_
        refine sm_aload_n 1 d_L_law_751 rfl ?_
        refine sm_iload 0 d_L_law_752 rfl ?_
        refine sm_iconst d_L_law_754 ?_
        refine sm_iadd d_L_law_755 ?_
        refine sm_chk (fun c147 => ?_)
        refine sm_sld hL d_L_law_756 ?_
        refine sm_VMi vf_M_count (c_M_count δ ((sv xs (i + 1))) (sv_b _ _)) ml_L_106 (As := [vI (sv xs (i + 1))]) rfl rfl (Nat.le_of_ble_eq_true rfl) ⟨by decide, by decide⟩ d_L_law_757 (fun r148 δ149 hr148 => ?_)
        refine sm_icmp_eq 765 hr145 hr148 d_L_law_760 (by decide) (fun _ => ?_) (fun _ => ?_)
        · refine sm_iinc 0 [(4, vI (i + 6)), (0, .ref b), (1, vR Γ 0), (2, vR Γ 88), (3, vR Γ 147)] d_L_law_765 rfl (by decide) rfl ?_
          refine sm_chk (fun c150 => ?_)
          refine sm_goto 23 d_L_law_768 (by decide) ?_
          exact sm_lv [0, 1, 2, 3, 4] rfl (ih γ146 δ149 w (i + 6) _ _ c150 (by omega) (by omega))
        · exact sm_none
      refine sm_td 765 (iand_b _ _) d_L_law_40 (by omega) (by decide) ?_
      refine sm_iinc 0 [(4, vI (i + 6)), (0, .ref b), (1, vR Γ 0), (2, vR Γ 88), (3, vR Γ 147)] d_L_law_765 rfl (by decide) rfl ?_
      refine sm_chk (fun c152 => ?_)
      refine sm_goto 23 d_L_law_768 (by decide) ?_
      exact sm_lv [0, 1, 2, 3, 4] rfl (ih γ δ w (i + 6) _ _ c152 (by omega) (by omega))
