/-! each case of the law's switch; its loop -/
theorem dL_law_0 : decode cL_law 0 = .ok (.new 8, 3) := by decide +kernel
theorem dL_law_3 : decode cL_law 3 = .ok (.dup, 1) := by decide +kernel
theorem dL_law_4 : decode cL_law 4 = .ok (.invokespecial 50, 3) := by decide +kernel
theorem dL_law_7 : decode cL_law 7 = .ok (.astore_n 1, 1) := by decide +kernel
theorem dL_law_8 : decode cL_law 8 = .ok (.new 51, 3) := by decide +kernel
theorem dL_law_11 : decode cL_law 11 = .ok (.dup, 1) := by decide +kernel
theorem dL_law_12 : decode cL_law 12 = .ok (.invokespecial 53, 3) := by decide +kernel
theorem dL_law_15 : decode cL_law 15 = .ok (.astore_n 2, 1) := by decide +kernel
theorem dL_law_16 : decode cL_law 16 = .ok (.iconst 1, 1) := by decide +kernel
theorem dL_law_17 : decode cL_law 17 = .ok (.newarray .long, 2) := by decide +kernel
theorem dL_law_19 : decode cL_law 19 = .ok (.astore_n 3, 1) := by decide +kernel
theorem dL_law_20 : decode cL_law 20 = .ok (.iconst 0, 1) := by decide +kernel
theorem dL_law_21 : decode cL_law 21 = .ok (.istore 4, 2) := by decide +kernel
theorem dL_law_23 : decode cL_law 23 = .ok (.iload 4, 2) := by decide +kernel
theorem dL_law_25 : decode cL_law 25 = .ok (.aload_n 0, 1) := by decide +kernel
theorem dL_law_26 : decode cL_law 26 = .ok (.arraylength, 1) := by decide +kernel
theorem dL_law_27 : decode cL_law 27 = .ok (.iconst 3, 1) := by decide +kernel
theorem dL_law_28 : decode cL_law 28 = .ok (.isub, 1) := by decide +kernel
theorem dL_law_29 : decode cL_law 29 = .ok (.if_icmp .gt 696, 3) := by decide +kernel
theorem dL_law_32 : decode cL_law 32 = .ok (.aload_n 0, 1) := by decide +kernel
theorem dL_law_33 : decode cL_law 33 = .ok (.iload 4, 2) := by decide +kernel
theorem dL_law_35 : decode cL_law 35 = .ok (.iaload, 1) := by decide +kernel
theorem dL_law_36 : decode cL_law 36 = .ok (.bipush 15, 2) := by decide +kernel
theorem dL_law_38 : decode cL_law 38 = .ok (.iand, 1) := by decide +kernel
theorem dL_law_39 : decode cL_law 39 = .ok (.tableswitch 680 0 12 #[65, 104, 129, 173, 224, 275, 331, 387, 443, 487, 543, 587, 655], 65) := by decide +kernel
theorem dL_law_104 : decode cL_law 104 = .ok (.aload_n 1, 1) := by decide +kernel
theorem dL_law_105 : decode cL_law 105 = .ok (.aload_n 0, 1) := by decide +kernel
theorem dL_law_106 : decode cL_law 106 = .ok (.iload 4, 2) := by decide +kernel
theorem dL_law_108 : decode cL_law 108 = .ok (.iconst 1, 1) := by decide +kernel
theorem dL_law_109 : decode cL_law 109 = .ok (.iadd, 1) := by decide +kernel
theorem dL_law_110 : decode cL_law 110 = .ok (.iaload, 1) := by decide +kernel
theorem dL_law_111 : decode cL_law 111 = .ok (.aload_n 0, 1) := by decide +kernel
theorem dL_law_112 : decode cL_law 112 = .ok (.iload 4, 2) := by decide +kernel
theorem dL_law_114 : decode cL_law 114 = .ok (.iconst 2, 1) := by decide +kernel
theorem dL_law_115 : decode cL_law 115 = .ok (.iadd, 1) := by decide +kernel
theorem dL_law_116 : decode cL_law 116 = .ok (.iaload, 1) := by decide +kernel
theorem dL_law_117 : decode cL_law 117 = .ok (.i2c, 1) := by decide +kernel
theorem dL_law_118 : decode cL_law 118 = .ok (.invokevirtual 54, 3) := by decide +kernel
theorem dL_law_121 : decode cL_law 121 = .ok (.aload_n 2, 1) := by decide +kernel
theorem dL_law_122 : decode cL_law 122 = .ok (.aload_n 0, 1) := by decide +kernel
theorem dL_law_123 : decode cL_law 123 = .ok (.iload 4, 2) := by decide +kernel
theorem dL_law_125 : decode cL_law 125 = .ok (.iconst 1, 1) := by decide +kernel
theorem dL_law_126 : decode cL_law 126 = .ok (.iadd, 1) := by decide +kernel
theorem dL_law_127 : decode cL_law 127 = .ok (.iaload, 1) := by decide +kernel
theorem dL_law_128 : decode cL_law 128 = .ok (.aload_n 0, 1) := by decide +kernel
theorem dL_law_129 : decode cL_law 129 = .ok (.iload 4, 2) := by decide +kernel
theorem dL_law_131 : decode cL_law 131 = .ok (.iconst 2, 1) := by decide +kernel
theorem dL_law_132 : decode cL_law 132 = .ok (.iadd, 1) := by decide +kernel
theorem dL_law_133 : decode cL_law 133 = .ok (.iaload, 1) := by decide +kernel
theorem dL_law_134 : decode cL_law 134 = .ok (.i2c, 1) := by decide +kernel
theorem dL_law_135 : decode cL_law 135 = .ok (.invokevirtual 58, 3) := by decide +kernel
theorem dL_law_138 : decode cL_law 138 = .ok (.if_icmp .eq 581, 3) := by decide +kernel
theorem dL_law_141 : decode cL_law 141 = .ok (.iconst 0, 1) := by decide +kernel
theorem dL_law_142 : decode cL_law 142 = .ok (.ireturn, 1) := by decide +kernel
theorem dL_law_143 : decode cL_law 143 = .ok (.aload_n 1, 1) := by decide +kernel
theorem dL_law_144 : decode cL_law 144 = .ok (.aload_n 0, 1) := by decide +kernel
theorem dL_law_145 : decode cL_law 145 = .ok (.iload 4, 2) := by decide +kernel
theorem dL_law_147 : decode cL_law 147 = .ok (.iconst 1, 1) := by decide +kernel
theorem dL_law_148 : decode cL_law 148 = .ok (.iadd, 1) := by decide +kernel
theorem dL_law_149 : decode cL_law 149 = .ok (.iaload, 1) := by decide +kernel
theorem dL_law_150 : decode cL_law 150 = .ok (.invokevirtual 59, 3) := by decide +kernel
theorem dL_law_153 : decode cL_law 153 = .ok (.aload_n 2, 1) := by decide +kernel
theorem dL_law_154 : decode cL_law 154 = .ok (.aload_n 0, 1) := by decide +kernel
theorem dL_law_155 : decode cL_law 155 = .ok (.iload 4, 2) := by decide +kernel
theorem dL_law_157 : decode cL_law 157 = .ok (.iconst 1, 1) := by decide +kernel
theorem dL_law_158 : decode cL_law 158 = .ok (.iadd, 1) := by decide +kernel
theorem dL_law_159 : decode cL_law 159 = .ok (.iaload, 1) := by decide +kernel
theorem dL_law_160 : decode cL_law 160 = .ok (.invokevirtual 63, 3) := by decide +kernel
theorem dL_law_163 : decode cL_law 163 = .ok (.if_icmp .eq 556, 3) := by decide +kernel
theorem dL_law_166 : decode cL_law 166 = .ok (.iconst 0, 1) := by decide +kernel
theorem dL_law_167 : decode cL_law 167 = .ok (.ireturn, 1) := by decide +kernel
theorem dL_law_168 : decode cL_law 168 = .ok (.aload_n 1, 1) := by decide +kernel
theorem dL_law_169 : decode cL_law 169 = .ok (.aload_n 3, 1) := by decide +kernel
theorem dL_law_170 : decode cL_law 170 = .ok (.invokestatic 64, 3) := by decide +kernel
theorem dL_law_173 : decode cL_law 173 = .ok (.istore 5, 2) := by decide +kernel
theorem dL_law_175 : decode cL_law 175 = .ok (.aload_n 2, 1) := by decide +kernel
theorem dL_law_176 : decode cL_law 176 = .ok (.invokevirtual 69, 3) := by decide +kernel
theorem dL_law_179 : decode cL_law 179 = .ok (.istore 6, 2) := by decide +kernel
theorem dL_law_181 : decode cL_law 181 = .ok (.aload_n 2, 1) := by decide +kernel
theorem dL_law_182 : decode cL_law 182 = .ok (.invokevirtual 70, 3) := by decide +kernel
theorem dL_law_185 : decode cL_law 185 = .ok (.iload 5, 2) := by decide +kernel
theorem dL_law_187 : decode cL_law 187 = .ok (.if_icmp .eq 5, 3) := by decide +kernel
theorem dL_law_190 : decode cL_law 190 = .ok (.iconst 0, 1) := by decide +kernel
theorem dL_law_191 : decode cL_law 191 = .ok (.ireturn, 1) := by decide +kernel
theorem dL_law_192 : decode cL_law 192 = .ok (.iload 5, 2) := by decide +kernel
theorem dL_law_194 : decode cL_law 194 = .ok (.ifCond .ne 15, 3) := by decide +kernel
theorem dL_law_197 : decode cL_law 197 = .ok (.aload_n 3, 1) := by decide +kernel
theorem dL_law_198 : decode cL_law 198 = .ok (.iconst 0, 1) := by decide +kernel
theorem dL_law_199 : decode cL_law 199 = .ok (.laload, 1) := by decide +kernel
theorem dL_law_200 : decode cL_law 200 = .ok (.iload 6, 2) := by decide +kernel
theorem dL_law_202 : decode cL_law 202 = .ok (.i2l, 1) := by decide +kernel
theorem dL_law_203 : decode cL_law 203 = .ok (.lcmp, 1) := by decide +kernel
theorem dL_law_204 : decode cL_law 204 = .ok (.ifCond .eq 5, 3) := by decide +kernel
theorem dL_law_207 : decode cL_law 207 = .ok (.iconst 0, 1) := by decide +kernel
theorem dL_law_208 : decode cL_law 208 = .ok (.ireturn, 1) := by decide +kernel
theorem dL_law_209 : decode cL_law 209 = .ok (.goto 510, 3) := by decide +kernel
theorem dL_law_212 : decode cL_law 212 = .ok (.aload_n 1, 1) := by decide +kernel
theorem dL_law_213 : decode cL_law 213 = .ok (.aload_n 3, 1) := by decide +kernel
theorem dL_law_214 : decode cL_law 214 = .ok (.invokestatic 73, 3) := by decide +kernel
theorem dL_law_217 : decode cL_law 217 = .ok (.istore 5, 2) := by decide +kernel
theorem dL_law_219 : decode cL_law 219 = .ok (.aload_n 2, 1) := by decide +kernel
theorem dL_law_220 : decode cL_law 220 = .ok (.invokevirtual 75, 3) := by decide +kernel
theorem dL_law_223 : decode cL_law 223 = .ok (.istore 6, 2) := by decide +kernel
theorem dL_law_225 : decode cL_law 225 = .ok (.aload_n 2, 1) := by decide +kernel
theorem dL_law_226 : decode cL_law 226 = .ok (.invokevirtual 70, 3) := by decide +kernel
theorem dL_law_229 : decode cL_law 229 = .ok (.iload 5, 2) := by decide +kernel
theorem dL_law_231 : decode cL_law 231 = .ok (.if_icmp .eq 5, 3) := by decide +kernel
theorem dL_law_234 : decode cL_law 234 = .ok (.iconst 0, 1) := by decide +kernel
theorem dL_law_235 : decode cL_law 235 = .ok (.ireturn, 1) := by decide +kernel
theorem dL_law_236 : decode cL_law 236 = .ok (.iload 5, 2) := by decide +kernel
theorem dL_law_238 : decode cL_law 238 = .ok (.ifCond .ne 22, 3) := by decide +kernel
theorem dL_law_241 : decode cL_law 241 = .ok (.aload_n 3, 1) := by decide +kernel
theorem dL_law_242 : decode cL_law 242 = .ok (.iconst 0, 1) := by decide +kernel
theorem dL_law_243 : decode cL_law 243 = .ok (.laload, 1) := by decide +kernel
theorem dL_law_244 : decode cL_law 244 = .ok (.iload 6, 2) := by decide +kernel
theorem dL_law_246 : decode cL_law 246 = .ok (.ifCond .eq 7, 3) := by decide +kernel
theorem dL_law_249 : decode cL_law 249 = .ok (.lconst 1, 1) := by decide +kernel
theorem dL_law_250 : decode cL_law 250 = .ok (.goto 4, 3) := by decide +kernel
theorem dL_law_253 : decode cL_law 253 = .ok (.lconst 0, 1) := by decide +kernel
theorem dL_law_254 : decode cL_law 254 = .ok (.lcmp, 1) := by decide +kernel
theorem dL_law_255 : decode cL_law 255 = .ok (.ifCond .eq 5, 3) := by decide +kernel
theorem dL_law_258 : decode cL_law 258 = .ok (.iconst 0, 1) := by decide +kernel
theorem dL_law_259 : decode cL_law 259 = .ok (.ireturn, 1) := by decide +kernel
theorem dL_law_260 : decode cL_law 260 = .ok (.goto 459, 3) := by decide +kernel
theorem dL_law_263 : decode cL_law 263 = .ok (.aload_n 1, 1) := by decide +kernel
theorem dL_law_264 : decode cL_law 264 = .ok (.aload_n 3, 1) := by decide +kernel
theorem dL_law_265 : decode cL_law 265 = .ok (.invokestatic 76, 3) := by decide +kernel
theorem dL_law_268 : decode cL_law 268 = .ok (.istore 5, 2) := by decide +kernel
theorem dL_law_270 : decode cL_law 270 = .ok (.aload_n 2, 1) := by decide +kernel
theorem dL_law_271 : decode cL_law 271 = .ok (.invokevirtual 78, 3) := by decide +kernel
theorem dL_law_274 : decode cL_law 274 = .ok (.istore 6, 2) := by decide +kernel
theorem dL_law_276 : decode cL_law 276 = .ok (.aload_n 2, 1) := by decide +kernel
theorem dL_law_277 : decode cL_law 277 = .ok (.invokevirtual 70, 3) := by decide +kernel
theorem dL_law_280 : decode cL_law 280 = .ok (.iload 5, 2) := by decide +kernel
theorem dL_law_282 : decode cL_law 282 = .ok (.if_icmp .eq 5, 3) := by decide +kernel
theorem dL_law_285 : decode cL_law 285 = .ok (.iconst 0, 1) := by decide +kernel
theorem dL_law_286 : decode cL_law 286 = .ok (.ireturn, 1) := by decide +kernel
theorem dL_law_287 : decode cL_law 287 = .ok (.iload 5, 2) := by decide +kernel
theorem dL_law_289 : decode cL_law 289 = .ok (.ifCond .ne 22, 3) := by decide +kernel
theorem dL_law_292 : decode cL_law 292 = .ok (.aload_n 3, 1) := by decide +kernel
theorem dL_law_293 : decode cL_law 293 = .ok (.iconst 0, 1) := by decide +kernel
theorem dL_law_294 : decode cL_law 294 = .ok (.laload, 1) := by decide +kernel
theorem dL_law_295 : decode cL_law 295 = .ok (.iload 6, 2) := by decide +kernel
theorem dL_law_297 : decode cL_law 297 = .ok (.ifCond .eq 7, 3) := by decide +kernel
theorem dL_law_300 : decode cL_law 300 = .ok (.lconst 1, 1) := by decide +kernel
theorem dL_law_301 : decode cL_law 301 = .ok (.goto 4, 3) := by decide +kernel
theorem dL_law_304 : decode cL_law 304 = .ok (.lconst 0, 1) := by decide +kernel
theorem dL_law_305 : decode cL_law 305 = .ok (.lcmp, 1) := by decide +kernel
theorem dL_law_306 : decode cL_law 306 = .ok (.ifCond .eq 5, 3) := by decide +kernel
theorem dL_law_309 : decode cL_law 309 = .ok (.iconst 0, 1) := by decide +kernel
theorem dL_law_310 : decode cL_law 310 = .ok (.ireturn, 1) := by decide +kernel
theorem dL_law_311 : decode cL_law 311 = .ok (.goto 408, 3) := by decide +kernel
theorem dL_law_314 : decode cL_law 314 = .ok (.aload_n 1, 1) := by decide +kernel
theorem dL_law_315 : decode cL_law 315 = .ok (.aload_n 0, 1) := by decide +kernel
theorem dL_law_316 : decode cL_law 316 = .ok (.iload 4, 2) := by decide +kernel
theorem dL_law_318 : decode cL_law 318 = .ok (.iconst 1, 1) := by decide +kernel
theorem dL_law_319 : decode cL_law 319 = .ok (.iadd, 1) := by decide +kernel
theorem dL_law_320 : decode cL_law 320 = .ok (.iaload, 1) := by decide +kernel
theorem dL_law_321 : decode cL_law 321 = .ok (.aload_n 3, 1) := by decide +kernel
theorem dL_law_322 : decode cL_law 322 = .ok (.invokestatic 79, 3) := by decide +kernel
theorem dL_law_325 : decode cL_law 325 = .ok (.istore 5, 2) := by decide +kernel
theorem dL_law_327 : decode cL_law 327 = .ok (.aload_n 2, 1) := by decide +kernel
theorem dL_law_328 : decode cL_law 328 = .ok (.aload_n 0, 1) := by decide +kernel
theorem dL_law_329 : decode cL_law 329 = .ok (.iload 4, 2) := by decide +kernel
theorem dL_law_331 : decode cL_law 331 = .ok (.iconst 1, 1) := by decide +kernel
theorem dL_law_332 : decode cL_law 332 = .ok (.iadd, 1) := by decide +kernel
theorem dL_law_333 : decode cL_law 333 = .ok (.iaload, 1) := by decide +kernel
theorem dL_law_334 : decode cL_law 334 = .ok (.invokevirtual 82, 3) := by decide +kernel
theorem dL_law_337 : decode cL_law 337 = .ok (.istore 6, 2) := by decide +kernel
theorem dL_law_339 : decode cL_law 339 = .ok (.aload_n 2, 1) := by decide +kernel
theorem dL_law_340 : decode cL_law 340 = .ok (.invokevirtual 70, 3) := by decide +kernel
theorem dL_law_343 : decode cL_law 343 = .ok (.iload 5, 2) := by decide +kernel
theorem dL_law_345 : decode cL_law 345 = .ok (.if_icmp .eq 5, 3) := by decide +kernel
theorem dL_law_348 : decode cL_law 348 = .ok (.iconst 0, 1) := by decide +kernel
theorem dL_law_349 : decode cL_law 349 = .ok (.ireturn, 1) := by decide +kernel
theorem dL_law_350 : decode cL_law 350 = .ok (.iload 5, 2) := by decide +kernel
theorem dL_law_352 : decode cL_law 352 = .ok (.ifCond .ne 15, 3) := by decide +kernel
theorem dL_law_355 : decode cL_law 355 = .ok (.aload_n 3, 1) := by decide +kernel
theorem dL_law_356 : decode cL_law 356 = .ok (.iconst 0, 1) := by decide +kernel
theorem dL_law_357 : decode cL_law 357 = .ok (.laload, 1) := by decide +kernel
theorem dL_law_358 : decode cL_law 358 = .ok (.iload 6, 2) := by decide +kernel
theorem dL_law_360 : decode cL_law 360 = .ok (.i2l, 1) := by decide +kernel
theorem dL_law_361 : decode cL_law 361 = .ok (.lcmp, 1) := by decide +kernel
theorem dL_law_362 : decode cL_law 362 = .ok (.ifCond .eq 5, 3) := by decide +kernel
theorem dL_law_365 : decode cL_law 365 = .ok (.iconst 0, 1) := by decide +kernel
theorem dL_law_366 : decode cL_law 366 = .ok (.ireturn, 1) := by decide +kernel
theorem dL_law_367 : decode cL_law 367 = .ok (.goto 352, 3) := by decide +kernel
theorem dL_law_370 : decode cL_law 370 = .ok (.aload_n 1, 1) := by decide +kernel
theorem dL_law_371 : decode cL_law 371 = .ok (.aload_n 0, 1) := by decide +kernel
theorem dL_law_372 : decode cL_law 372 = .ok (.iload 4, 2) := by decide +kernel
theorem dL_law_374 : decode cL_law 374 = .ok (.iconst 1, 1) := by decide +kernel
theorem dL_law_375 : decode cL_law 375 = .ok (.iadd, 1) := by decide +kernel
theorem dL_law_376 : decode cL_law 376 = .ok (.iaload, 1) := by decide +kernel
theorem dL_law_377 : decode cL_law 377 = .ok (.aload_n 3, 1) := by decide +kernel
theorem dL_law_378 : decode cL_law 378 = .ok (.invokestatic 83, 3) := by decide +kernel
theorem dL_law_381 : decode cL_law 381 = .ok (.istore 5, 2) := by decide +kernel
theorem dL_law_383 : decode cL_law 383 = .ok (.aload_n 2, 1) := by decide +kernel
theorem dL_law_384 : decode cL_law 384 = .ok (.aload_n 0, 1) := by decide +kernel
theorem dL_law_385 : decode cL_law 385 = .ok (.iload 4, 2) := by decide +kernel
theorem dL_law_387 : decode cL_law 387 = .ok (.iconst 1, 1) := by decide +kernel
theorem dL_law_388 : decode cL_law 388 = .ok (.iadd, 1) := by decide +kernel
theorem dL_law_389 : decode cL_law 389 = .ok (.iaload, 1) := by decide +kernel
theorem dL_law_390 : decode cL_law 390 = .ok (.invokevirtual 85, 3) := by decide +kernel
theorem dL_law_393 : decode cL_law 393 = .ok (.istore 6, 2) := by decide +kernel
theorem dL_law_395 : decode cL_law 395 = .ok (.aload_n 2, 1) := by decide +kernel
theorem dL_law_396 : decode cL_law 396 = .ok (.invokevirtual 70, 3) := by decide +kernel
theorem dL_law_399 : decode cL_law 399 = .ok (.iload 5, 2) := by decide +kernel
theorem dL_law_401 : decode cL_law 401 = .ok (.if_icmp .eq 5, 3) := by decide +kernel
theorem dL_law_404 : decode cL_law 404 = .ok (.iconst 0, 1) := by decide +kernel
theorem dL_law_405 : decode cL_law 405 = .ok (.ireturn, 1) := by decide +kernel
theorem dL_law_406 : decode cL_law 406 = .ok (.iload 5, 2) := by decide +kernel
theorem dL_law_408 : decode cL_law 408 = .ok (.ifCond .ne 15, 3) := by decide +kernel
theorem dL_law_411 : decode cL_law 411 = .ok (.aload_n 3, 1) := by decide +kernel
theorem dL_law_412 : decode cL_law 412 = .ok (.iconst 0, 1) := by decide +kernel
theorem dL_law_413 : decode cL_law 413 = .ok (.laload, 1) := by decide +kernel
theorem dL_law_414 : decode cL_law 414 = .ok (.iload 6, 2) := by decide +kernel
theorem dL_law_416 : decode cL_law 416 = .ok (.i2l, 1) := by decide +kernel
theorem dL_law_417 : decode cL_law 417 = .ok (.lcmp, 1) := by decide +kernel
theorem dL_law_418 : decode cL_law 418 = .ok (.ifCond .eq 5, 3) := by decide +kernel
theorem dL_law_421 : decode cL_law 421 = .ok (.iconst 0, 1) := by decide +kernel
theorem dL_law_422 : decode cL_law 422 = .ok (.ireturn, 1) := by decide +kernel
theorem dL_law_423 : decode cL_law 423 = .ok (.goto 296, 3) := by decide +kernel
theorem dL_law_426 : decode cL_law 426 = .ok (.aload_n 1, 1) := by decide +kernel
theorem dL_law_427 : decode cL_law 427 = .ok (.aload_n 0, 1) := by decide +kernel
theorem dL_law_428 : decode cL_law 428 = .ok (.iload 4, 2) := by decide +kernel
theorem dL_law_430 : decode cL_law 430 = .ok (.iconst 1, 1) := by decide +kernel
theorem dL_law_431 : decode cL_law 431 = .ok (.iadd, 1) := by decide +kernel
theorem dL_law_432 : decode cL_law 432 = .ok (.iaload, 1) := by decide +kernel
theorem dL_law_433 : decode cL_law 433 = .ok (.aload_n 3, 1) := by decide +kernel
theorem dL_law_434 : decode cL_law 434 = .ok (.invokestatic 86, 3) := by decide +kernel
theorem dL_law_437 : decode cL_law 437 = .ok (.istore 5, 2) := by decide +kernel
theorem dL_law_439 : decode cL_law 439 = .ok (.aload_n 2, 1) := by decide +kernel
theorem dL_law_440 : decode cL_law 440 = .ok (.aload_n 0, 1) := by decide +kernel
theorem dL_law_441 : decode cL_law 441 = .ok (.iload 4, 2) := by decide +kernel
theorem dL_law_443 : decode cL_law 443 = .ok (.iconst 1, 1) := by decide +kernel
theorem dL_law_444 : decode cL_law 444 = .ok (.iadd, 1) := by decide +kernel
theorem dL_law_445 : decode cL_law 445 = .ok (.iaload, 1) := by decide +kernel
theorem dL_law_446 : decode cL_law 446 = .ok (.invokevirtual 88, 3) := by decide +kernel
theorem dL_law_449 : decode cL_law 449 = .ok (.istore 6, 2) := by decide +kernel
theorem dL_law_451 : decode cL_law 451 = .ok (.aload_n 2, 1) := by decide +kernel
theorem dL_law_452 : decode cL_law 452 = .ok (.invokevirtual 70, 3) := by decide +kernel
theorem dL_law_455 : decode cL_law 455 = .ok (.iload 5, 2) := by decide +kernel
theorem dL_law_457 : decode cL_law 457 = .ok (.if_icmp .eq 5, 3) := by decide +kernel
theorem dL_law_460 : decode cL_law 460 = .ok (.iconst 0, 1) := by decide +kernel
theorem dL_law_461 : decode cL_law 461 = .ok (.ireturn, 1) := by decide +kernel
theorem dL_law_462 : decode cL_law 462 = .ok (.iload 5, 2) := by decide +kernel
theorem dL_law_464 : decode cL_law 464 = .ok (.ifCond .ne 15, 3) := by decide +kernel
theorem dL_law_467 : decode cL_law 467 = .ok (.aload_n 3, 1) := by decide +kernel
theorem dL_law_468 : decode cL_law 468 = .ok (.iconst 0, 1) := by decide +kernel
theorem dL_law_469 : decode cL_law 469 = .ok (.laload, 1) := by decide +kernel
theorem dL_law_470 : decode cL_law 470 = .ok (.iload 6, 2) := by decide +kernel
theorem dL_law_472 : decode cL_law 472 = .ok (.i2l, 1) := by decide +kernel
theorem dL_law_473 : decode cL_law 473 = .ok (.lcmp, 1) := by decide +kernel
theorem dL_law_474 : decode cL_law 474 = .ok (.ifCond .eq 5, 3) := by decide +kernel
theorem dL_law_477 : decode cL_law 477 = .ok (.iconst 0, 1) := by decide +kernel
theorem dL_law_478 : decode cL_law 478 = .ok (.ireturn, 1) := by decide +kernel
theorem dL_law_479 : decode cL_law 479 = .ok (.goto 240, 3) := by decide +kernel
theorem dL_law_482 : decode cL_law 482 = .ok (.aload_n 1, 1) := by decide +kernel
theorem dL_law_483 : decode cL_law 483 = .ok (.aload_n 3, 1) := by decide +kernel
theorem dL_law_484 : decode cL_law 484 = .ok (.invokestatic 89, 3) := by decide +kernel
theorem dL_law_487 : decode cL_law 487 = .ok (.istore 5, 2) := by decide +kernel
theorem dL_law_489 : decode cL_law 489 = .ok (.aload_n 2, 1) := by decide +kernel
theorem dL_law_490 : decode cL_law 490 = .ok (.invokevirtual 91, 3) := by decide +kernel
theorem dL_law_493 : decode cL_law 493 = .ok (.istore 6, 2) := by decide +kernel
theorem dL_law_495 : decode cL_law 495 = .ok (.aload_n 2, 1) := by decide +kernel
theorem dL_law_496 : decode cL_law 496 = .ok (.invokevirtual 70, 3) := by decide +kernel
theorem dL_law_499 : decode cL_law 499 = .ok (.iload 5, 2) := by decide +kernel
theorem dL_law_501 : decode cL_law 501 = .ok (.if_icmp .eq 5, 3) := by decide +kernel
theorem dL_law_504 : decode cL_law 504 = .ok (.iconst 0, 1) := by decide +kernel
theorem dL_law_505 : decode cL_law 505 = .ok (.ireturn, 1) := by decide +kernel
theorem dL_law_506 : decode cL_law 506 = .ok (.iload 5, 2) := by decide +kernel
theorem dL_law_508 : decode cL_law 508 = .ok (.ifCond .ne 15, 3) := by decide +kernel
theorem dL_law_511 : decode cL_law 511 = .ok (.aload_n 3, 1) := by decide +kernel
theorem dL_law_512 : decode cL_law 512 = .ok (.iconst 0, 1) := by decide +kernel
theorem dL_law_513 : decode cL_law 513 = .ok (.laload, 1) := by decide +kernel
theorem dL_law_514 : decode cL_law 514 = .ok (.iload 6, 2) := by decide +kernel
theorem dL_law_516 : decode cL_law 516 = .ok (.i2l, 1) := by decide +kernel
theorem dL_law_517 : decode cL_law 517 = .ok (.lcmp, 1) := by decide +kernel
theorem dL_law_518 : decode cL_law 518 = .ok (.ifCond .eq 5, 3) := by decide +kernel
theorem dL_law_521 : decode cL_law 521 = .ok (.iconst 0, 1) := by decide +kernel
theorem dL_law_522 : decode cL_law 522 = .ok (.ireturn, 1) := by decide +kernel
theorem dL_law_523 : decode cL_law 523 = .ok (.goto 196, 3) := by decide +kernel
theorem dL_law_526 : decode cL_law 526 = .ok (.aload_n 1, 1) := by decide +kernel
theorem dL_law_527 : decode cL_law 527 = .ok (.aload_n 0, 1) := by decide +kernel
theorem dL_law_528 : decode cL_law 528 = .ok (.iload 4, 2) := by decide +kernel
theorem dL_law_530 : decode cL_law 530 = .ok (.iconst 1, 1) := by decide +kernel
theorem dL_law_531 : decode cL_law 531 = .ok (.iadd, 1) := by decide +kernel
theorem dL_law_532 : decode cL_law 532 = .ok (.iaload, 1) := by decide +kernel
theorem dL_law_533 : decode cL_law 533 = .ok (.aload_n 3, 1) := by decide +kernel
theorem dL_law_534 : decode cL_law 534 = .ok (.invokestatic 92, 3) := by decide +kernel
theorem dL_law_537 : decode cL_law 537 = .ok (.istore 5, 2) := by decide +kernel
theorem dL_law_539 : decode cL_law 539 = .ok (.aload_n 2, 1) := by decide +kernel
theorem dL_law_540 : decode cL_law 540 = .ok (.aload_n 0, 1) := by decide +kernel
theorem dL_law_541 : decode cL_law 541 = .ok (.iload 4, 2) := by decide +kernel
theorem dL_law_543 : decode cL_law 543 = .ok (.iconst 1, 1) := by decide +kernel
theorem dL_law_544 : decode cL_law 544 = .ok (.iadd, 1) := by decide +kernel
theorem dL_law_545 : decode cL_law 545 = .ok (.iaload, 1) := by decide +kernel
theorem dL_law_546 : decode cL_law 546 = .ok (.invokevirtual 94, 3) := by decide +kernel
theorem dL_law_549 : decode cL_law 549 = .ok (.istore 6, 2) := by decide +kernel
theorem dL_law_551 : decode cL_law 551 = .ok (.aload_n 2, 1) := by decide +kernel
theorem dL_law_552 : decode cL_law 552 = .ok (.invokevirtual 70, 3) := by decide +kernel
theorem dL_law_555 : decode cL_law 555 = .ok (.iload 5, 2) := by decide +kernel
theorem dL_law_557 : decode cL_law 557 = .ok (.if_icmp .eq 5, 3) := by decide +kernel
theorem dL_law_560 : decode cL_law 560 = .ok (.iconst 0, 1) := by decide +kernel
theorem dL_law_561 : decode cL_law 561 = .ok (.ireturn, 1) := by decide +kernel
theorem dL_law_562 : decode cL_law 562 = .ok (.iload 5, 2) := by decide +kernel
theorem dL_law_564 : decode cL_law 564 = .ok (.ifCond .ne 15, 3) := by decide +kernel
theorem dL_law_567 : decode cL_law 567 = .ok (.aload_n 3, 1) := by decide +kernel
theorem dL_law_568 : decode cL_law 568 = .ok (.iconst 0, 1) := by decide +kernel
theorem dL_law_569 : decode cL_law 569 = .ok (.laload, 1) := by decide +kernel
theorem dL_law_570 : decode cL_law 570 = .ok (.iload 6, 2) := by decide +kernel
theorem dL_law_572 : decode cL_law 572 = .ok (.i2l, 1) := by decide +kernel
theorem dL_law_573 : decode cL_law 573 = .ok (.lcmp, 1) := by decide +kernel
theorem dL_law_574 : decode cL_law 574 = .ok (.ifCond .eq 5, 3) := by decide +kernel
theorem dL_law_577 : decode cL_law 577 = .ok (.iconst 0, 1) := by decide +kernel
theorem dL_law_578 : decode cL_law 578 = .ok (.ireturn, 1) := by decide +kernel
theorem dL_law_579 : decode cL_law 579 = .ok (.goto 140, 3) := by decide +kernel
theorem dL_law_582 : decode cL_law 582 = .ok (.aload_n 1, 1) := by decide +kernel
theorem dL_law_583 : decode cL_law 583 = .ok (.aload_n 3, 1) := by decide +kernel
theorem dL_law_584 : decode cL_law 584 = .ok (.invokestatic 95, 3) := by decide +kernel
theorem dL_law_587 : decode cL_law 587 = .ok (.istore 5, 2) := by decide +kernel
theorem dL_law_589 : decode cL_law 589 = .ok (.aload_n 2, 1) := by decide +kernel
theorem dL_law_590 : decode cL_law 590 = .ok (.invokevirtual 97, 3) := by decide +kernel
theorem dL_law_593 : decode cL_law 593 = .ok (.istore 6, 2) := by decide +kernel
theorem dL_law_595 : decode cL_law 595 = .ok (.aload_n 2, 1) := by decide +kernel
theorem dL_law_596 : decode cL_law 596 = .ok (.invokevirtual 70, 3) := by decide +kernel
theorem dL_law_599 : decode cL_law 599 = .ok (.iload 5, 2) := by decide +kernel
theorem dL_law_601 : decode cL_law 601 = .ok (.if_icmp .eq 5, 3) := by decide +kernel
theorem dL_law_604 : decode cL_law 604 = .ok (.iconst 0, 1) := by decide +kernel
theorem dL_law_605 : decode cL_law 605 = .ok (.ireturn, 1) := by decide +kernel
theorem dL_law_606 : decode cL_law 606 = .ok (.iload 5, 2) := by decide +kernel
theorem dL_law_608 : decode cL_law 608 = .ok (.ifCond .ne 15, 3) := by decide +kernel
theorem dL_law_611 : decode cL_law 611 = .ok (.aload_n 3, 1) := by decide +kernel
theorem dL_law_612 : decode cL_law 612 = .ok (.iconst 0, 1) := by decide +kernel
theorem dL_law_613 : decode cL_law 613 = .ok (.laload, 1) := by decide +kernel
theorem dL_law_614 : decode cL_law 614 = .ok (.iload 6, 2) := by decide +kernel
theorem dL_law_616 : decode cL_law 616 = .ok (.i2l, 1) := by decide +kernel
theorem dL_law_617 : decode cL_law 617 = .ok (.lcmp, 1) := by decide +kernel
theorem dL_law_618 : decode cL_law 618 = .ok (.ifCond .eq 5, 3) := by decide +kernel
theorem dL_law_621 : decode cL_law 621 = .ok (.iconst 0, 1) := by decide +kernel
theorem dL_law_622 : decode cL_law 622 = .ok (.ireturn, 1) := by decide +kernel
theorem dL_law_623 : decode cL_law 623 = .ok (.goto 96, 3) := by decide +kernel
theorem dL_law_626 : decode cL_law 626 = .ok (.aload_n 1, 1) := by decide +kernel
theorem dL_law_627 : decode cL_law 627 = .ok (.aload_n 0, 1) := by decide +kernel
theorem dL_law_628 : decode cL_law 628 = .ok (.iload 4, 2) := by decide +kernel
theorem dL_law_630 : decode cL_law 630 = .ok (.iconst 1, 1) := by decide +kernel
theorem dL_law_631 : decode cL_law 631 = .ok (.iadd, 1) := by decide +kernel
theorem dL_law_632 : decode cL_law 632 = .ok (.iaload, 1) := by decide +kernel
theorem dL_law_633 : decode cL_law 633 = .ok (.aload_n 0, 1) := by decide +kernel
theorem dL_law_634 : decode cL_law 634 = .ok (.iload 4, 2) := by decide +kernel
theorem dL_law_636 : decode cL_law 636 = .ok (.iconst 2, 1) := by decide +kernel
theorem dL_law_637 : decode cL_law 637 = .ok (.iadd, 1) := by decide +kernel
theorem dL_law_638 : decode cL_law 638 = .ok (.iaload, 1) := by decide +kernel
theorem dL_law_639 : decode cL_law 639 = .ok (.aload_n 3, 1) := by decide +kernel
theorem dL_law_640 : decode cL_law 640 = .ok (.invokestatic 98, 3) := by decide +kernel
theorem dL_law_643 : decode cL_law 643 = .ok (.istore 5, 2) := by decide +kernel
theorem dL_law_645 : decode cL_law 645 = .ok (.aload_n 2, 1) := by decide +kernel
theorem dL_law_646 : decode cL_law 646 = .ok (.aload_n 0, 1) := by decide +kernel
theorem dL_law_647 : decode cL_law 647 = .ok (.iload 4, 2) := by decide +kernel
theorem dL_law_649 : decode cL_law 649 = .ok (.iconst 1, 1) := by decide +kernel
theorem dL_law_650 : decode cL_law 650 = .ok (.iadd, 1) := by decide +kernel
theorem dL_law_651 : decode cL_law 651 = .ok (.iaload, 1) := by decide +kernel
theorem dL_law_652 : decode cL_law 652 = .ok (.aload_n 0, 1) := by decide +kernel
theorem dL_law_653 : decode cL_law 653 = .ok (.iload 4, 2) := by decide +kernel
theorem dL_law_655 : decode cL_law 655 = .ok (.iconst 2, 1) := by decide +kernel
theorem dL_law_656 : decode cL_law 656 = .ok (.iadd, 1) := by decide +kernel
theorem dL_law_657 : decode cL_law 657 = .ok (.iaload, 1) := by decide +kernel
theorem dL_law_658 : decode cL_law 658 = .ok (.invokevirtual 101, 3) := by decide +kernel
theorem dL_law_661 : decode cL_law 661 = .ok (.istore 6, 2) := by decide +kernel
theorem dL_law_663 : decode cL_law 663 = .ok (.aload_n 2, 1) := by decide +kernel
theorem dL_law_664 : decode cL_law 664 = .ok (.invokevirtual 70, 3) := by decide +kernel
theorem dL_law_667 : decode cL_law 667 = .ok (.iload 5, 2) := by decide +kernel
theorem dL_law_669 : decode cL_law 669 = .ok (.if_icmp .eq 5, 3) := by decide +kernel
theorem dL_law_672 : decode cL_law 672 = .ok (.iconst 0, 1) := by decide +kernel
theorem dL_law_673 : decode cL_law 673 = .ok (.ireturn, 1) := by decide +kernel
theorem dL_law_674 : decode cL_law 674 = .ok (.iload 5, 2) := by decide +kernel
theorem dL_law_676 : decode cL_law 676 = .ok (.ifCond .ne 15, 3) := by decide +kernel
theorem dL_law_679 : decode cL_law 679 = .ok (.aload_n 3, 1) := by decide +kernel
theorem dL_law_680 : decode cL_law 680 = .ok (.iconst 0, 1) := by decide +kernel
theorem dL_law_681 : decode cL_law 681 = .ok (.laload, 1) := by decide +kernel
theorem dL_law_682 : decode cL_law 682 = .ok (.iload 6, 2) := by decide +kernel
theorem dL_law_684 : decode cL_law 684 = .ok (.i2l, 1) := by decide +kernel
theorem dL_law_685 : decode cL_law 685 = .ok (.lcmp, 1) := by decide +kernel
theorem dL_law_686 : decode cL_law 686 = .ok (.ifCond .eq 5, 3) := by decide +kernel
theorem dL_law_689 : decode cL_law 689 = .ok (.iconst 0, 1) := by decide +kernel
theorem dL_law_690 : decode cL_law 690 = .ok (.ireturn, 1) := by decide +kernel
theorem dL_law_691 : decode cL_law 691 = .ok (.goto 28, 3) := by decide +kernel
theorem dL_law_694 : decode cL_law 694 = .ok (.aload_n 1, 1) := by decide +kernel
theorem dL_law_695 : decode cL_law 695 = .ok (.aload_n 0, 1) := by decide +kernel
theorem dL_law_696 : decode cL_law 696 = .ok (.iload 4, 2) := by decide +kernel
theorem dL_law_698 : decode cL_law 698 = .ok (.iconst 1, 1) := by decide +kernel
theorem dL_law_699 : decode cL_law 699 = .ok (.iadd, 1) := by decide +kernel
theorem dL_law_700 : decode cL_law 700 = .ok (.iaload, 1) := by decide +kernel
theorem dL_law_701 : decode cL_law 701 = .ok (.invokevirtual 102, 3) := by decide +kernel
theorem dL_law_704 : decode cL_law 704 = .ok (.aload_n 2, 1) := by decide +kernel
theorem dL_law_705 : decode cL_law 705 = .ok (.aload_n 0, 1) := by decide +kernel
theorem dL_law_706 : decode cL_law 706 = .ok (.iload 4, 2) := by decide +kernel
theorem dL_law_708 : decode cL_law 708 = .ok (.iconst 1, 1) := by decide +kernel
theorem dL_law_709 : decode cL_law 709 = .ok (.iadd, 1) := by decide +kernel
theorem dL_law_710 : decode cL_law 710 = .ok (.iaload, 1) := by decide +kernel
theorem dL_law_711 : decode cL_law 711 = .ok (.invokevirtual 105, 3) := by decide +kernel
theorem dL_law_714 : decode cL_law 714 = .ok (.if_icmp .eq 5, 3) := by decide +kernel
theorem dL_law_717 : decode cL_law 717 = .ok (.iconst 0, 1) := by decide +kernel
theorem dL_law_718 : decode cL_law 718 = .ok (.ireturn, 1) := by decide +kernel
theorem dL_law_719 : decode cL_law 719 = .ok (.iinc 4 3, 3) := by decide +kernel
theorem dL_law_722 : decode cL_law 722 = .ok (.goto (-699), 3) := by decide +kernel
theorem dL_law_725 : decode cL_law 725 = .ok (.iconst 1, 1) := by decide +kernel
theorem dL_law_726 : decode cL_law 726 = .ok (.ireturn, 1) := by decide +kernel
def K_type (C : CS) (R : RS) (fo : Nat → Int64) (a1 a2 : Int32) (C' : CS) (R' : RS) (fo' : Nat → Int64) : Prop := ∃ (C1 : CS) (r2 : Int32), E_p_type C a1 ((a2.toUInt32 % 65536).toInt32) C1 r2 ∧ (∃ (R3 : RS) (r4 : Int32), E_type R a1 ((a2.toUInt32 % 65536).toInt32) R3 r4 ∧ (if r2 = r4 then (C' = C1 ∧ R' = R3 ∧ fo' = fo) else (False)))
set_option maxHeartbeats 4000000 in
set_option maxRecDepth 100000 in
theorem k_type {p : Program} {l : Launch} {e : Env} {s : State} {m : MethodId} {below : List Frame} {meth : Method} {c : Code} {G : PG} {Z : ZZ} {b L : Nat} {xs : Nat → Int32} {A : Nat → Prop} (hst : l.stackTraces = false) (F : CallFix p m c cL_law 7 s #[Value.ref b] aW RL ∧ True) (hX : va_X b L xs s s.heap) (hbl : b < s.heap.size) (hK : pg_K G s) (hT : pg_T s) (hZ : zF Z A s s.heap) (hA : ∀ q, s.heap.size ≤ q → A q) (hAo : ∀ q, q < s.heap.size → ¬ A q) (hL : L ≤ 1536) {i : Nat} (hi : i + 3 ≤ L) (x mo ou : Nat) (u q : Nat → Nat) {a1 a2 : Int32} (ha1 : xs (i + 1) = a1) (ha2 : xs (i + 2) = a2) (C : CS) (R : RS) (fo : Nat → Int64) (C' : CS) (R' : RS) (fo' : Nat → Int64) (hE : K_type C R fo a1 a2 C' R' fo') {H : Heap} {locs : List Loc} {ls : Array Slot} {cells slots : Nat} (hcs : cells + 2 ≤ 601024) (hss : slots + 16 ≤ 7293034) (hl : lv_has ls 7 [(4, .int (nI i)), (3, .ref ou), (2, .ref mo), (1, .ref x), (0, .ref b)]) (hP : va_P G.1 vwCl (lW G ou x u mo q fo C R) H) (hD : va_D A (lW G ou x u mo q fo C R)) (hS : va_S A s.heap H locs) {Q : State → Prop} (kk : ∀ (H : Heap) (locs : List Loc) (ls : Array Slot), lv_has ls 7 [(4, .int (nI i)), (3, .ref ou), (2, .ref mo), (1, .ref x), (0, .ref b)] → va_P G.1 vwCl (lW G ou x u mo q fo' C' R') H → va_D A (lW G ou x u mo q fo' C' R') → va_S A s.heap H locs → W p l e room_1 s m #[Value.ref b] below meth c H locs (cells + 2) (slots + 16) Q (F0 m 719 ls [])) : W p l e room_1 s m #[Value.ref b] below meth c H locs cells slots Q (F0 m 104 ls []) := by
  have hx := F.1.1; have hb := F.1.2.1; have hml := F.1.2.2.1; have hts := F.1.2.2.2.2
  have hown : s.vm.findClass RL = some m.cls := F.1.2.2.2.1
  have hbA : ¬ A b := hAo b hbl
  have hns : ∀ q, A q → ∀ cell, s.heap[q]? = some cell → cell.vm.isStatics = false := fun q h cell hc => absurd h (hAo q (Array.getElem?_eq_some_iff.mp hc).1)
  unfold K_type at hE
  refine lv_aload_n hx hb dL_law_104 rfl (lv_at hl 3 rfl) ?_
  refine lv_aload_n hx hb dL_law_105 rfl (lv_at hl 4 rfl) ?_
  refine lv_iload hx hb dL_law_106 (lv_at hl 0 rfl) ?_
  refine lv_iconst (v := 1) hx hb dL_law_108 (by decide) ?_
  refine lv_iadd hx hb dL_law_109 ?_
  refine tp_i (nI (i + 1)) nI_p1.symm ?_
  refine va_sld (A := A) hx hb hX hbl hbA hS (vp_in_nI (n := i + 1) (by omega) (by omega)) dL_law_110 ?_
  refine tp_i a1 (by rw [nI_clamp (by omega)]; exact ha1) ?_
  refine lv_aload_n hx hb dL_law_111 rfl (lv_at hl 4 rfl) ?_
  refine lv_iload hx hb dL_law_112 (lv_at hl 0 rfl) ?_
  refine lv_iconst (v := 2) hx hb dL_law_114 (by decide) ?_
  refine lv_iadd hx hb dL_law_115 ?_
  refine tp_i (nI (i + 2)) nI_p2.symm ?_
  refine va_sld (A := A) hx hb hX hbl hbA hS (vp_in_nI (n := i + 2) (by omega) (by omega)) dL_law_116 ?_
  refine tp_i a2 (by rw [nI_clamp (by omega)]; exact ha2) ?_
  refine lv_i2c (v := (a2.toUInt32 % 65536).toInt32) hx hb dL_law_117 rfl ?_
  obtain ⟨C1, r2, hg, hE⟩ := hE
  have hPc := (hP.perm (zl1 (G := G) (ou := ou) (x := x) (u := u) (mo := mo) (q := q) (fo := fo) (C := C) (R := R))).appR; have hDc := (hD.perm (zl1 (G := G) (ou := ou) (x := x) (u := u) (mo := mo) (q := q) (fo := fo) (C := C) (R := R))).appR
  refine kz_i (w2 := fun _ => lW G ou x u mo q fo C1 R) (va_runV (As := [.int a1, .int ((a2.toUInt32 % 65536).toInt32)]) (rest := []) F.1 (e_p_type l G x u C a1 ((a2.toUInt32 % 65536).toInt32) C1 r2 hg _) (cwV 2 hts (aw_V w_230 w_231 w_232 w_1 w_233) rfl rfl rfl (by decide +kernel) ⟨by decide, by decide⟩) ⟨cS_blind, va_recv (q := (RX5, TX5, 13)) (ci := 5) (q0 := 0) hK.1 hPc rfl pW_0, cS_pre hPc hDc hK⟩ rfl rfl hl.1 rfl (lv_room (Nat.le_of_ble_eq_true rfl)) dL_law_118 ⟨by show _ ≤ 601024; omega, by show _ ≤ 7293034; omega⟩) hP hD hS hA (zl1 (G := G) (ou := ou) (x := x) (u := u) (mo := mo) (q := q) (fo := fo) (C := C) (R := R)) (fun _ => zl1b) (fun r9 u0 H locs hp hP hD hS => ?_)
  have hp := hp.symm; subst hp
  refine lv_aload_n hx hb dL_law_121 rfl (lv_at hl 2 rfl) ?_
  refine lv_aload_n hx hb dL_law_122 rfl (lv_at hl 4 rfl) ?_
  refine lv_iload hx hb dL_law_123 (lv_at hl 0 rfl) ?_
  refine lv_iconst (v := 1) hx hb dL_law_125 (by decide) ?_
  refine lv_iadd hx hb dL_law_126 ?_
  refine tp_i (nI (i + 1)) nI_p1.symm ?_
  refine va_sld (A := A) hx hb hX hbl hbA hS (vp_in_nI (n := i + 1) (by omega) (by omega)) dL_law_127 ?_
  refine tp_i a1 (by rw [nI_clamp (by omega)]; exact ha1) ?_
  refine lv_aload_n hx hb dL_law_128 rfl (lv_at hl 4 rfl) ?_
  refine lv_iload hx hb dL_law_129 (lv_at hl 0 rfl) ?_
  refine lv_iconst (v := 2) hx hb dL_law_131 (by decide) ?_
  refine lv_iadd hx hb dL_law_132 ?_
  refine tp_i (nI (i + 2)) nI_p2.symm ?_
  refine va_sld (A := A) hx hb hX hbl hbA hS (vp_in_nI (n := i + 2) (by omega) (by omega)) dL_law_133 ?_
  refine tp_i a2 (by rw [nI_clamp (by omega)]; exact ha2) ?_
  refine lv_i2c (v := (a2.toUInt32 % 65536).toInt32) hx hb dL_law_134 rfl ?_
  obtain ⟨R3, r4, hg, hE⟩ := hE
  have hPc := (hP.perm (zl3 (G := G) (ou := ou) (x := x) (u := u) (mo := mo) (q := q) (fo := fo) (C := C1) (R := R))).appR; have hDc := (hD.perm (zl3 (G := G) (ou := ou) (x := x) (u := u) (mo := mo) (q := q) (fo := fo) (C := C1) (R := R))).appR
  refine kz_i (w2 := fun _ => lW G ou x u mo q fo C1 R3) (va_runV (As := [.int a1, .int ((a2.toUInt32 % 65536).toInt32)]) (rest := [.int r2]) F.1 (e_type l G mo q R a1 ((a2.toUInt32 % 65536).toInt32) R3 r4 hg _) (cwV 2 hts (aw_V w_996 w_997 w_998 w_6 w_999) rfl rfl rfl (by decide +kernel) ⟨by decide, by decide⟩) ⟨cS_blind, va_recv (q := (RX6, TX6, 48)) (ci := 6) (q0 := 0) hK.1 hPc rfl rfl, cS_pre hPc hDc hK⟩ rfl rfl hl.1 rfl (lv_room (Nat.le_of_ble_eq_true rfl)) dL_law_135 ⟨by show _ ≤ 601024; omega, by show _ ≤ 7293034; omega⟩) hP hD hS hA (zl3 (G := G) (ou := ou) (x := x) (u := u) (mo := mo) (q := q) (fo := fo) (C := C1) (R := R)) (fun _ => zl3b) (fun r9 u0 H locs hp hP hD hS => ?_)
  have hp := hp.symm; subst hp
  refine lv_icmp_eq (tgt := 719) hx hb dL_law_138 (by decide) (fun h5 => ?_) (fun h5 => ?_)
  ·
    rw [if_pos h5] at hE
    obtain ⟨rfl, rfl, rfl⟩ := hE
    refine W.widen (k := cells + 2) (n := slots + 16) (by omega) (by omega) ?_
    exact kk _ _ _ (lv_sub hl [0, 1, 2, 3, 4] rfl) hP hD hS
  ·
    rw [if_neg h5] at hE
    refine lv_iconst (v := 0) hx hb dL_law_141 (by decide) ?_
    exact hE.elim

def K_clear (C : CS) (R : RS) (fo : Nat → Int64) (a1 a2 : Int32) (C' : CS) (R' : RS) (fo' : Nat → Int64) : Prop := ∃ (C1 : CS) (r2 : Int32), E_p_clear C a1 C1 r2 ∧ (∃ (R3 : RS) (r4 : Int32), E_clear R a1 R3 r4 ∧ (if r2 = r4 then (C' = C1 ∧ R' = R3 ∧ fo' = fo) else (False)))
set_option maxHeartbeats 4000000 in
set_option maxRecDepth 100000 in
theorem k_clear {p : Program} {l : Launch} {e : Env} {s : State} {m : MethodId} {below : List Frame} {meth : Method} {c : Code} {G : PG} {Z : ZZ} {b L : Nat} {xs : Nat → Int32} {A : Nat → Prop} (hst : l.stackTraces = false) (F : CallFix p m c cL_law 7 s #[Value.ref b] aW RL ∧ True) (hX : va_X b L xs s s.heap) (hbl : b < s.heap.size) (hK : pg_K G s) (hT : pg_T s) (hZ : zF Z A s s.heap) (hA : ∀ q, s.heap.size ≤ q → A q) (hAo : ∀ q, q < s.heap.size → ¬ A q) (hL : L ≤ 1536) {i : Nat} (hi : i + 3 ≤ L) (x mo ou : Nat) (u q : Nat → Nat) {a1 a2 : Int32} (ha1 : xs (i + 1) = a1) (ha2 : xs (i + 2) = a2) (C : CS) (R : RS) (fo : Nat → Int64) (C' : CS) (R' : RS) (fo' : Nat → Int64) (hE : K_clear C R fo a1 a2 C' R' fo') {H : Heap} {locs : List Loc} {ls : Array Slot} {cells slots : Nat} (hcs : cells + 2 ≤ 601024) (hss : slots + 16 ≤ 7293034) (hl : lv_has ls 7 [(4, .int (nI i)), (3, .ref ou), (2, .ref mo), (1, .ref x), (0, .ref b)]) (hP : va_P G.1 vwCl (lW G ou x u mo q fo C R) H) (hD : va_D A (lW G ou x u mo q fo C R)) (hS : va_S A s.heap H locs) {Q : State → Prop} (kk : ∀ (H : Heap) (locs : List Loc) (ls : Array Slot), lv_has ls 7 [(4, .int (nI i)), (3, .ref ou), (2, .ref mo), (1, .ref x), (0, .ref b)] → va_P G.1 vwCl (lW G ou x u mo q fo' C' R') H → va_D A (lW G ou x u mo q fo' C' R') → va_S A s.heap H locs → W p l e room_1 s m #[Value.ref b] below meth c H locs (cells + 2) (slots + 16) Q (F0 m 719 ls [])) : W p l e room_1 s m #[Value.ref b] below meth c H locs cells slots Q (F0 m 143 ls []) := by
  have hx := F.1.1; have hb := F.1.2.1; have hml := F.1.2.2.1; have hts := F.1.2.2.2.2
  have hown : s.vm.findClass RL = some m.cls := F.1.2.2.2.1
  have hbA : ¬ A b := hAo b hbl
  have hns : ∀ q, A q → ∀ cell, s.heap[q]? = some cell → cell.vm.isStatics = false := fun q h cell hc => absurd h (hAo q (Array.getElem?_eq_some_iff.mp hc).1)
  unfold K_clear at hE
  refine lv_aload_n hx hb dL_law_143 rfl (lv_at hl 3 rfl) ?_
  refine lv_aload_n hx hb dL_law_144 rfl (lv_at hl 4 rfl) ?_
  refine lv_iload hx hb dL_law_145 (lv_at hl 0 rfl) ?_
  refine lv_iconst (v := 1) hx hb dL_law_147 (by decide) ?_
  refine lv_iadd hx hb dL_law_148 ?_
  refine tp_i (nI (i + 1)) nI_p1.symm ?_
  refine va_sld (A := A) hx hb hX hbl hbA hS (vp_in_nI (n := i + 1) (by omega) (by omega)) dL_law_149 ?_
  refine tp_i a1 (by rw [nI_clamp (by omega)]; exact ha1) ?_
  obtain ⟨C1, r2, hg, hE⟩ := hE
  have hPc := (hP.perm (zl1 (G := G) (ou := ou) (x := x) (u := u) (mo := mo) (q := q) (fo := fo) (C := C) (R := R))).appR; have hDc := (hD.perm (zl1 (G := G) (ou := ou) (x := x) (u := u) (mo := mo) (q := q) (fo := fo) (C := C) (R := R))).appR
  refine kz_i (w2 := fun _ => lW G ou x u mo q fo C1 R) (va_runV (As := [.int a1]) (rest := []) F.1 (e_p_clear l G x u C a1 C1 r2 hg _) (cwV 1 hts (aw_V w_245 w_246 w_247 w_1 w_248) rfl rfl rfl (by decide +kernel) ⟨by decide, by decide⟩) ⟨cS_blind, va_recv (q := (RX5, TX5, 13)) (ci := 5) (q0 := 0) hK.1 hPc rfl pW_0, cS_pre hPc hDc hK⟩ rfl rfl hl.1 rfl (lv_room (Nat.le_of_ble_eq_true rfl)) dL_law_150 ⟨by show _ ≤ 601024; omega, by show _ ≤ 7293034; omega⟩) hP hD hS hA (zl1 (G := G) (ou := ou) (x := x) (u := u) (mo := mo) (q := q) (fo := fo) (C := C) (R := R)) (fun _ => zl1b) (fun r9 u0 H locs hp hP hD hS => ?_)
  have hp := hp.symm; subst hp
  refine lv_aload_n hx hb dL_law_153 rfl (lv_at hl 2 rfl) ?_
  refine lv_aload_n hx hb dL_law_154 rfl (lv_at hl 4 rfl) ?_
  refine lv_iload hx hb dL_law_155 (lv_at hl 0 rfl) ?_
  refine lv_iconst (v := 1) hx hb dL_law_157 (by decide) ?_
  refine lv_iadd hx hb dL_law_158 ?_
  refine tp_i (nI (i + 1)) nI_p1.symm ?_
  refine va_sld (A := A) hx hb hX hbl hbA hS (vp_in_nI (n := i + 1) (by omega) (by omega)) dL_law_159 ?_
  refine tp_i a1 (by rw [nI_clamp (by omega)]; exact ha1) ?_
  obtain ⟨R3, r4, hg, hE⟩ := hE
  have hPc := (hP.perm (zl3 (G := G) (ou := ou) (x := x) (u := u) (mo := mo) (q := q) (fo := fo) (C := C1) (R := R))).appR; have hDc := (hD.perm (zl3 (G := G) (ou := ou) (x := x) (u := u) (mo := mo) (q := q) (fo := fo) (C := C1) (R := R))).appR
  refine kz_i (w2 := fun _ => lW G ou x u mo q fo C1 R3) (va_runV (As := [.int a1]) (rest := [.int r2]) F.1 (e_clear l G mo q R a1 R3 r4 hg _) (cwV 1 hts (aw_V w_1003 w_1004 w_1005 w_6 w_1006) rfl rfl rfl (by decide +kernel) ⟨by decide, by decide⟩) ⟨cS_blind, va_recv (q := (RX6, TX6, 48)) (ci := 6) (q0 := 0) hK.1 hPc rfl rfl, cS_pre hPc hDc hK⟩ rfl rfl hl.1 rfl (lv_room (Nat.le_of_ble_eq_true rfl)) dL_law_160 ⟨by show _ ≤ 601024; omega, by show _ ≤ 7293034; omega⟩) hP hD hS hA (zl3 (G := G) (ou := ou) (x := x) (u := u) (mo := mo) (q := q) (fo := fo) (C := C1) (R := R)) (fun _ => zl3b) (fun r9 u0 H locs hp hP hD hS => ?_)
  have hp := hp.symm; subst hp
  refine lv_icmp_eq (tgt := 719) hx hb dL_law_163 (by decide) (fun h5 => ?_) (fun h5 => ?_)
  ·
    rw [if_pos h5] at hE
    obtain ⟨rfl, rfl, rfl⟩ := hE
    refine W.widen (k := cells + 2) (n := slots + 16) (by omega) (by omega) ?_
    exact kk _ _ _ (lv_sub hl [0, 1, 2, 3, 4] rfl) hP hD hS
  ·
    rw [if_neg h5] at hE
    refine lv_iconst (v := 0) hx hb dL_law_166 (by decide) ?_
    exact hE.elim

def K_compile (C : CS) (R : RS) (fo : Nat → Int64) (a1 a2 : Int32) (C' : CS) (R' : RS) (fo' : Nat → Int64) : Prop := ∃ (C1 : CS) (f2 : Nat → Int64) (k3 : Int32), E_l_compile C fo C1 f2 k3 ∧ (∃ (R4 : RS) (r5 : Int32), E_compile R R4 r5 ∧ (∃ (R6 : RS) (r7 : Int32), E_thrown R4 R6 r7 ∧ (if r7 = k3 then (if k3 = 0 then (if (lg_cmp (f2 0) r5.toInt64) = 0 then (C' = C1 ∧ R' = R6 ∧ fo' = f2) else (False)) else (C' = C1 ∧ R' = R6 ∧ fo' = f2)) else (False))))
set_option maxHeartbeats 4000000 in
set_option maxRecDepth 100000 in
theorem k_compile {p : Program} {l : Launch} {e : Env} {s : State} {m : MethodId} {below : List Frame} {meth : Method} {c : Code} {G : PG} {Z : ZZ} {b L : Nat} {xs : Nat → Int32} {A : Nat → Prop} (hst : l.stackTraces = false) (F : CallFix p m c cL_law 7 s #[Value.ref b] aW RL ∧ True) (hX : va_X b L xs s s.heap) (hbl : b < s.heap.size) (hK : pg_K G s) (hT : pg_T s) (hZ : zF Z A s s.heap) (hA : ∀ q, s.heap.size ≤ q → A q) (hAo : ∀ q, q < s.heap.size → ¬ A q) (hL : L ≤ 1536) {i : Nat} (hi : i + 3 ≤ L) (x mo ou : Nat) (u q : Nat → Nat) {a1 a2 : Int32} (ha1 : xs (i + 1) = a1) (ha2 : xs (i + 2) = a2) (C : CS) (R : RS) (fo : Nat → Int64) (C' : CS) (R' : RS) (fo' : Nat → Int64) (hE : K_compile C R fo a1 a2 C' R' fo') {H : Heap} {locs : List Loc} {ls : Array Slot} {cells slots : Nat} (hcs : cells + 2 ≤ 601024) (hss : slots + 16 ≤ 7293034) (hl : lv_has ls 7 [(4, .int (nI i)), (3, .ref ou), (2, .ref mo), (1, .ref x), (0, .ref b)]) (hP : va_P G.1 vwCl (lW G ou x u mo q fo C R) H) (hD : va_D A (lW G ou x u mo q fo C R)) (hS : va_S A s.heap H locs) {Q : State → Prop} (kk : ∀ (H : Heap) (locs : List Loc) (ls : Array Slot), lv_has ls 7 [(4, .int (nI i)), (3, .ref ou), (2, .ref mo), (1, .ref x), (0, .ref b)] → va_P G.1 vwCl (lW G ou x u mo q fo' C' R') H → va_D A (lW G ou x u mo q fo' C' R') → va_S A s.heap H locs → W p l e room_1 s m #[Value.ref b] below meth c H locs (cells + 2) (slots + 16) Q (F0 m 719 ls [])) : W p l e room_1 s m #[Value.ref b] below meth c H locs cells slots Q (F0 m 168 ls []) := by
  have hx := F.1.1; have hb := F.1.2.1; have hml := F.1.2.2.1; have hts := F.1.2.2.2.2
  have hown : s.vm.findClass RL = some m.cls := F.1.2.2.2.1
  have hbA : ¬ A b := hAo b hbl
  have hns : ∀ q, A q → ∀ cell, s.heap[q]? = some cell → cell.vm.isStatics = false := fun q h cell hc => absurd h (hAo q (Array.getElem?_eq_some_iff.mp hc).1)
  unfold K_compile at hE
  refine lv_aload_n hx hb dL_law_168 rfl (lv_at hl 3 rfl) ?_
  refine lv_aload_n hx hb dL_law_169 rfl (lv_at hl 1 rfl) ?_
  obtain ⟨C1, f2, k3, hg, hE⟩ := hE
  have hPc := (hP.perm (zl2 (G := G) (ou := ou) (x := x) (u := u) (mo := mo) (q := q) (fo := fo) (C := C) (R := R))).appR; have hDc := (hD.perm (zl2 (G := G) (ou := ou) (x := x) (u := u) (mo := mo) (q := q) (fo := fo) (C := C) (R := R))).appR
  refine kz_i (w2 := fun _ => lW G ou x u mo q f2 C1 R) (kw_S (n := 2) (As := [.ref x, .ref ou]) (rest := []) F.1 (l_compile_y l hst G Z x u ou C fo C1 f2 k3 hg _) w_263 w_261 w_262 w_0 rfl rfl (by decide +kernel) ⟨by decide, by decide⟩ ⟨tS_blind, tS_pre hPc hDc hK hT hZ hS (kz_F (hD.perm (zl2 (G := G) (ou := ou) (x := x) (u := u) (mo := mo) (q := q) (fo := fo) (C := C) (R := R))) hS hA) hns⟩ rfl rfl hl.1 rfl (lv_room (Nat.le_of_ble_eq_true rfl)) dL_law_170 ⟨by show _ ≤ 601024; omega, by show _ ≤ 7293034; omega⟩) hP hD hS hA (zl2 (G := G) (ou := ou) (x := x) (u := u) (mo := mo) (q := q) (fo := fo) (C := C) (R := R)) (fun _ => zl2b) (fun r9 u0 H locs hp hP hD hS => ?_)
  have hp := hp.symm; subst hp
  refine lv_istore hx hb dL_law_173 hl (by decide) rfl (fun ls hl => ?_)
  have hl : lv_has ls 7 [(5, .int k3), (4, .int (nI i)), (3, .ref ou), (2, .ref mo), (1, .ref x), (0, .ref b)] := hl
  refine lv_aload_n hx hb dL_law_175 rfl (lv_at hl 3 rfl) ?_
  obtain ⟨R4, r5, hg, hE⟩ := hE
  have hPc := (hP.perm (zl3 (G := G) (ou := ou) (x := x) (u := u) (mo := mo) (q := q) (fo := f2) (C := C1) (R := R))).appR; have hDc := (hD.perm (zl3 (G := G) (ou := ou) (x := x) (u := u) (mo := mo) (q := q) (fo := f2) (C := C1) (R := R))).appR
  refine kz_i (w2 := fun _ => lW G ou x u mo q f2 C1 R4) (va_runV (As := []) (rest := []) F.1 (e_compile l G mo q R R4 r5 hg _) (cwV 0 hts (aw_V w_1011 w_1012 w_1013 w_6 w_1014) rfl rfl rfl (by decide +kernel) ⟨by decide, by decide⟩) ⟨cS_blind, va_recv (q := (RX6, TX6, 48)) (ci := 6) (q0 := 0) hK.1 hPc rfl rfl, cS_pre hPc hDc hK⟩ rfl rfl hl.1 rfl (lv_room (Nat.le_of_ble_eq_true rfl)) dL_law_176 ⟨by show _ ≤ 601024; omega, by show _ ≤ 7293034; omega⟩) hP hD hS hA (zl3 (G := G) (ou := ou) (x := x) (u := u) (mo := mo) (q := q) (fo := f2) (C := C1) (R := R)) (fun _ => zl3b) (fun r9 u0 H locs hp hP hD hS => ?_)
  have hp := hp.symm; subst hp
  refine lv_istore hx hb dL_law_179 hl (by decide) rfl (fun ls hl => ?_)
  have hl : lv_has ls 7 [(6, .int r5), (5, .int k3), (4, .int (nI i)), (3, .ref ou), (2, .ref mo), (1, .ref x), (0, .ref b)] := hl
  refine lv_aload_n hx hb dL_law_181 rfl (lv_at hl 4 rfl) ?_
  obtain ⟨R6, r7, hg, hE⟩ := hE
  have hPc := (hP.perm (zl3 (G := G) (ou := ou) (x := x) (u := u) (mo := mo) (q := q) (fo := f2) (C := C1) (R := R4))).appR; have hDc := (hD.perm (zl3 (G := G) (ou := ou) (x := x) (u := u) (mo := mo) (q := q) (fo := f2) (C := C1) (R := R4))).appR
  refine kz_i (w2 := fun _ => lW G ou x u mo q f2 C1 R6) (va_runV (As := []) (rest := []) F.1 (e_thrown l G mo q R4 R6 r7 hg _) (cwV 0 hts (aw_V w_992 w_993 w_994 w_6 w_995) rfl rfl rfl (by decide +kernel) ⟨by decide, by decide⟩) ⟨cS_blind, va_recv (q := (RX6, TX6, 48)) (ci := 6) (q0 := 0) hK.1 hPc rfl rfl, cS_pre hPc hDc hK⟩ rfl rfl hl.1 rfl (lv_room (Nat.le_of_ble_eq_true rfl)) dL_law_182 ⟨by show _ ≤ 601024; omega, by show _ ≤ 7293034; omega⟩) hP hD hS hA (zl3 (G := G) (ou := ou) (x := x) (u := u) (mo := mo) (q := q) (fo := f2) (C := C1) (R := R4)) (fun _ => zl3b) (fun r9 u0 H locs hp hP hD hS => ?_)
  have hp := hp.symm; subst hp
  refine lv_iload hx hb dL_law_185 (lv_at hl 1 rfl) ?_
  refine lv_icmp_eq (tgt := 192) hx hb dL_law_187 (by decide) (fun h8 => ?_) (fun h8 => ?_)
  ·
    rw [if_pos h8] at hE
    refine lv_iload hx hb dL_law_192 (lv_at hl 1 rfl) ?_
    refine lv_if_ne (tgt := 209) hx hb dL_law_194 (by decide) (fun h9 => ?_) (fun h9 => ?_)
    ·
      rw [if_neg h9] at hE
      refine lv_goto (tgt := 719) hx hb dL_law_209 (by decide) ?_
      obtain ⟨rfl, rfl, rfl⟩ := hE
      refine W.widen (k := cells + 2) (n := slots + 16) (by omega) (by omega) ?_
      exact kk _ _ _ (lv_sub hl [2, 3, 4, 5, 6] rfl) hP hD hS
    ·
      rw [if_pos h9] at hE
      refine lv_aload_n hx hb dL_law_197 rfl (lv_at hl 3 rfl) ?_
      refine lv_iconst (v := 0) hx hb dL_law_198 (by decide) ?_
      refine va_lald (D := G.1) hx hb hK.1 hP 0 1 rfl rfl (vp_in_nI (n := 0) (by decide) (by decide)) dL_law_199 ?_
      refine tp_l (f2 0) rfl ?_
      refine lv_iload hx hb dL_law_200 (lv_at hl 0 rfl) ?_
      refine lv_i2l (v := r5.toInt64) hx hb dL_law_202 rfl ?_
      refine W.lcmp hx hb dL_law_203 ?_
      refine lv_if_eq (tgt := 209) hx hb dL_law_204 (by decide) (fun h10 => ?_) (fun h10 => ?_)
      ·
        rw [if_pos h10] at hE
        refine lv_goto (tgt := 719) hx hb dL_law_209 (by decide) ?_
        obtain ⟨rfl, rfl, rfl⟩ := hE
        refine W.widen (k := cells + 2) (n := slots + 16) (by omega) (by omega) ?_
        exact kk _ _ _ (lv_sub hl [2, 3, 4, 5, 6] rfl) hP hD hS
      ·
        rw [if_neg h10] at hE
        refine lv_iconst (v := 0) hx hb dL_law_207 (by decide) ?_
        exact hE.elim
  ·
    rw [if_neg h8] at hE
    refine lv_iconst (v := 0) hx hb dL_law_190 (by decide) ?_
    exact hE.elim

def K_matches (C : CS) (R : RS) (fo : Nat → Int64) (a1 a2 : Int32) (C' : CS) (R' : RS) (fo' : Nat → Int64) : Prop := ∃ (C1 : CS) (f2 : Nat → Int64) (k3 : Int32), E_l_matches C fo C1 f2 k3 ∧ (∃ (R4 : RS) (r5 : Int32), E_matches R R4 r5 ∧ (∃ (R6 : RS) (r7 : Int32), E_thrown R4 R6 r7 ∧ (if r7 = k3 then (if k3 = 0 then (if r5 = 0 then (if (lg_cmp (f2 0) 0) = 0 then (C' = C1 ∧ R' = R6 ∧ fo' = f2) else (False)) else (if (lg_cmp (f2 0) 1) = 0 then (C' = C1 ∧ R' = R6 ∧ fo' = f2) else (False))) else (C' = C1 ∧ R' = R6 ∧ fo' = f2)) else (False))))
set_option maxHeartbeats 4000000 in
set_option maxRecDepth 100000 in
theorem k_matches {p : Program} {l : Launch} {e : Env} {s : State} {m : MethodId} {below : List Frame} {meth : Method} {c : Code} {G : PG} {Z : ZZ} {b L : Nat} {xs : Nat → Int32} {A : Nat → Prop} (hst : l.stackTraces = false) (F : CallFix p m c cL_law 7 s #[Value.ref b] aW RL ∧ True) (hX : va_X b L xs s s.heap) (hbl : b < s.heap.size) (hK : pg_K G s) (hT : pg_T s) (hZ : zF Z A s s.heap) (hA : ∀ q, s.heap.size ≤ q → A q) (hAo : ∀ q, q < s.heap.size → ¬ A q) (hL : L ≤ 1536) {i : Nat} (hi : i + 3 ≤ L) (x mo ou : Nat) (u q : Nat → Nat) {a1 a2 : Int32} (ha1 : xs (i + 1) = a1) (ha2 : xs (i + 2) = a2) (C : CS) (R : RS) (fo : Nat → Int64) (C' : CS) (R' : RS) (fo' : Nat → Int64) (hE : K_matches C R fo a1 a2 C' R' fo') {H : Heap} {locs : List Loc} {ls : Array Slot} {cells slots : Nat} (hcs : cells + 2 ≤ 601024) (hss : slots + 16 ≤ 7293034) (hl : lv_has ls 7 [(4, .int (nI i)), (3, .ref ou), (2, .ref mo), (1, .ref x), (0, .ref b)]) (hP : va_P G.1 vwCl (lW G ou x u mo q fo C R) H) (hD : va_D A (lW G ou x u mo q fo C R)) (hS : va_S A s.heap H locs) {Q : State → Prop} (kk : ∀ (H : Heap) (locs : List Loc) (ls : Array Slot), lv_has ls 7 [(4, .int (nI i)), (3, .ref ou), (2, .ref mo), (1, .ref x), (0, .ref b)] → va_P G.1 vwCl (lW G ou x u mo q fo' C' R') H → va_D A (lW G ou x u mo q fo' C' R') → va_S A s.heap H locs → W p l e room_1 s m #[Value.ref b] below meth c H locs (cells + 2) (slots + 16) Q (F0 m 719 ls [])) : W p l e room_1 s m #[Value.ref b] below meth c H locs cells slots Q (F0 m 212 ls []) := by
  have hx := F.1.1; have hb := F.1.2.1; have hml := F.1.2.2.1; have hts := F.1.2.2.2.2
  have hown : s.vm.findClass RL = some m.cls := F.1.2.2.2.1
  have hbA : ¬ A b := hAo b hbl
  have hns : ∀ q, A q → ∀ cell, s.heap[q]? = some cell → cell.vm.isStatics = false := fun q h cell hc => absurd h (hAo q (Array.getElem?_eq_some_iff.mp hc).1)
  unfold K_matches at hE
  refine lv_aload_n hx hb dL_law_212 rfl (lv_at hl 3 rfl) ?_
  refine lv_aload_n hx hb dL_law_213 rfl (lv_at hl 1 rfl) ?_
  obtain ⟨C1, f2, k3, hg, hE⟩ := hE
  have hPc := (hP.perm (zl2 (G := G) (ou := ou) (x := x) (u := u) (mo := mo) (q := q) (fo := fo) (C := C) (R := R))).appR; have hDc := (hD.perm (zl2 (G := G) (ou := ou) (x := x) (u := u) (mo := mo) (q := q) (fo := fo) (C := C) (R := R))).appR
  refine kz_i (w2 := fun _ => lW G ou x u mo q f2 C1 R) (kw_S (n := 2) (As := [.ref x, .ref ou]) (rest := []) F.1 (l_matches_y l hst G Z x u ou C fo C1 f2 k3 hg _) w_596 w_594 w_595 w_0 rfl rfl (by decide +kernel) ⟨by decide, by decide⟩ ⟨tS_blind, tS_pre hPc hDc hK hT hZ hS (kz_F (hD.perm (zl2 (G := G) (ou := ou) (x := x) (u := u) (mo := mo) (q := q) (fo := fo) (C := C) (R := R))) hS hA) hns⟩ rfl rfl hl.1 rfl (lv_room (Nat.le_of_ble_eq_true rfl)) dL_law_214 ⟨by show _ ≤ 601024; omega, by show _ ≤ 7293034; omega⟩) hP hD hS hA (zl2 (G := G) (ou := ou) (x := x) (u := u) (mo := mo) (q := q) (fo := fo) (C := C) (R := R)) (fun _ => zl2b) (fun r9 u0 H locs hp hP hD hS => ?_)
  have hp := hp.symm; subst hp
  refine lv_istore hx hb dL_law_217 hl (by decide) rfl (fun ls hl => ?_)
  have hl : lv_has ls 7 [(5, .int k3), (4, .int (nI i)), (3, .ref ou), (2, .ref mo), (1, .ref x), (0, .ref b)] := hl
  refine lv_aload_n hx hb dL_law_219 rfl (lv_at hl 3 rfl) ?_
  obtain ⟨R4, r5, hg, hE⟩ := hE
  have hPc := (hP.perm (zl3 (G := G) (ou := ou) (x := x) (u := u) (mo := mo) (q := q) (fo := f2) (C := C1) (R := R))).appR; have hDc := (hD.perm (zl3 (G := G) (ou := ou) (x := x) (u := u) (mo := mo) (q := q) (fo := f2) (C := C1) (R := R))).appR
  refine kz_i (w2 := fun _ => lW G ou x u mo q f2 C1 R4) (va_runV (As := []) (rest := []) F.1 (e_matches l G mo q R R4 r5 hg _) (cwV 0 hts (aw_V w_1100 w_1101 w_1102 w_6 w_1103) rfl rfl rfl (by decide +kernel) ⟨by decide, by decide⟩) ⟨cS_blind, va_recv (q := (RX6, TX6, 48)) (ci := 6) (q0 := 0) hK.1 hPc rfl rfl, cS_pre hPc hDc hK⟩ rfl rfl hl.1 rfl (lv_room (Nat.le_of_ble_eq_true rfl)) dL_law_220 ⟨by show _ ≤ 601024; omega, by show _ ≤ 7293034; omega⟩) hP hD hS hA (zl3 (G := G) (ou := ou) (x := x) (u := u) (mo := mo) (q := q) (fo := f2) (C := C1) (R := R)) (fun _ => zl3b) (fun r9 u0 H locs hp hP hD hS => ?_)
  have hp := hp.symm; subst hp
  refine lv_istore hx hb dL_law_223 hl (by decide) rfl (fun ls hl => ?_)
  have hl : lv_has ls 7 [(6, .int r5), (5, .int k3), (4, .int (nI i)), (3, .ref ou), (2, .ref mo), (1, .ref x), (0, .ref b)] := hl
  refine lv_aload_n hx hb dL_law_225 rfl (lv_at hl 4 rfl) ?_
  obtain ⟨R6, r7, hg, hE⟩ := hE
  have hPc := (hP.perm (zl3 (G := G) (ou := ou) (x := x) (u := u) (mo := mo) (q := q) (fo := f2) (C := C1) (R := R4))).appR; have hDc := (hD.perm (zl3 (G := G) (ou := ou) (x := x) (u := u) (mo := mo) (q := q) (fo := f2) (C := C1) (R := R4))).appR
  refine kz_i (w2 := fun _ => lW G ou x u mo q f2 C1 R6) (va_runV (As := []) (rest := []) F.1 (e_thrown l G mo q R4 R6 r7 hg _) (cwV 0 hts (aw_V w_992 w_993 w_994 w_6 w_995) rfl rfl rfl (by decide +kernel) ⟨by decide, by decide⟩) ⟨cS_blind, va_recv (q := (RX6, TX6, 48)) (ci := 6) (q0 := 0) hK.1 hPc rfl rfl, cS_pre hPc hDc hK⟩ rfl rfl hl.1 rfl (lv_room (Nat.le_of_ble_eq_true rfl)) dL_law_226 ⟨by show _ ≤ 601024; omega, by show _ ≤ 7293034; omega⟩) hP hD hS hA (zl3 (G := G) (ou := ou) (x := x) (u := u) (mo := mo) (q := q) (fo := f2) (C := C1) (R := R4)) (fun _ => zl3b) (fun r9 u0 H locs hp hP hD hS => ?_)
  have hp := hp.symm; subst hp
  refine lv_iload hx hb dL_law_229 (lv_at hl 1 rfl) ?_
  refine lv_icmp_eq (tgt := 236) hx hb dL_law_231 (by decide) (fun h8 => ?_) (fun h8 => ?_)
  ·
    rw [if_pos h8] at hE
    refine lv_iload hx hb dL_law_236 (lv_at hl 1 rfl) ?_
    refine lv_if_ne (tgt := 260) hx hb dL_law_238 (by decide) (fun h9 => ?_) (fun h9 => ?_)
    ·
      rw [if_neg h9] at hE
      refine lv_goto (tgt := 719) hx hb dL_law_260 (by decide) ?_
      obtain ⟨rfl, rfl, rfl⟩ := hE
      refine W.widen (k := cells + 2) (n := slots + 16) (by omega) (by omega) ?_
      exact kk _ _ _ (lv_sub hl [2, 3, 4, 5, 6] rfl) hP hD hS
    ·
      rw [if_pos h9] at hE
      refine lv_aload_n hx hb dL_law_241 rfl (lv_at hl 3 rfl) ?_
      refine lv_iconst (v := 0) hx hb dL_law_242 (by decide) ?_
      refine va_lald (D := G.1) hx hb hK.1 hP 0 1 rfl rfl (vp_in_nI (n := 0) (by decide) (by decide)) dL_law_243 ?_
      refine tp_l (f2 0) rfl ?_
      refine lv_iload hx hb dL_law_244 (lv_at hl 0 rfl) ?_
      refine lv_if_eq (tgt := 253) hx hb dL_law_246 (by decide) (fun h10 => ?_) (fun h10 => ?_)
      ·
        rw [if_pos h10] at hE
        refine lv_lconst (v := 0) hx hb dL_law_253 (by decide) ?_
        refine W.lcmp hx hb dL_law_254 ?_
        refine lv_if_eq (tgt := 260) hx hb dL_law_255 (by decide) (fun h11 => ?_) (fun h11 => ?_)
        ·
          rw [if_pos h11] at hE
          refine lv_goto (tgt := 719) hx hb dL_law_260 (by decide) ?_
          obtain ⟨rfl, rfl, rfl⟩ := hE
          refine W.widen (k := cells + 2) (n := slots + 16) (by omega) (by omega) ?_
          exact kk _ _ _ (lv_sub hl [2, 3, 4, 5, 6] rfl) hP hD hS
        ·
          rw [if_neg h11] at hE
          refine lv_iconst (v := 0) hx hb dL_law_258 (by decide) ?_
          exact hE.elim
      ·
        rw [if_neg h10] at hE
        refine lv_lconst (v := 1) hx hb dL_law_249 (by decide) ?_
        refine lv_goto (tgt := 254) hx hb dL_law_250 (by decide) ?_
        refine W.lcmp hx hb dL_law_254 ?_
        refine lv_if_eq (tgt := 260) hx hb dL_law_255 (by decide) (fun h12 => ?_) (fun h12 => ?_)
        ·
          rw [if_pos h12] at hE
          refine lv_goto (tgt := 719) hx hb dL_law_260 (by decide) ?_
          obtain ⟨rfl, rfl, rfl⟩ := hE
          refine W.widen (k := cells + 2) (n := slots + 16) (by omega) (by omega) ?_
          exact kk _ _ _ (lv_sub hl [2, 3, 4, 5, 6] rfl) hP hD hS
        ·
          rw [if_neg h12] at hE
          refine lv_iconst (v := 0) hx hb dL_law_258 (by decide) ?_
          exact hE.elim
  ·
    rw [if_neg h8] at hE
    refine lv_iconst (v := 0) hx hb dL_law_234 (by decide) ?_
    exact hE.elim

def K_looking (C : CS) (R : RS) (fo : Nat → Int64) (a1 a2 : Int32) (C' : CS) (R' : RS) (fo' : Nat → Int64) : Prop := ∃ (C1 : CS) (f2 : Nat → Int64) (k3 : Int32), E_l_looking C fo C1 f2 k3 ∧ (∃ (R4 : RS) (r5 : Int32), E_looking R R4 r5 ∧ (∃ (R6 : RS) (r7 : Int32), E_thrown R4 R6 r7 ∧ (if r7 = k3 then (if k3 = 0 then (if r5 = 0 then (if (lg_cmp (f2 0) 0) = 0 then (C' = C1 ∧ R' = R6 ∧ fo' = f2) else (False)) else (if (lg_cmp (f2 0) 1) = 0 then (C' = C1 ∧ R' = R6 ∧ fo' = f2) else (False))) else (C' = C1 ∧ R' = R6 ∧ fo' = f2)) else (False))))
set_option maxHeartbeats 4000000 in
set_option maxRecDepth 100000 in
theorem k_looking {p : Program} {l : Launch} {e : Env} {s : State} {m : MethodId} {below : List Frame} {meth : Method} {c : Code} {G : PG} {Z : ZZ} {b L : Nat} {xs : Nat → Int32} {A : Nat → Prop} (hst : l.stackTraces = false) (F : CallFix p m c cL_law 7 s #[Value.ref b] aW RL ∧ True) (hX : va_X b L xs s s.heap) (hbl : b < s.heap.size) (hK : pg_K G s) (hT : pg_T s) (hZ : zF Z A s s.heap) (hA : ∀ q, s.heap.size ≤ q → A q) (hAo : ∀ q, q < s.heap.size → ¬ A q) (hL : L ≤ 1536) {i : Nat} (hi : i + 3 ≤ L) (x mo ou : Nat) (u q : Nat → Nat) {a1 a2 : Int32} (ha1 : xs (i + 1) = a1) (ha2 : xs (i + 2) = a2) (C : CS) (R : RS) (fo : Nat → Int64) (C' : CS) (R' : RS) (fo' : Nat → Int64) (hE : K_looking C R fo a1 a2 C' R' fo') {H : Heap} {locs : List Loc} {ls : Array Slot} {cells slots : Nat} (hcs : cells + 2 ≤ 601024) (hss : slots + 16 ≤ 7293034) (hl : lv_has ls 7 [(4, .int (nI i)), (3, .ref ou), (2, .ref mo), (1, .ref x), (0, .ref b)]) (hP : va_P G.1 vwCl (lW G ou x u mo q fo C R) H) (hD : va_D A (lW G ou x u mo q fo C R)) (hS : va_S A s.heap H locs) {Q : State → Prop} (kk : ∀ (H : Heap) (locs : List Loc) (ls : Array Slot), lv_has ls 7 [(4, .int (nI i)), (3, .ref ou), (2, .ref mo), (1, .ref x), (0, .ref b)] → va_P G.1 vwCl (lW G ou x u mo q fo' C' R') H → va_D A (lW G ou x u mo q fo' C' R') → va_S A s.heap H locs → W p l e room_1 s m #[Value.ref b] below meth c H locs (cells + 2) (slots + 16) Q (F0 m 719 ls [])) : W p l e room_1 s m #[Value.ref b] below meth c H locs cells slots Q (F0 m 263 ls []) := by
  have hx := F.1.1; have hb := F.1.2.1; have hml := F.1.2.2.1; have hts := F.1.2.2.2.2
  have hown : s.vm.findClass RL = some m.cls := F.1.2.2.2.1
  have hbA : ¬ A b := hAo b hbl
  have hns : ∀ q, A q → ∀ cell, s.heap[q]? = some cell → cell.vm.isStatics = false := fun q h cell hc => absurd h (hAo q (Array.getElem?_eq_some_iff.mp hc).1)
  unfold K_looking at hE
  refine lv_aload_n hx hb dL_law_263 rfl (lv_at hl 3 rfl) ?_
  refine lv_aload_n hx hb dL_law_264 rfl (lv_at hl 1 rfl) ?_
  obtain ⟨C1, f2, k3, hg, hE⟩ := hE
  have hPc := (hP.perm (zl2 (G := G) (ou := ou) (x := x) (u := u) (mo := mo) (q := q) (fo := fo) (C := C) (R := R))).appR; have hDc := (hD.perm (zl2 (G := G) (ou := ou) (x := x) (u := u) (mo := mo) (q := q) (fo := fo) (C := C) (R := R))).appR
  refine kz_i (w2 := fun _ => lW G ou x u mo q f2 C1 R) (kw_S (n := 2) (As := [.ref x, .ref ou]) (rest := []) F.1 (l_looking_y l hst G Z x u ou C fo C1 f2 k3 hg _) w_730 w_728 w_729 w_0 rfl rfl (by decide +kernel) ⟨by decide, by decide⟩ ⟨tS_blind, tS_pre hPc hDc hK hT hZ hS (kz_F (hD.perm (zl2 (G := G) (ou := ou) (x := x) (u := u) (mo := mo) (q := q) (fo := fo) (C := C) (R := R))) hS hA) hns⟩ rfl rfl hl.1 rfl (lv_room (Nat.le_of_ble_eq_true rfl)) dL_law_265 ⟨by show _ ≤ 601024; omega, by show _ ≤ 7293034; omega⟩) hP hD hS hA (zl2 (G := G) (ou := ou) (x := x) (u := u) (mo := mo) (q := q) (fo := fo) (C := C) (R := R)) (fun _ => zl2b) (fun r9 u0 H locs hp hP hD hS => ?_)
  have hp := hp.symm; subst hp
  refine lv_istore hx hb dL_law_268 hl (by decide) rfl (fun ls hl => ?_)
  have hl : lv_has ls 7 [(5, .int k3), (4, .int (nI i)), (3, .ref ou), (2, .ref mo), (1, .ref x), (0, .ref b)] := hl
  refine lv_aload_n hx hb dL_law_270 rfl (lv_at hl 3 rfl) ?_
  obtain ⟨R4, r5, hg, hE⟩ := hE
  have hPc := (hP.perm (zl3 (G := G) (ou := ou) (x := x) (u := u) (mo := mo) (q := q) (fo := f2) (C := C1) (R := R))).appR; have hDc := (hD.perm (zl3 (G := G) (ou := ou) (x := x) (u := u) (mo := mo) (q := q) (fo := f2) (C := C1) (R := R))).appR
  refine kz_i (w2 := fun _ => lW G ou x u mo q f2 C1 R4) (va_runV (As := []) (rest := []) F.1 (e_looking l G mo q R R4 r5 hg _) (cwV 0 hts (aw_V w_1192 w_1193 w_1194 w_6 w_1195) rfl rfl rfl (by decide +kernel) ⟨by decide, by decide⟩) ⟨cS_blind, va_recv (q := (RX6, TX6, 48)) (ci := 6) (q0 := 0) hK.1 hPc rfl rfl, cS_pre hPc hDc hK⟩ rfl rfl hl.1 rfl (lv_room (Nat.le_of_ble_eq_true rfl)) dL_law_271 ⟨by show _ ≤ 601024; omega, by show _ ≤ 7293034; omega⟩) hP hD hS hA (zl3 (G := G) (ou := ou) (x := x) (u := u) (mo := mo) (q := q) (fo := f2) (C := C1) (R := R)) (fun _ => zl3b) (fun r9 u0 H locs hp hP hD hS => ?_)
  have hp := hp.symm; subst hp
  refine lv_istore hx hb dL_law_274 hl (by decide) rfl (fun ls hl => ?_)
  have hl : lv_has ls 7 [(6, .int r5), (5, .int k3), (4, .int (nI i)), (3, .ref ou), (2, .ref mo), (1, .ref x), (0, .ref b)] := hl
  refine lv_aload_n hx hb dL_law_276 rfl (lv_at hl 4 rfl) ?_
  obtain ⟨R6, r7, hg, hE⟩ := hE
  have hPc := (hP.perm (zl3 (G := G) (ou := ou) (x := x) (u := u) (mo := mo) (q := q) (fo := f2) (C := C1) (R := R4))).appR; have hDc := (hD.perm (zl3 (G := G) (ou := ou) (x := x) (u := u) (mo := mo) (q := q) (fo := f2) (C := C1) (R := R4))).appR
  refine kz_i (w2 := fun _ => lW G ou x u mo q f2 C1 R6) (va_runV (As := []) (rest := []) F.1 (e_thrown l G mo q R4 R6 r7 hg _) (cwV 0 hts (aw_V w_992 w_993 w_994 w_6 w_995) rfl rfl rfl (by decide +kernel) ⟨by decide, by decide⟩) ⟨cS_blind, va_recv (q := (RX6, TX6, 48)) (ci := 6) (q0 := 0) hK.1 hPc rfl rfl, cS_pre hPc hDc hK⟩ rfl rfl hl.1 rfl (lv_room (Nat.le_of_ble_eq_true rfl)) dL_law_277 ⟨by show _ ≤ 601024; omega, by show _ ≤ 7293034; omega⟩) hP hD hS hA (zl3 (G := G) (ou := ou) (x := x) (u := u) (mo := mo) (q := q) (fo := f2) (C := C1) (R := R4)) (fun _ => zl3b) (fun r9 u0 H locs hp hP hD hS => ?_)
  have hp := hp.symm; subst hp
  refine lv_iload hx hb dL_law_280 (lv_at hl 1 rfl) ?_
  refine lv_icmp_eq (tgt := 287) hx hb dL_law_282 (by decide) (fun h8 => ?_) (fun h8 => ?_)
  ·
    rw [if_pos h8] at hE
    refine lv_iload hx hb dL_law_287 (lv_at hl 1 rfl) ?_
    refine lv_if_ne (tgt := 311) hx hb dL_law_289 (by decide) (fun h9 => ?_) (fun h9 => ?_)
    ·
      rw [if_neg h9] at hE
      refine lv_goto (tgt := 719) hx hb dL_law_311 (by decide) ?_
      obtain ⟨rfl, rfl, rfl⟩ := hE
      refine W.widen (k := cells + 2) (n := slots + 16) (by omega) (by omega) ?_
      exact kk _ _ _ (lv_sub hl [2, 3, 4, 5, 6] rfl) hP hD hS
    ·
      rw [if_pos h9] at hE
      refine lv_aload_n hx hb dL_law_292 rfl (lv_at hl 3 rfl) ?_
      refine lv_iconst (v := 0) hx hb dL_law_293 (by decide) ?_
      refine va_lald (D := G.1) hx hb hK.1 hP 0 1 rfl rfl (vp_in_nI (n := 0) (by decide) (by decide)) dL_law_294 ?_
      refine tp_l (f2 0) rfl ?_
      refine lv_iload hx hb dL_law_295 (lv_at hl 0 rfl) ?_
      refine lv_if_eq (tgt := 304) hx hb dL_law_297 (by decide) (fun h10 => ?_) (fun h10 => ?_)
      ·
        rw [if_pos h10] at hE
        refine lv_lconst (v := 0) hx hb dL_law_304 (by decide) ?_
        refine W.lcmp hx hb dL_law_305 ?_
        refine lv_if_eq (tgt := 311) hx hb dL_law_306 (by decide) (fun h11 => ?_) (fun h11 => ?_)
        ·
          rw [if_pos h11] at hE
          refine lv_goto (tgt := 719) hx hb dL_law_311 (by decide) ?_
          obtain ⟨rfl, rfl, rfl⟩ := hE
          refine W.widen (k := cells + 2) (n := slots + 16) (by omega) (by omega) ?_
          exact kk _ _ _ (lv_sub hl [2, 3, 4, 5, 6] rfl) hP hD hS
        ·
          rw [if_neg h11] at hE
          refine lv_iconst (v := 0) hx hb dL_law_309 (by decide) ?_
          exact hE.elim
      ·
        rw [if_neg h10] at hE
        refine lv_lconst (v := 1) hx hb dL_law_300 (by decide) ?_
        refine lv_goto (tgt := 305) hx hb dL_law_301 (by decide) ?_
        refine W.lcmp hx hb dL_law_305 ?_
        refine lv_if_eq (tgt := 311) hx hb dL_law_306 (by decide) (fun h12 => ?_) (fun h12 => ?_)
        ·
          rw [if_pos h12] at hE
          refine lv_goto (tgt := 719) hx hb dL_law_311 (by decide) ?_
          obtain ⟨rfl, rfl, rfl⟩ := hE
          refine W.widen (k := cells + 2) (n := slots + 16) (by omega) (by omega) ?_
          exact kk _ _ _ (lv_sub hl [2, 3, 4, 5, 6] rfl) hP hD hS
        ·
          rw [if_neg h12] at hE
          refine lv_iconst (v := 0) hx hb dL_law_309 (by decide) ?_
          exact hE.elim
  ·
    rw [if_neg h8] at hE
    refine lv_iconst (v := 0) hx hb dL_law_285 (by decide) ?_
    exact hE.elim

def K_find (C : CS) (R : RS) (fo : Nat → Int64) (a1 a2 : Int32) (C' : CS) (R' : RS) (fo' : Nat → Int64) : Prop := ∃ (C1 : CS) (f2 : Nat → Int64) (k3 : Int32), E_l_find C fo a1 C1 f2 k3 ∧ (∃ (R4 : RS) (r5 : Int32), E_find R a1 R4 r5 ∧ (∃ (R6 : RS) (r7 : Int32), E_thrown R4 R6 r7 ∧ (if r7 = k3 then (if k3 = 0 then (if (lg_cmp (f2 0) r5.toInt64) = 0 then (C' = C1 ∧ R' = R6 ∧ fo' = f2) else (False)) else (C' = C1 ∧ R' = R6 ∧ fo' = f2)) else (False))))
set_option maxHeartbeats 4000000 in
set_option maxRecDepth 100000 in
theorem k_find {p : Program} {l : Launch} {e : Env} {s : State} {m : MethodId} {below : List Frame} {meth : Method} {c : Code} {G : PG} {Z : ZZ} {b L : Nat} {xs : Nat → Int32} {A : Nat → Prop} (hst : l.stackTraces = false) (F : CallFix p m c cL_law 7 s #[Value.ref b] aW RL ∧ True) (hX : va_X b L xs s s.heap) (hbl : b < s.heap.size) (hK : pg_K G s) (hT : pg_T s) (hZ : zF Z A s s.heap) (hA : ∀ q, s.heap.size ≤ q → A q) (hAo : ∀ q, q < s.heap.size → ¬ A q) (hL : L ≤ 1536) {i : Nat} (hi : i + 3 ≤ L) (x mo ou : Nat) (u q : Nat → Nat) {a1 a2 : Int32} (ha1 : xs (i + 1) = a1) (ha2 : xs (i + 2) = a2) (C : CS) (R : RS) (fo : Nat → Int64) (C' : CS) (R' : RS) (fo' : Nat → Int64) (hE : K_find C R fo a1 a2 C' R' fo') {H : Heap} {locs : List Loc} {ls : Array Slot} {cells slots : Nat} (hcs : cells + 2 ≤ 601024) (hss : slots + 16 ≤ 7293034) (hl : lv_has ls 7 [(4, .int (nI i)), (3, .ref ou), (2, .ref mo), (1, .ref x), (0, .ref b)]) (hP : va_P G.1 vwCl (lW G ou x u mo q fo C R) H) (hD : va_D A (lW G ou x u mo q fo C R)) (hS : va_S A s.heap H locs) {Q : State → Prop} (kk : ∀ (H : Heap) (locs : List Loc) (ls : Array Slot), lv_has ls 7 [(4, .int (nI i)), (3, .ref ou), (2, .ref mo), (1, .ref x), (0, .ref b)] → va_P G.1 vwCl (lW G ou x u mo q fo' C' R') H → va_D A (lW G ou x u mo q fo' C' R') → va_S A s.heap H locs → W p l e room_1 s m #[Value.ref b] below meth c H locs (cells + 2) (slots + 16) Q (F0 m 719 ls [])) : W p l e room_1 s m #[Value.ref b] below meth c H locs cells slots Q (F0 m 314 ls []) := by
  have hx := F.1.1; have hb := F.1.2.1; have hml := F.1.2.2.1; have hts := F.1.2.2.2.2
  have hown : s.vm.findClass RL = some m.cls := F.1.2.2.2.1
  have hbA : ¬ A b := hAo b hbl
  have hns : ∀ q, A q → ∀ cell, s.heap[q]? = some cell → cell.vm.isStatics = false := fun q h cell hc => absurd h (hAo q (Array.getElem?_eq_some_iff.mp hc).1)
  unfold K_find at hE
  refine lv_aload_n hx hb dL_law_314 rfl (lv_at hl 3 rfl) ?_
  refine lv_aload_n hx hb dL_law_315 rfl (lv_at hl 4 rfl) ?_
  refine lv_iload hx hb dL_law_316 (lv_at hl 0 rfl) ?_
  refine lv_iconst (v := 1) hx hb dL_law_318 (by decide) ?_
  refine lv_iadd hx hb dL_law_319 ?_
  refine tp_i (nI (i + 1)) nI_p1.symm ?_
  refine va_sld (A := A) hx hb hX hbl hbA hS (vp_in_nI (n := i + 1) (by omega) (by omega)) dL_law_320 ?_
  refine tp_i a1 (by rw [nI_clamp (by omega)]; exact ha1) ?_
  refine lv_aload_n hx hb dL_law_321 rfl (lv_at hl 1 rfl) ?_
  obtain ⟨C1, f2, k3, hg, hE⟩ := hE
  have hPc := (hP.perm (zl2 (G := G) (ou := ou) (x := x) (u := u) (mo := mo) (q := q) (fo := fo) (C := C) (R := R))).appR; have hDc := (hD.perm (zl2 (G := G) (ou := ou) (x := x) (u := u) (mo := mo) (q := q) (fo := fo) (C := C) (R := R))).appR
  refine kz_i (w2 := fun _ => lW G ou x u mo q f2 C1 R) (kw_S (n := 3) (As := [.ref x, .int a1, .ref ou]) (rest := []) F.1 (l_find_y l hst G Z x u ou C fo a1 C1 f2 k3 hg _) w_737 w_735 w_736 w_0 rfl rfl (by decide +kernel) ⟨by decide, by decide⟩ ⟨tS_blind, tS_pre hPc hDc hK hT hZ hS (kz_F (hD.perm (zl2 (G := G) (ou := ou) (x := x) (u := u) (mo := mo) (q := q) (fo := fo) (C := C) (R := R))) hS hA) hns⟩ rfl rfl hl.1 rfl (lv_room (Nat.le_of_ble_eq_true rfl)) dL_law_322 ⟨by show _ ≤ 601024; omega, by show _ ≤ 7293034; omega⟩) hP hD hS hA (zl2 (G := G) (ou := ou) (x := x) (u := u) (mo := mo) (q := q) (fo := fo) (C := C) (R := R)) (fun _ => zl2b) (fun r9 u0 H locs hp hP hD hS => ?_)
  have hp := hp.symm; subst hp
  refine lv_istore hx hb dL_law_325 hl (by decide) rfl (fun ls hl => ?_)
  have hl : lv_has ls 7 [(5, .int k3), (4, .int (nI i)), (3, .ref ou), (2, .ref mo), (1, .ref x), (0, .ref b)] := hl
  refine lv_aload_n hx hb dL_law_327 rfl (lv_at hl 3 rfl) ?_
  refine lv_aload_n hx hb dL_law_328 rfl (lv_at hl 5 rfl) ?_
  refine lv_iload hx hb dL_law_329 (lv_at hl 1 rfl) ?_
  refine lv_iconst (v := 1) hx hb dL_law_331 (by decide) ?_
  refine lv_iadd hx hb dL_law_332 ?_
  refine tp_i (nI (i + 1)) nI_p1.symm ?_
  refine va_sld (A := A) hx hb hX hbl hbA hS (vp_in_nI (n := i + 1) (by omega) (by omega)) dL_law_333 ?_
  refine tp_i a1 (by rw [nI_clamp (by omega)]; exact ha1) ?_
  obtain ⟨R4, r5, hg, hE⟩ := hE
  have hPc := (hP.perm (zl3 (G := G) (ou := ou) (x := x) (u := u) (mo := mo) (q := q) (fo := f2) (C := C1) (R := R))).appR; have hDc := (hD.perm (zl3 (G := G) (ou := ou) (x := x) (u := u) (mo := mo) (q := q) (fo := f2) (C := C1) (R := R))).appR
  refine kz_i (w2 := fun _ => lW G ou x u mo q f2 C1 R4) (va_runV (As := [.int a1]) (rest := []) F.1 (e_find l G mo q R a1 R4 r5 hg _) (cwV 1 hts (aw_V w_1196 w_1197 w_1198 w_6 w_1199) rfl rfl rfl (by decide +kernel) ⟨by decide, by decide⟩) ⟨cS_blind, va_recv (q := (RX6, TX6, 48)) (ci := 6) (q0 := 0) hK.1 hPc rfl rfl, cS_pre hPc hDc hK⟩ rfl rfl hl.1 rfl (lv_room (Nat.le_of_ble_eq_true rfl)) dL_law_334 ⟨by show _ ≤ 601024; omega, by show _ ≤ 7293034; omega⟩) hP hD hS hA (zl3 (G := G) (ou := ou) (x := x) (u := u) (mo := mo) (q := q) (fo := f2) (C := C1) (R := R)) (fun _ => zl3b) (fun r9 u0 H locs hp hP hD hS => ?_)
  have hp := hp.symm; subst hp
  refine lv_istore hx hb dL_law_337 hl (by decide) rfl (fun ls hl => ?_)
  have hl : lv_has ls 7 [(6, .int r5), (5, .int k3), (4, .int (nI i)), (3, .ref ou), (2, .ref mo), (1, .ref x), (0, .ref b)] := hl
  refine lv_aload_n hx hb dL_law_339 rfl (lv_at hl 4 rfl) ?_
  obtain ⟨R6, r7, hg, hE⟩ := hE
  have hPc := (hP.perm (zl3 (G := G) (ou := ou) (x := x) (u := u) (mo := mo) (q := q) (fo := f2) (C := C1) (R := R4))).appR; have hDc := (hD.perm (zl3 (G := G) (ou := ou) (x := x) (u := u) (mo := mo) (q := q) (fo := f2) (C := C1) (R := R4))).appR
  refine kz_i (w2 := fun _ => lW G ou x u mo q f2 C1 R6) (va_runV (As := []) (rest := []) F.1 (e_thrown l G mo q R4 R6 r7 hg _) (cwV 0 hts (aw_V w_992 w_993 w_994 w_6 w_995) rfl rfl rfl (by decide +kernel) ⟨by decide, by decide⟩) ⟨cS_blind, va_recv (q := (RX6, TX6, 48)) (ci := 6) (q0 := 0) hK.1 hPc rfl rfl, cS_pre hPc hDc hK⟩ rfl rfl hl.1 rfl (lv_room (Nat.le_of_ble_eq_true rfl)) dL_law_340 ⟨by show _ ≤ 601024; omega, by show _ ≤ 7293034; omega⟩) hP hD hS hA (zl3 (G := G) (ou := ou) (x := x) (u := u) (mo := mo) (q := q) (fo := f2) (C := C1) (R := R4)) (fun _ => zl3b) (fun r9 u0 H locs hp hP hD hS => ?_)
  have hp := hp.symm; subst hp
  refine lv_iload hx hb dL_law_343 (lv_at hl 1 rfl) ?_
  refine lv_icmp_eq (tgt := 350) hx hb dL_law_345 (by decide) (fun h8 => ?_) (fun h8 => ?_)
  ·
    rw [if_pos h8] at hE
    refine lv_iload hx hb dL_law_350 (lv_at hl 1 rfl) ?_
    refine lv_if_ne (tgt := 367) hx hb dL_law_352 (by decide) (fun h9 => ?_) (fun h9 => ?_)
    ·
      rw [if_neg h9] at hE
      refine lv_goto (tgt := 719) hx hb dL_law_367 (by decide) ?_
      obtain ⟨rfl, rfl, rfl⟩ := hE
      refine W.widen (k := cells + 2) (n := slots + 16) (by omega) (by omega) ?_
      exact kk _ _ _ (lv_sub hl [2, 3, 4, 5, 6] rfl) hP hD hS
    ·
      rw [if_pos h9] at hE
      refine lv_aload_n hx hb dL_law_355 rfl (lv_at hl 3 rfl) ?_
      refine lv_iconst (v := 0) hx hb dL_law_356 (by decide) ?_
      refine va_lald (D := G.1) hx hb hK.1 hP 0 1 rfl rfl (vp_in_nI (n := 0) (by decide) (by decide)) dL_law_357 ?_
      refine tp_l (f2 0) rfl ?_
      refine lv_iload hx hb dL_law_358 (lv_at hl 0 rfl) ?_
      refine lv_i2l (v := r5.toInt64) hx hb dL_law_360 rfl ?_
      refine W.lcmp hx hb dL_law_361 ?_
      refine lv_if_eq (tgt := 367) hx hb dL_law_362 (by decide) (fun h10 => ?_) (fun h10 => ?_)
      ·
        rw [if_pos h10] at hE
        refine lv_goto (tgt := 719) hx hb dL_law_367 (by decide) ?_
        obtain ⟨rfl, rfl, rfl⟩ := hE
        refine W.widen (k := cells + 2) (n := slots + 16) (by omega) (by omega) ?_
        exact kk _ _ _ (lv_sub hl [2, 3, 4, 5, 6] rfl) hP hD hS
      ·
        rw [if_neg h10] at hE
        refine lv_iconst (v := 0) hx hb dL_law_365 (by decide) ?_
        exact hE.elim
  ·
    rw [if_neg h8] at hE
    refine lv_iconst (v := 0) hx hb dL_law_348 (by decide) ?_
    exact hE.elim

def K_start (C : CS) (R : RS) (fo : Nat → Int64) (a1 a2 : Int32) (C' : CS) (R' : RS) (fo' : Nat → Int64) : Prop := ∃ (C1 : CS) (f2 : Nat → Int64) (k3 : Int32), E_l_start C fo a1 C1 f2 k3 ∧ (∃ (R4 : RS) (r5 : Int32), E_start R a1 R4 r5 ∧ (∃ (R6 : RS) (r7 : Int32), E_thrown R4 R6 r7 ∧ (if r7 = k3 then (if k3 = 0 then (if (lg_cmp (f2 0) r5.toInt64) = 0 then (C' = C1 ∧ R' = R6 ∧ fo' = f2) else (False)) else (C' = C1 ∧ R' = R6 ∧ fo' = f2)) else (False))))
set_option maxHeartbeats 4000000 in
set_option maxRecDepth 100000 in
theorem k_start {p : Program} {l : Launch} {e : Env} {s : State} {m : MethodId} {below : List Frame} {meth : Method} {c : Code} {G : PG} {Z : ZZ} {b L : Nat} {xs : Nat → Int32} {A : Nat → Prop} (hst : l.stackTraces = false) (F : CallFix p m c cL_law 7 s #[Value.ref b] aW RL ∧ True) (hX : va_X b L xs s s.heap) (hbl : b < s.heap.size) (hK : pg_K G s) (hT : pg_T s) (hZ : zF Z A s s.heap) (hA : ∀ q, s.heap.size ≤ q → A q) (hAo : ∀ q, q < s.heap.size → ¬ A q) (hL : L ≤ 1536) {i : Nat} (hi : i + 3 ≤ L) (x mo ou : Nat) (u q : Nat → Nat) {a1 a2 : Int32} (ha1 : xs (i + 1) = a1) (ha2 : xs (i + 2) = a2) (C : CS) (R : RS) (fo : Nat → Int64) (C' : CS) (R' : RS) (fo' : Nat → Int64) (hE : K_start C R fo a1 a2 C' R' fo') {H : Heap} {locs : List Loc} {ls : Array Slot} {cells slots : Nat} (hcs : cells + 2 ≤ 601024) (hss : slots + 16 ≤ 7293034) (hl : lv_has ls 7 [(4, .int (nI i)), (3, .ref ou), (2, .ref mo), (1, .ref x), (0, .ref b)]) (hP : va_P G.1 vwCl (lW G ou x u mo q fo C R) H) (hD : va_D A (lW G ou x u mo q fo C R)) (hS : va_S A s.heap H locs) {Q : State → Prop} (kk : ∀ (H : Heap) (locs : List Loc) (ls : Array Slot), lv_has ls 7 [(4, .int (nI i)), (3, .ref ou), (2, .ref mo), (1, .ref x), (0, .ref b)] → va_P G.1 vwCl (lW G ou x u mo q fo' C' R') H → va_D A (lW G ou x u mo q fo' C' R') → va_S A s.heap H locs → W p l e room_1 s m #[Value.ref b] below meth c H locs (cells + 2) (slots + 16) Q (F0 m 719 ls [])) : W p l e room_1 s m #[Value.ref b] below meth c H locs cells slots Q (F0 m 370 ls []) := by
  have hx := F.1.1; have hb := F.1.2.1; have hml := F.1.2.2.1; have hts := F.1.2.2.2.2
  have hown : s.vm.findClass RL = some m.cls := F.1.2.2.2.1
  have hbA : ¬ A b := hAo b hbl
  have hns : ∀ q, A q → ∀ cell, s.heap[q]? = some cell → cell.vm.isStatics = false := fun q h cell hc => absurd h (hAo q (Array.getElem?_eq_some_iff.mp hc).1)
  unfold K_start at hE
  refine lv_aload_n hx hb dL_law_370 rfl (lv_at hl 3 rfl) ?_
  refine lv_aload_n hx hb dL_law_371 rfl (lv_at hl 4 rfl) ?_
  refine lv_iload hx hb dL_law_372 (lv_at hl 0 rfl) ?_
  refine lv_iconst (v := 1) hx hb dL_law_374 (by decide) ?_
  refine lv_iadd hx hb dL_law_375 ?_
  refine tp_i (nI (i + 1)) nI_p1.symm ?_
  refine va_sld (A := A) hx hb hX hbl hbA hS (vp_in_nI (n := i + 1) (by omega) (by omega)) dL_law_376 ?_
  refine tp_i a1 (by rw [nI_clamp (by omega)]; exact ha1) ?_
  refine lv_aload_n hx hb dL_law_377 rfl (lv_at hl 1 rfl) ?_
  obtain ⟨C1, f2, k3, hg, hE⟩ := hE
  have hPc := (hP.perm (zl2 (G := G) (ou := ou) (x := x) (u := u) (mo := mo) (q := q) (fo := fo) (C := C) (R := R))).appR; have hDc := (hD.perm (zl2 (G := G) (ou := ou) (x := x) (u := u) (mo := mo) (q := q) (fo := fo) (C := C) (R := R))).appR
  refine kz_i (w2 := fun _ => lW G ou x u mo q f2 C1 R) (kw_S (n := 3) (As := [.ref x, .int a1, .ref ou]) (rest := []) F.1 (l_start_y l hst G Z x u ou C fo a1 C1 f2 k3 hg _) w_760 w_758 w_759 w_0 rfl rfl (by decide +kernel) ⟨by decide, by decide⟩ ⟨tS_blind, tS_pre hPc hDc hK hT hZ hS (kz_F (hD.perm (zl2 (G := G) (ou := ou) (x := x) (u := u) (mo := mo) (q := q) (fo := fo) (C := C) (R := R))) hS hA) hns⟩ rfl rfl hl.1 rfl (lv_room (Nat.le_of_ble_eq_true rfl)) dL_law_378 ⟨by show _ ≤ 601024; omega, by show _ ≤ 7293034; omega⟩) hP hD hS hA (zl2 (G := G) (ou := ou) (x := x) (u := u) (mo := mo) (q := q) (fo := fo) (C := C) (R := R)) (fun _ => zl2b) (fun r9 u0 H locs hp hP hD hS => ?_)
  have hp := hp.symm; subst hp
  refine lv_istore hx hb dL_law_381 hl (by decide) rfl (fun ls hl => ?_)
  have hl : lv_has ls 7 [(5, .int k3), (4, .int (nI i)), (3, .ref ou), (2, .ref mo), (1, .ref x), (0, .ref b)] := hl
  refine lv_aload_n hx hb dL_law_383 rfl (lv_at hl 3 rfl) ?_
  refine lv_aload_n hx hb dL_law_384 rfl (lv_at hl 5 rfl) ?_
  refine lv_iload hx hb dL_law_385 (lv_at hl 1 rfl) ?_
  refine lv_iconst (v := 1) hx hb dL_law_387 (by decide) ?_
  refine lv_iadd hx hb dL_law_388 ?_
  refine tp_i (nI (i + 1)) nI_p1.symm ?_
  refine va_sld (A := A) hx hb hX hbl hbA hS (vp_in_nI (n := i + 1) (by omega) (by omega)) dL_law_389 ?_
  refine tp_i a1 (by rw [nI_clamp (by omega)]; exact ha1) ?_
  obtain ⟨R4, r5, hg, hE⟩ := hE
  have hPc := (hP.perm (zl3 (G := G) (ou := ou) (x := x) (u := u) (mo := mo) (q := q) (fo := f2) (C := C1) (R := R))).appR; have hDc := (hD.perm (zl3 (G := G) (ou := ou) (x := x) (u := u) (mo := mo) (q := q) (fo := f2) (C := C1) (R := R))).appR
  refine kz_i (w2 := fun _ => lW G ou x u mo q f2 C1 R4) (va_runV (As := [.int a1]) (rest := []) F.1 (e_start l G mo q R a1 R4 r5 hg _) (cwV 1 hts (aw_V w_1204 w_1205 w_1206 w_6 w_1207) rfl rfl rfl (by decide +kernel) ⟨by decide, by decide⟩) ⟨cS_blind, va_recv (q := (RX6, TX6, 48)) (ci := 6) (q0 := 0) hK.1 hPc rfl rfl, cS_pre hPc hDc hK⟩ rfl rfl hl.1 rfl (lv_room (Nat.le_of_ble_eq_true rfl)) dL_law_390 ⟨by show _ ≤ 601024; omega, by show _ ≤ 7293034; omega⟩) hP hD hS hA (zl3 (G := G) (ou := ou) (x := x) (u := u) (mo := mo) (q := q) (fo := f2) (C := C1) (R := R)) (fun _ => zl3b) (fun r9 u0 H locs hp hP hD hS => ?_)
  have hp := hp.symm; subst hp
  refine lv_istore hx hb dL_law_393 hl (by decide) rfl (fun ls hl => ?_)
  have hl : lv_has ls 7 [(6, .int r5), (5, .int k3), (4, .int (nI i)), (3, .ref ou), (2, .ref mo), (1, .ref x), (0, .ref b)] := hl
  refine lv_aload_n hx hb dL_law_395 rfl (lv_at hl 4 rfl) ?_
  obtain ⟨R6, r7, hg, hE⟩ := hE
  have hPc := (hP.perm (zl3 (G := G) (ou := ou) (x := x) (u := u) (mo := mo) (q := q) (fo := f2) (C := C1) (R := R4))).appR; have hDc := (hD.perm (zl3 (G := G) (ou := ou) (x := x) (u := u) (mo := mo) (q := q) (fo := f2) (C := C1) (R := R4))).appR
  refine kz_i (w2 := fun _ => lW G ou x u mo q f2 C1 R6) (va_runV (As := []) (rest := []) F.1 (e_thrown l G mo q R4 R6 r7 hg _) (cwV 0 hts (aw_V w_992 w_993 w_994 w_6 w_995) rfl rfl rfl (by decide +kernel) ⟨by decide, by decide⟩) ⟨cS_blind, va_recv (q := (RX6, TX6, 48)) (ci := 6) (q0 := 0) hK.1 hPc rfl rfl, cS_pre hPc hDc hK⟩ rfl rfl hl.1 rfl (lv_room (Nat.le_of_ble_eq_true rfl)) dL_law_396 ⟨by show _ ≤ 601024; omega, by show _ ≤ 7293034; omega⟩) hP hD hS hA (zl3 (G := G) (ou := ou) (x := x) (u := u) (mo := mo) (q := q) (fo := f2) (C := C1) (R := R4)) (fun _ => zl3b) (fun r9 u0 H locs hp hP hD hS => ?_)
  have hp := hp.symm; subst hp
  refine lv_iload hx hb dL_law_399 (lv_at hl 1 rfl) ?_
  refine lv_icmp_eq (tgt := 406) hx hb dL_law_401 (by decide) (fun h8 => ?_) (fun h8 => ?_)
  ·
    rw [if_pos h8] at hE
    refine lv_iload hx hb dL_law_406 (lv_at hl 1 rfl) ?_
    refine lv_if_ne (tgt := 423) hx hb dL_law_408 (by decide) (fun h9 => ?_) (fun h9 => ?_)
    ·
      rw [if_neg h9] at hE
      refine lv_goto (tgt := 719) hx hb dL_law_423 (by decide) ?_
      obtain ⟨rfl, rfl, rfl⟩ := hE
      refine W.widen (k := cells + 2) (n := slots + 16) (by omega) (by omega) ?_
      exact kk _ _ _ (lv_sub hl [2, 3, 4, 5, 6] rfl) hP hD hS
    ·
      rw [if_pos h9] at hE
      refine lv_aload_n hx hb dL_law_411 rfl (lv_at hl 3 rfl) ?_
      refine lv_iconst (v := 0) hx hb dL_law_412 (by decide) ?_
      refine va_lald (D := G.1) hx hb hK.1 hP 0 1 rfl rfl (vp_in_nI (n := 0) (by decide) (by decide)) dL_law_413 ?_
      refine tp_l (f2 0) rfl ?_
      refine lv_iload hx hb dL_law_414 (lv_at hl 0 rfl) ?_
      refine lv_i2l (v := r5.toInt64) hx hb dL_law_416 rfl ?_
      refine W.lcmp hx hb dL_law_417 ?_
      refine lv_if_eq (tgt := 423) hx hb dL_law_418 (by decide) (fun h10 => ?_) (fun h10 => ?_)
      ·
        rw [if_pos h10] at hE
        refine lv_goto (tgt := 719) hx hb dL_law_423 (by decide) ?_
        obtain ⟨rfl, rfl, rfl⟩ := hE
        refine W.widen (k := cells + 2) (n := slots + 16) (by omega) (by omega) ?_
        exact kk _ _ _ (lv_sub hl [2, 3, 4, 5, 6] rfl) hP hD hS
      ·
        rw [if_neg h10] at hE
        refine lv_iconst (v := 0) hx hb dL_law_421 (by decide) ?_
        exact hE.elim
  ·
    rw [if_neg h8] at hE
    refine lv_iconst (v := 0) hx hb dL_law_404 (by decide) ?_
    exact hE.elim

def K_end (C : CS) (R : RS) (fo : Nat → Int64) (a1 a2 : Int32) (C' : CS) (R' : RS) (fo' : Nat → Int64) : Prop := ∃ (C1 : CS) (f2 : Nat → Int64) (k3 : Int32), E_l_end C fo a1 C1 f2 k3 ∧ (∃ (R4 : RS) (r5 : Int32), E_end R a1 R4 r5 ∧ (∃ (R6 : RS) (r7 : Int32), E_thrown R4 R6 r7 ∧ (if r7 = k3 then (if k3 = 0 then (if (lg_cmp (f2 0) r5.toInt64) = 0 then (C' = C1 ∧ R' = R6 ∧ fo' = f2) else (False)) else (C' = C1 ∧ R' = R6 ∧ fo' = f2)) else (False))))
set_option maxHeartbeats 4000000 in
set_option maxRecDepth 100000 in
theorem k_end {p : Program} {l : Launch} {e : Env} {s : State} {m : MethodId} {below : List Frame} {meth : Method} {c : Code} {G : PG} {Z : ZZ} {b L : Nat} {xs : Nat → Int32} {A : Nat → Prop} (hst : l.stackTraces = false) (F : CallFix p m c cL_law 7 s #[Value.ref b] aW RL ∧ True) (hX : va_X b L xs s s.heap) (hbl : b < s.heap.size) (hK : pg_K G s) (hT : pg_T s) (hZ : zF Z A s s.heap) (hA : ∀ q, s.heap.size ≤ q → A q) (hAo : ∀ q, q < s.heap.size → ¬ A q) (hL : L ≤ 1536) {i : Nat} (hi : i + 3 ≤ L) (x mo ou : Nat) (u q : Nat → Nat) {a1 a2 : Int32} (ha1 : xs (i + 1) = a1) (ha2 : xs (i + 2) = a2) (C : CS) (R : RS) (fo : Nat → Int64) (C' : CS) (R' : RS) (fo' : Nat → Int64) (hE : K_end C R fo a1 a2 C' R' fo') {H : Heap} {locs : List Loc} {ls : Array Slot} {cells slots : Nat} (hcs : cells + 2 ≤ 601024) (hss : slots + 16 ≤ 7293034) (hl : lv_has ls 7 [(4, .int (nI i)), (3, .ref ou), (2, .ref mo), (1, .ref x), (0, .ref b)]) (hP : va_P G.1 vwCl (lW G ou x u mo q fo C R) H) (hD : va_D A (lW G ou x u mo q fo C R)) (hS : va_S A s.heap H locs) {Q : State → Prop} (kk : ∀ (H : Heap) (locs : List Loc) (ls : Array Slot), lv_has ls 7 [(4, .int (nI i)), (3, .ref ou), (2, .ref mo), (1, .ref x), (0, .ref b)] → va_P G.1 vwCl (lW G ou x u mo q fo' C' R') H → va_D A (lW G ou x u mo q fo' C' R') → va_S A s.heap H locs → W p l e room_1 s m #[Value.ref b] below meth c H locs (cells + 2) (slots + 16) Q (F0 m 719 ls [])) : W p l e room_1 s m #[Value.ref b] below meth c H locs cells slots Q (F0 m 426 ls []) := by
  have hx := F.1.1; have hb := F.1.2.1; have hml := F.1.2.2.1; have hts := F.1.2.2.2.2
  have hown : s.vm.findClass RL = some m.cls := F.1.2.2.2.1
  have hbA : ¬ A b := hAo b hbl
  have hns : ∀ q, A q → ∀ cell, s.heap[q]? = some cell → cell.vm.isStatics = false := fun q h cell hc => absurd h (hAo q (Array.getElem?_eq_some_iff.mp hc).1)
  unfold K_end at hE
  refine lv_aload_n hx hb dL_law_426 rfl (lv_at hl 3 rfl) ?_
  refine lv_aload_n hx hb dL_law_427 rfl (lv_at hl 4 rfl) ?_
  refine lv_iload hx hb dL_law_428 (lv_at hl 0 rfl) ?_
  refine lv_iconst (v := 1) hx hb dL_law_430 (by decide) ?_
  refine lv_iadd hx hb dL_law_431 ?_
  refine tp_i (nI (i + 1)) nI_p1.symm ?_
  refine va_sld (A := A) hx hb hX hbl hbA hS (vp_in_nI (n := i + 1) (by omega) (by omega)) dL_law_432 ?_
  refine tp_i a1 (by rw [nI_clamp (by omega)]; exact ha1) ?_
  refine lv_aload_n hx hb dL_law_433 rfl (lv_at hl 1 rfl) ?_
  obtain ⟨C1, f2, k3, hg, hE⟩ := hE
  have hPc := (hP.perm (zl2 (G := G) (ou := ou) (x := x) (u := u) (mo := mo) (q := q) (fo := fo) (C := C) (R := R))).appR; have hDc := (hD.perm (zl2 (G := G) (ou := ou) (x := x) (u := u) (mo := mo) (q := q) (fo := fo) (C := C) (R := R))).appR
  refine kz_i (w2 := fun _ => lW G ou x u mo q f2 C1 R) (kw_S (n := 3) (As := [.ref x, .int a1, .ref ou]) (rest := []) F.1 (l_end_y l hst G Z x u ou C fo a1 C1 f2 k3 hg _) w_775 w_773 w_774 w_0 rfl rfl (by decide +kernel) ⟨by decide, by decide⟩ ⟨tS_blind, tS_pre hPc hDc hK hT hZ hS (kz_F (hD.perm (zl2 (G := G) (ou := ou) (x := x) (u := u) (mo := mo) (q := q) (fo := fo) (C := C) (R := R))) hS hA) hns⟩ rfl rfl hl.1 rfl (lv_room (Nat.le_of_ble_eq_true rfl)) dL_law_434 ⟨by show _ ≤ 601024; omega, by show _ ≤ 7293034; omega⟩) hP hD hS hA (zl2 (G := G) (ou := ou) (x := x) (u := u) (mo := mo) (q := q) (fo := fo) (C := C) (R := R)) (fun _ => zl2b) (fun r9 u0 H locs hp hP hD hS => ?_)
  have hp := hp.symm; subst hp
  refine lv_istore hx hb dL_law_437 hl (by decide) rfl (fun ls hl => ?_)
  have hl : lv_has ls 7 [(5, .int k3), (4, .int (nI i)), (3, .ref ou), (2, .ref mo), (1, .ref x), (0, .ref b)] := hl
  refine lv_aload_n hx hb dL_law_439 rfl (lv_at hl 3 rfl) ?_
  refine lv_aload_n hx hb dL_law_440 rfl (lv_at hl 5 rfl) ?_
  refine lv_iload hx hb dL_law_441 (lv_at hl 1 rfl) ?_
  refine lv_iconst (v := 1) hx hb dL_law_443 (by decide) ?_
  refine lv_iadd hx hb dL_law_444 ?_
  refine tp_i (nI (i + 1)) nI_p1.symm ?_
  refine va_sld (A := A) hx hb hX hbl hbA hS (vp_in_nI (n := i + 1) (by omega) (by omega)) dL_law_445 ?_
  refine tp_i a1 (by rw [nI_clamp (by omega)]; exact ha1) ?_
  obtain ⟨R4, r5, hg, hE⟩ := hE
  have hPc := (hP.perm (zl3 (G := G) (ou := ou) (x := x) (u := u) (mo := mo) (q := q) (fo := f2) (C := C1) (R := R))).appR; have hDc := (hD.perm (zl3 (G := G) (ou := ou) (x := x) (u := u) (mo := mo) (q := q) (fo := f2) (C := C1) (R := R))).appR
  refine kz_i (w2 := fun _ => lW G ou x u mo q f2 C1 R4) (va_runV (As := [.int a1]) (rest := []) F.1 (e_end l G mo q R a1 R4 r5 hg _) (cwV 1 hts (aw_V w_1212 w_1213 w_1214 w_6 w_1215) rfl rfl rfl (by decide +kernel) ⟨by decide, by decide⟩) ⟨cS_blind, va_recv (q := (RX6, TX6, 48)) (ci := 6) (q0 := 0) hK.1 hPc rfl rfl, cS_pre hPc hDc hK⟩ rfl rfl hl.1 rfl (lv_room (Nat.le_of_ble_eq_true rfl)) dL_law_446 ⟨by show _ ≤ 601024; omega, by show _ ≤ 7293034; omega⟩) hP hD hS hA (zl3 (G := G) (ou := ou) (x := x) (u := u) (mo := mo) (q := q) (fo := f2) (C := C1) (R := R)) (fun _ => zl3b) (fun r9 u0 H locs hp hP hD hS => ?_)
  have hp := hp.symm; subst hp
  refine lv_istore hx hb dL_law_449 hl (by decide) rfl (fun ls hl => ?_)
  have hl : lv_has ls 7 [(6, .int r5), (5, .int k3), (4, .int (nI i)), (3, .ref ou), (2, .ref mo), (1, .ref x), (0, .ref b)] := hl
  refine lv_aload_n hx hb dL_law_451 rfl (lv_at hl 4 rfl) ?_
  obtain ⟨R6, r7, hg, hE⟩ := hE
  have hPc := (hP.perm (zl3 (G := G) (ou := ou) (x := x) (u := u) (mo := mo) (q := q) (fo := f2) (C := C1) (R := R4))).appR; have hDc := (hD.perm (zl3 (G := G) (ou := ou) (x := x) (u := u) (mo := mo) (q := q) (fo := f2) (C := C1) (R := R4))).appR
  refine kz_i (w2 := fun _ => lW G ou x u mo q f2 C1 R6) (va_runV (As := []) (rest := []) F.1 (e_thrown l G mo q R4 R6 r7 hg _) (cwV 0 hts (aw_V w_992 w_993 w_994 w_6 w_995) rfl rfl rfl (by decide +kernel) ⟨by decide, by decide⟩) ⟨cS_blind, va_recv (q := (RX6, TX6, 48)) (ci := 6) (q0 := 0) hK.1 hPc rfl rfl, cS_pre hPc hDc hK⟩ rfl rfl hl.1 rfl (lv_room (Nat.le_of_ble_eq_true rfl)) dL_law_452 ⟨by show _ ≤ 601024; omega, by show _ ≤ 7293034; omega⟩) hP hD hS hA (zl3 (G := G) (ou := ou) (x := x) (u := u) (mo := mo) (q := q) (fo := f2) (C := C1) (R := R4)) (fun _ => zl3b) (fun r9 u0 H locs hp hP hD hS => ?_)
  have hp := hp.symm; subst hp
  refine lv_iload hx hb dL_law_455 (lv_at hl 1 rfl) ?_
  refine lv_icmp_eq (tgt := 462) hx hb dL_law_457 (by decide) (fun h8 => ?_) (fun h8 => ?_)
  ·
    rw [if_pos h8] at hE
    refine lv_iload hx hb dL_law_462 (lv_at hl 1 rfl) ?_
    refine lv_if_ne (tgt := 479) hx hb dL_law_464 (by decide) (fun h9 => ?_) (fun h9 => ?_)
    ·
      rw [if_neg h9] at hE
      refine lv_goto (tgt := 719) hx hb dL_law_479 (by decide) ?_
      obtain ⟨rfl, rfl, rfl⟩ := hE
      refine W.widen (k := cells + 2) (n := slots + 16) (by omega) (by omega) ?_
      exact kk _ _ _ (lv_sub hl [2, 3, 4, 5, 6] rfl) hP hD hS
    ·
      rw [if_pos h9] at hE
      refine lv_aload_n hx hb dL_law_467 rfl (lv_at hl 3 rfl) ?_
      refine lv_iconst (v := 0) hx hb dL_law_468 (by decide) ?_
      refine va_lald (D := G.1) hx hb hK.1 hP 0 1 rfl rfl (vp_in_nI (n := 0) (by decide) (by decide)) dL_law_469 ?_
      refine tp_l (f2 0) rfl ?_
      refine lv_iload hx hb dL_law_470 (lv_at hl 0 rfl) ?_
      refine lv_i2l (v := r5.toInt64) hx hb dL_law_472 rfl ?_
      refine W.lcmp hx hb dL_law_473 ?_
      refine lv_if_eq (tgt := 479) hx hb dL_law_474 (by decide) (fun h10 => ?_) (fun h10 => ?_)
      ·
        rw [if_pos h10] at hE
        refine lv_goto (tgt := 719) hx hb dL_law_479 (by decide) ?_
        obtain ⟨rfl, rfl, rfl⟩ := hE
        refine W.widen (k := cells + 2) (n := slots + 16) (by omega) (by omega) ?_
        exact kk _ _ _ (lv_sub hl [2, 3, 4, 5, 6] rfl) hP hD hS
      ·
        rw [if_neg h10] at hE
        refine lv_iconst (v := 0) hx hb dL_law_477 (by decide) ?_
        exact hE.elim
  ·
    rw [if_neg h8] at hE
    refine lv_iconst (v := 0) hx hb dL_law_460 (by decide) ?_
    exact hE.elim

def K_replace (C : CS) (R : RS) (fo : Nat → Int64) (a1 a2 : Int32) (C' : CS) (R' : RS) (fo' : Nat → Int64) : Prop := ∃ (C1 : CS) (f2 : Nat → Int64) (k3 : Int32), E_l_replace C fo C1 f2 k3 ∧ (∃ (R4 : RS) (r5 : Int32), E_replace R R4 r5 ∧ (∃ (R6 : RS) (r7 : Int32), E_thrown R4 R6 r7 ∧ (if r7 = k3 then (if k3 = 0 then (if (lg_cmp (f2 0) r5.toInt64) = 0 then (C' = C1 ∧ R' = R6 ∧ fo' = f2) else (False)) else (C' = C1 ∧ R' = R6 ∧ fo' = f2)) else (False))))
set_option maxHeartbeats 4000000 in
set_option maxRecDepth 100000 in
theorem k_replace {p : Program} {l : Launch} {e : Env} {s : State} {m : MethodId} {below : List Frame} {meth : Method} {c : Code} {G : PG} {Z : ZZ} {b L : Nat} {xs : Nat → Int32} {A : Nat → Prop} (hst : l.stackTraces = false) (F : CallFix p m c cL_law 7 s #[Value.ref b] aW RL ∧ True) (hX : va_X b L xs s s.heap) (hbl : b < s.heap.size) (hK : pg_K G s) (hT : pg_T s) (hZ : zF Z A s s.heap) (hA : ∀ q, s.heap.size ≤ q → A q) (hAo : ∀ q, q < s.heap.size → ¬ A q) (hL : L ≤ 1536) {i : Nat} (hi : i + 3 ≤ L) (x mo ou : Nat) (u q : Nat → Nat) {a1 a2 : Int32} (ha1 : xs (i + 1) = a1) (ha2 : xs (i + 2) = a2) (C : CS) (R : RS) (fo : Nat → Int64) (C' : CS) (R' : RS) (fo' : Nat → Int64) (hE : K_replace C R fo a1 a2 C' R' fo') {H : Heap} {locs : List Loc} {ls : Array Slot} {cells slots : Nat} (hcs : cells + 2 ≤ 601024) (hss : slots + 16 ≤ 7293034) (hl : lv_has ls 7 [(4, .int (nI i)), (3, .ref ou), (2, .ref mo), (1, .ref x), (0, .ref b)]) (hP : va_P G.1 vwCl (lW G ou x u mo q fo C R) H) (hD : va_D A (lW G ou x u mo q fo C R)) (hS : va_S A s.heap H locs) {Q : State → Prop} (kk : ∀ (H : Heap) (locs : List Loc) (ls : Array Slot), lv_has ls 7 [(4, .int (nI i)), (3, .ref ou), (2, .ref mo), (1, .ref x), (0, .ref b)] → va_P G.1 vwCl (lW G ou x u mo q fo' C' R') H → va_D A (lW G ou x u mo q fo' C' R') → va_S A s.heap H locs → W p l e room_1 s m #[Value.ref b] below meth c H locs (cells + 2) (slots + 16) Q (F0 m 719 ls [])) : W p l e room_1 s m #[Value.ref b] below meth c H locs cells slots Q (F0 m 482 ls []) := by
  have hx := F.1.1; have hb := F.1.2.1; have hml := F.1.2.2.1; have hts := F.1.2.2.2.2
  have hown : s.vm.findClass RL = some m.cls := F.1.2.2.2.1
  have hbA : ¬ A b := hAo b hbl
  have hns : ∀ q, A q → ∀ cell, s.heap[q]? = some cell → cell.vm.isStatics = false := fun q h cell hc => absurd h (hAo q (Array.getElem?_eq_some_iff.mp hc).1)
  unfold K_replace at hE
  refine lv_aload_n hx hb dL_law_482 rfl (lv_at hl 3 rfl) ?_
  refine lv_aload_n hx hb dL_law_483 rfl (lv_at hl 1 rfl) ?_
  obtain ⟨C1, f2, k3, hg, hE⟩ := hE
  have hPc := (hP.perm (zl2 (G := G) (ou := ou) (x := x) (u := u) (mo := mo) (q := q) (fo := fo) (C := C) (R := R))).appR; have hDc := (hD.perm (zl2 (G := G) (ou := ou) (x := x) (u := u) (mo := mo) (q := q) (fo := fo) (C := C) (R := R))).appR
  refine kz_i (w2 := fun _ => lW G ou x u mo q f2 C1 R) (kw_S (n := 2) (As := [.ref x, .ref ou]) (rest := []) F.1 (l_replace_y l hst G Z x u ou C fo C1 f2 k3 hg _) w_786 w_784 w_785 w_0 rfl rfl (by decide +kernel) ⟨by decide, by decide⟩ ⟨tS_blind, tS_pre hPc hDc hK hT hZ hS (kz_F (hD.perm (zl2 (G := G) (ou := ou) (x := x) (u := u) (mo := mo) (q := q) (fo := fo) (C := C) (R := R))) hS hA) hns⟩ rfl rfl hl.1 rfl (lv_room (Nat.le_of_ble_eq_true rfl)) dL_law_484 ⟨by show _ ≤ 601024; omega, by show _ ≤ 7293034; omega⟩) hP hD hS hA (zl2 (G := G) (ou := ou) (x := x) (u := u) (mo := mo) (q := q) (fo := fo) (C := C) (R := R)) (fun _ => zl2b) (fun r9 u0 H locs hp hP hD hS => ?_)
  have hp := hp.symm; subst hp
  refine lv_istore hx hb dL_law_487 hl (by decide) rfl (fun ls hl => ?_)
  have hl : lv_has ls 7 [(5, .int k3), (4, .int (nI i)), (3, .ref ou), (2, .ref mo), (1, .ref x), (0, .ref b)] := hl
  refine lv_aload_n hx hb dL_law_489 rfl (lv_at hl 3 rfl) ?_
  obtain ⟨R4, r5, hg, hE⟩ := hE
  have hPc := (hP.perm (zl3 (G := G) (ou := ou) (x := x) (u := u) (mo := mo) (q := q) (fo := f2) (C := C1) (R := R))).appR; have hDc := (hD.perm (zl3 (G := G) (ou := ou) (x := x) (u := u) (mo := mo) (q := q) (fo := f2) (C := C1) (R := R))).appR
  refine kz_i (w2 := fun _ => lW G ou x u mo q f2 C1 R4) (va_runV (As := []) (rest := []) F.1 (e_replace l G mo q R R4 r5 hg _) (cwV 0 hts (aw_V w_1216 w_1217 w_1218 w_6 w_1219) rfl rfl rfl (by decide +kernel) ⟨by decide, by decide⟩) ⟨cS_blind, va_recv (q := (RX6, TX6, 48)) (ci := 6) (q0 := 0) hK.1 hPc rfl rfl, cS_pre hPc hDc hK⟩ rfl rfl hl.1 rfl (lv_room (Nat.le_of_ble_eq_true rfl)) dL_law_490 ⟨by show _ ≤ 601024; omega, by show _ ≤ 7293034; omega⟩) hP hD hS hA (zl3 (G := G) (ou := ou) (x := x) (u := u) (mo := mo) (q := q) (fo := f2) (C := C1) (R := R)) (fun _ => zl3b) (fun r9 u0 H locs hp hP hD hS => ?_)
  have hp := hp.symm; subst hp
  refine lv_istore hx hb dL_law_493 hl (by decide) rfl (fun ls hl => ?_)
  have hl : lv_has ls 7 [(6, .int r5), (5, .int k3), (4, .int (nI i)), (3, .ref ou), (2, .ref mo), (1, .ref x), (0, .ref b)] := hl
  refine lv_aload_n hx hb dL_law_495 rfl (lv_at hl 4 rfl) ?_
  obtain ⟨R6, r7, hg, hE⟩ := hE
  have hPc := (hP.perm (zl3 (G := G) (ou := ou) (x := x) (u := u) (mo := mo) (q := q) (fo := f2) (C := C1) (R := R4))).appR; have hDc := (hD.perm (zl3 (G := G) (ou := ou) (x := x) (u := u) (mo := mo) (q := q) (fo := f2) (C := C1) (R := R4))).appR
  refine kz_i (w2 := fun _ => lW G ou x u mo q f2 C1 R6) (va_runV (As := []) (rest := []) F.1 (e_thrown l G mo q R4 R6 r7 hg _) (cwV 0 hts (aw_V w_992 w_993 w_994 w_6 w_995) rfl rfl rfl (by decide +kernel) ⟨by decide, by decide⟩) ⟨cS_blind, va_recv (q := (RX6, TX6, 48)) (ci := 6) (q0 := 0) hK.1 hPc rfl rfl, cS_pre hPc hDc hK⟩ rfl rfl hl.1 rfl (lv_room (Nat.le_of_ble_eq_true rfl)) dL_law_496 ⟨by show _ ≤ 601024; omega, by show _ ≤ 7293034; omega⟩) hP hD hS hA (zl3 (G := G) (ou := ou) (x := x) (u := u) (mo := mo) (q := q) (fo := f2) (C := C1) (R := R4)) (fun _ => zl3b) (fun r9 u0 H locs hp hP hD hS => ?_)
  have hp := hp.symm; subst hp
  refine lv_iload hx hb dL_law_499 (lv_at hl 1 rfl) ?_
  refine lv_icmp_eq (tgt := 506) hx hb dL_law_501 (by decide) (fun h8 => ?_) (fun h8 => ?_)
  ·
    rw [if_pos h8] at hE
    refine lv_iload hx hb dL_law_506 (lv_at hl 1 rfl) ?_
    refine lv_if_ne (tgt := 523) hx hb dL_law_508 (by decide) (fun h9 => ?_) (fun h9 => ?_)
    ·
      rw [if_neg h9] at hE
      refine lv_goto (tgt := 719) hx hb dL_law_523 (by decide) ?_
      obtain ⟨rfl, rfl, rfl⟩ := hE
      refine W.widen (k := cells + 2) (n := slots + 16) (by omega) (by omega) ?_
      exact kk _ _ _ (lv_sub hl [2, 3, 4, 5, 6] rfl) hP hD hS
    ·
      rw [if_pos h9] at hE
      refine lv_aload_n hx hb dL_law_511 rfl (lv_at hl 3 rfl) ?_
      refine lv_iconst (v := 0) hx hb dL_law_512 (by decide) ?_
      refine va_lald (D := G.1) hx hb hK.1 hP 0 1 rfl rfl (vp_in_nI (n := 0) (by decide) (by decide)) dL_law_513 ?_
      refine tp_l (f2 0) rfl ?_
      refine lv_iload hx hb dL_law_514 (lv_at hl 0 rfl) ?_
      refine lv_i2l (v := r5.toInt64) hx hb dL_law_516 rfl ?_
      refine W.lcmp hx hb dL_law_517 ?_
      refine lv_if_eq (tgt := 523) hx hb dL_law_518 (by decide) (fun h10 => ?_) (fun h10 => ?_)
      ·
        rw [if_pos h10] at hE
        refine lv_goto (tgt := 719) hx hb dL_law_523 (by decide) ?_
        obtain ⟨rfl, rfl, rfl⟩ := hE
        refine W.widen (k := cells + 2) (n := slots + 16) (by omega) (by omega) ?_
        exact kk _ _ _ (lv_sub hl [2, 3, 4, 5, 6] rfl) hP hD hS
      ·
        rw [if_neg h10] at hE
        refine lv_iconst (v := 0) hx hb dL_law_521 (by decide) ?_
        exact hE.elim
  ·
    rw [if_neg h8] at hE
    refine lv_iconst (v := 0) hx hb dL_law_504 (by decide) ?_
    exact hE.elim

def K_replaced (C : CS) (R : RS) (fo : Nat → Int64) (a1 a2 : Int32) (C' : CS) (R' : RS) (fo' : Nat → Int64) : Prop := ∃ (C1 : CS) (f2 : Nat → Int64) (k3 : Int32), E_l_replaced C fo a1 C1 f2 k3 ∧ (∃ (R4 : RS) (r5 : Int32), E_replaced R a1 R4 r5 ∧ (∃ (R6 : RS) (r7 : Int32), E_thrown R4 R6 r7 ∧ (if r7 = k3 then (if k3 = 0 then (if (lg_cmp (f2 0) r5.toInt64) = 0 then (C' = C1 ∧ R' = R6 ∧ fo' = f2) else (False)) else (C' = C1 ∧ R' = R6 ∧ fo' = f2)) else (False))))
set_option maxHeartbeats 4000000 in
set_option maxRecDepth 100000 in
theorem k_replaced {p : Program} {l : Launch} {e : Env} {s : State} {m : MethodId} {below : List Frame} {meth : Method} {c : Code} {G : PG} {Z : ZZ} {b L : Nat} {xs : Nat → Int32} {A : Nat → Prop} (hst : l.stackTraces = false) (F : CallFix p m c cL_law 7 s #[Value.ref b] aW RL ∧ True) (hX : va_X b L xs s s.heap) (hbl : b < s.heap.size) (hK : pg_K G s) (hT : pg_T s) (hZ : zF Z A s s.heap) (hA : ∀ q, s.heap.size ≤ q → A q) (hAo : ∀ q, q < s.heap.size → ¬ A q) (hL : L ≤ 1536) {i : Nat} (hi : i + 3 ≤ L) (x mo ou : Nat) (u q : Nat → Nat) {a1 a2 : Int32} (ha1 : xs (i + 1) = a1) (ha2 : xs (i + 2) = a2) (C : CS) (R : RS) (fo : Nat → Int64) (C' : CS) (R' : RS) (fo' : Nat → Int64) (hE : K_replaced C R fo a1 a2 C' R' fo') {H : Heap} {locs : List Loc} {ls : Array Slot} {cells slots : Nat} (hcs : cells + 2 ≤ 601024) (hss : slots + 16 ≤ 7293034) (hl : lv_has ls 7 [(4, .int (nI i)), (3, .ref ou), (2, .ref mo), (1, .ref x), (0, .ref b)]) (hP : va_P G.1 vwCl (lW G ou x u mo q fo C R) H) (hD : va_D A (lW G ou x u mo q fo C R)) (hS : va_S A s.heap H locs) {Q : State → Prop} (kk : ∀ (H : Heap) (locs : List Loc) (ls : Array Slot), lv_has ls 7 [(4, .int (nI i)), (3, .ref ou), (2, .ref mo), (1, .ref x), (0, .ref b)] → va_P G.1 vwCl (lW G ou x u mo q fo' C' R') H → va_D A (lW G ou x u mo q fo' C' R') → va_S A s.heap H locs → W p l e room_1 s m #[Value.ref b] below meth c H locs (cells + 2) (slots + 16) Q (F0 m 719 ls [])) : W p l e room_1 s m #[Value.ref b] below meth c H locs cells slots Q (F0 m 526 ls []) := by
  have hx := F.1.1; have hb := F.1.2.1; have hml := F.1.2.2.1; have hts := F.1.2.2.2.2
  have hown : s.vm.findClass RL = some m.cls := F.1.2.2.2.1
  have hbA : ¬ A b := hAo b hbl
  have hns : ∀ q, A q → ∀ cell, s.heap[q]? = some cell → cell.vm.isStatics = false := fun q h cell hc => absurd h (hAo q (Array.getElem?_eq_some_iff.mp hc).1)
  unfold K_replaced at hE
  refine lv_aload_n hx hb dL_law_526 rfl (lv_at hl 3 rfl) ?_
  refine lv_aload_n hx hb dL_law_527 rfl (lv_at hl 4 rfl) ?_
  refine lv_iload hx hb dL_law_528 (lv_at hl 0 rfl) ?_
  refine lv_iconst (v := 1) hx hb dL_law_530 (by decide) ?_
  refine lv_iadd hx hb dL_law_531 ?_
  refine tp_i (nI (i + 1)) nI_p1.symm ?_
  refine va_sld (A := A) hx hb hX hbl hbA hS (vp_in_nI (n := i + 1) (by omega) (by omega)) dL_law_532 ?_
  refine tp_i a1 (by rw [nI_clamp (by omega)]; exact ha1) ?_
  refine lv_aload_n hx hb dL_law_533 rfl (lv_at hl 1 rfl) ?_
  obtain ⟨C1, f2, k3, hg, hE⟩ := hE
  have hPc := (hP.perm (zl2 (G := G) (ou := ou) (x := x) (u := u) (mo := mo) (q := q) (fo := fo) (C := C) (R := R))).appR; have hDc := (hD.perm (zl2 (G := G) (ou := ou) (x := x) (u := u) (mo := mo) (q := q) (fo := fo) (C := C) (R := R))).appR
  refine kz_i (w2 := fun _ => lW G ou x u mo q f2 C1 R) (kw_S (n := 3) (As := [.ref x, .int a1, .ref ou]) (rest := []) F.1 (l_replaced_y l hst G Z x u ou C fo a1 C1 f2 k3 hg _) w_813 w_811 w_812 w_0 rfl rfl (by decide +kernel) ⟨by decide, by decide⟩ ⟨tS_blind, tS_pre hPc hDc hK hT hZ hS (kz_F (hD.perm (zl2 (G := G) (ou := ou) (x := x) (u := u) (mo := mo) (q := q) (fo := fo) (C := C) (R := R))) hS hA) hns⟩ rfl rfl hl.1 rfl (lv_room (Nat.le_of_ble_eq_true rfl)) dL_law_534 ⟨by show _ ≤ 601024; omega, by show _ ≤ 7293034; omega⟩) hP hD hS hA (zl2 (G := G) (ou := ou) (x := x) (u := u) (mo := mo) (q := q) (fo := fo) (C := C) (R := R)) (fun _ => zl2b) (fun r9 u0 H locs hp hP hD hS => ?_)
  have hp := hp.symm; subst hp
  refine lv_istore hx hb dL_law_537 hl (by decide) rfl (fun ls hl => ?_)
  have hl : lv_has ls 7 [(5, .int k3), (4, .int (nI i)), (3, .ref ou), (2, .ref mo), (1, .ref x), (0, .ref b)] := hl
  refine lv_aload_n hx hb dL_law_539 rfl (lv_at hl 3 rfl) ?_
  refine lv_aload_n hx hb dL_law_540 rfl (lv_at hl 5 rfl) ?_
  refine lv_iload hx hb dL_law_541 (lv_at hl 1 rfl) ?_
  refine lv_iconst (v := 1) hx hb dL_law_543 (by decide) ?_
  refine lv_iadd hx hb dL_law_544 ?_
  refine tp_i (nI (i + 1)) nI_p1.symm ?_
  refine va_sld (A := A) hx hb hX hbl hbA hS (vp_in_nI (n := i + 1) (by omega) (by omega)) dL_law_545 ?_
  refine tp_i a1 (by rw [nI_clamp (by omega)]; exact ha1) ?_
  obtain ⟨R4, r5, hg, hE⟩ := hE
  have hPc := (hP.perm (zl3 (G := G) (ou := ou) (x := x) (u := u) (mo := mo) (q := q) (fo := f2) (C := C1) (R := R))).appR; have hDc := (hD.perm (zl3 (G := G) (ou := ou) (x := x) (u := u) (mo := mo) (q := q) (fo := f2) (C := C1) (R := R))).appR
  refine kz_i (w2 := fun _ => lW G ou x u mo q f2 C1 R4) (va_runV (As := [.int a1]) (rest := []) F.1 (e_replaced l G mo q R a1 R4 r5 hg _) (cwV 1 hts (aw_V w_1240 w_1241 w_1242 w_6 w_1243) rfl rfl rfl (by decide +kernel) ⟨by decide, by decide⟩) ⟨cS_blind, va_recv (q := (RX6, TX6, 48)) (ci := 6) (q0 := 0) hK.1 hPc rfl rfl, cS_pre hPc hDc hK⟩ rfl rfl hl.1 rfl (lv_room (Nat.le_of_ble_eq_true rfl)) dL_law_546 ⟨by show _ ≤ 601024; omega, by show _ ≤ 7293034; omega⟩) hP hD hS hA (zl3 (G := G) (ou := ou) (x := x) (u := u) (mo := mo) (q := q) (fo := f2) (C := C1) (R := R)) (fun _ => zl3b) (fun r9 u0 H locs hp hP hD hS => ?_)
  have hp := hp.symm; subst hp
  refine lv_istore hx hb dL_law_549 hl (by decide) rfl (fun ls hl => ?_)
  have hl : lv_has ls 7 [(6, .int r5), (5, .int k3), (4, .int (nI i)), (3, .ref ou), (2, .ref mo), (1, .ref x), (0, .ref b)] := hl
  refine lv_aload_n hx hb dL_law_551 rfl (lv_at hl 4 rfl) ?_
  obtain ⟨R6, r7, hg, hE⟩ := hE
  have hPc := (hP.perm (zl3 (G := G) (ou := ou) (x := x) (u := u) (mo := mo) (q := q) (fo := f2) (C := C1) (R := R4))).appR; have hDc := (hD.perm (zl3 (G := G) (ou := ou) (x := x) (u := u) (mo := mo) (q := q) (fo := f2) (C := C1) (R := R4))).appR
  refine kz_i (w2 := fun _ => lW G ou x u mo q f2 C1 R6) (va_runV (As := []) (rest := []) F.1 (e_thrown l G mo q R4 R6 r7 hg _) (cwV 0 hts (aw_V w_992 w_993 w_994 w_6 w_995) rfl rfl rfl (by decide +kernel) ⟨by decide, by decide⟩) ⟨cS_blind, va_recv (q := (RX6, TX6, 48)) (ci := 6) (q0 := 0) hK.1 hPc rfl rfl, cS_pre hPc hDc hK⟩ rfl rfl hl.1 rfl (lv_room (Nat.le_of_ble_eq_true rfl)) dL_law_552 ⟨by show _ ≤ 601024; omega, by show _ ≤ 7293034; omega⟩) hP hD hS hA (zl3 (G := G) (ou := ou) (x := x) (u := u) (mo := mo) (q := q) (fo := f2) (C := C1) (R := R4)) (fun _ => zl3b) (fun r9 u0 H locs hp hP hD hS => ?_)
  have hp := hp.symm; subst hp
  refine lv_iload hx hb dL_law_555 (lv_at hl 1 rfl) ?_
  refine lv_icmp_eq (tgt := 562) hx hb dL_law_557 (by decide) (fun h8 => ?_) (fun h8 => ?_)
  ·
    rw [if_pos h8] at hE
    refine lv_iload hx hb dL_law_562 (lv_at hl 1 rfl) ?_
    refine lv_if_ne (tgt := 579) hx hb dL_law_564 (by decide) (fun h9 => ?_) (fun h9 => ?_)
    ·
      rw [if_neg h9] at hE
      refine lv_goto (tgt := 719) hx hb dL_law_579 (by decide) ?_
      obtain ⟨rfl, rfl, rfl⟩ := hE
      refine W.widen (k := cells + 2) (n := slots + 16) (by omega) (by omega) ?_
      exact kk _ _ _ (lv_sub hl [2, 3, 4, 5, 6] rfl) hP hD hS
    ·
      rw [if_pos h9] at hE
      refine lv_aload_n hx hb dL_law_567 rfl (lv_at hl 3 rfl) ?_
      refine lv_iconst (v := 0) hx hb dL_law_568 (by decide) ?_
      refine va_lald (D := G.1) hx hb hK.1 hP 0 1 rfl rfl (vp_in_nI (n := 0) (by decide) (by decide)) dL_law_569 ?_
      refine tp_l (f2 0) rfl ?_
      refine lv_iload hx hb dL_law_570 (lv_at hl 0 rfl) ?_
      refine lv_i2l (v := r5.toInt64) hx hb dL_law_572 rfl ?_
      refine W.lcmp hx hb dL_law_573 ?_
      refine lv_if_eq (tgt := 579) hx hb dL_law_574 (by decide) (fun h10 => ?_) (fun h10 => ?_)
      ·
        rw [if_pos h10] at hE
        refine lv_goto (tgt := 719) hx hb dL_law_579 (by decide) ?_
        obtain ⟨rfl, rfl, rfl⟩ := hE
        refine W.widen (k := cells + 2) (n := slots + 16) (by omega) (by omega) ?_
        exact kk _ _ _ (lv_sub hl [2, 3, 4, 5, 6] rfl) hP hD hS
      ·
        rw [if_neg h10] at hE
        refine lv_iconst (v := 0) hx hb dL_law_577 (by decide) ?_
        exact hE.elim
  ·
    rw [if_neg h8] at hE
    refine lv_iconst (v := 0) hx hb dL_law_560 (by decide) ?_
    exact hE.elim

def K_split (C : CS) (R : RS) (fo : Nat → Int64) (a1 a2 : Int32) (C' : CS) (R' : RS) (fo' : Nat → Int64) : Prop := ∃ (C1 : CS) (f2 : Nat → Int64) (k3 : Int32), E_l_split C fo C1 f2 k3 ∧ (∃ (R4 : RS) (r5 : Int32), E_split R R4 r5 ∧ (∃ (R6 : RS) (r7 : Int32), E_thrown R4 R6 r7 ∧ (if r7 = k3 then (if k3 = 0 then (if (lg_cmp (f2 0) r5.toInt64) = 0 then (C' = C1 ∧ R' = R6 ∧ fo' = f2) else (False)) else (C' = C1 ∧ R' = R6 ∧ fo' = f2)) else (False))))
set_option maxHeartbeats 4000000 in
set_option maxRecDepth 100000 in
theorem k_split {p : Program} {l : Launch} {e : Env} {s : State} {m : MethodId} {below : List Frame} {meth : Method} {c : Code} {G : PG} {Z : ZZ} {b L : Nat} {xs : Nat → Int32} {A : Nat → Prop} (hst : l.stackTraces = false) (F : CallFix p m c cL_law 7 s #[Value.ref b] aW RL ∧ True) (hX : va_X b L xs s s.heap) (hbl : b < s.heap.size) (hK : pg_K G s) (hT : pg_T s) (hZ : zF Z A s s.heap) (hA : ∀ q, s.heap.size ≤ q → A q) (hAo : ∀ q, q < s.heap.size → ¬ A q) (hL : L ≤ 1536) {i : Nat} (hi : i + 3 ≤ L) (x mo ou : Nat) (u q : Nat → Nat) {a1 a2 : Int32} (ha1 : xs (i + 1) = a1) (ha2 : xs (i + 2) = a2) (C : CS) (R : RS) (fo : Nat → Int64) (C' : CS) (R' : RS) (fo' : Nat → Int64) (hE : K_split C R fo a1 a2 C' R' fo') {H : Heap} {locs : List Loc} {ls : Array Slot} {cells slots : Nat} (hcs : cells + 2 ≤ 601024) (hss : slots + 16 ≤ 7293034) (hl : lv_has ls 7 [(4, .int (nI i)), (3, .ref ou), (2, .ref mo), (1, .ref x), (0, .ref b)]) (hP : va_P G.1 vwCl (lW G ou x u mo q fo C R) H) (hD : va_D A (lW G ou x u mo q fo C R)) (hS : va_S A s.heap H locs) {Q : State → Prop} (kk : ∀ (H : Heap) (locs : List Loc) (ls : Array Slot), lv_has ls 7 [(4, .int (nI i)), (3, .ref ou), (2, .ref mo), (1, .ref x), (0, .ref b)] → va_P G.1 vwCl (lW G ou x u mo q fo' C' R') H → va_D A (lW G ou x u mo q fo' C' R') → va_S A s.heap H locs → W p l e room_1 s m #[Value.ref b] below meth c H locs (cells + 2) (slots + 16) Q (F0 m 719 ls [])) : W p l e room_1 s m #[Value.ref b] below meth c H locs cells slots Q (F0 m 582 ls []) := by
  have hx := F.1.1; have hb := F.1.2.1; have hml := F.1.2.2.1; have hts := F.1.2.2.2.2
  have hown : s.vm.findClass RL = some m.cls := F.1.2.2.2.1
  have hbA : ¬ A b := hAo b hbl
  have hns : ∀ q, A q → ∀ cell, s.heap[q]? = some cell → cell.vm.isStatics = false := fun q h cell hc => absurd h (hAo q (Array.getElem?_eq_some_iff.mp hc).1)
  unfold K_split at hE
  refine lv_aload_n hx hb dL_law_582 rfl (lv_at hl 3 rfl) ?_
  refine lv_aload_n hx hb dL_law_583 rfl (lv_at hl 1 rfl) ?_
  obtain ⟨C1, f2, k3, hg, hE⟩ := hE
  have hPc := (hP.perm (zl2 (G := G) (ou := ou) (x := x) (u := u) (mo := mo) (q := q) (fo := fo) (C := C) (R := R))).appR; have hDc := (hD.perm (zl2 (G := G) (ou := ou) (x := x) (u := u) (mo := mo) (q := q) (fo := fo) (C := C) (R := R))).appR
  refine kz_i (w2 := fun _ => lW G ou x u mo q f2 C1 R) (kw_S (n := 2) (As := [.ref x, .ref ou]) (rest := []) F.1 (l_split_y l hst G Z x u ou C fo C1 f2 k3 hg _) w_820 w_818 w_819 w_0 rfl rfl (by decide +kernel) ⟨by decide, by decide⟩ ⟨tS_blind, tS_pre hPc hDc hK hT hZ hS (kz_F (hD.perm (zl2 (G := G) (ou := ou) (x := x) (u := u) (mo := mo) (q := q) (fo := fo) (C := C) (R := R))) hS hA) hns⟩ rfl rfl hl.1 rfl (lv_room (Nat.le_of_ble_eq_true rfl)) dL_law_584 ⟨by show _ ≤ 601024; omega, by show _ ≤ 7293034; omega⟩) hP hD hS hA (zl2 (G := G) (ou := ou) (x := x) (u := u) (mo := mo) (q := q) (fo := fo) (C := C) (R := R)) (fun _ => zl2b) (fun r9 u0 H locs hp hP hD hS => ?_)
  have hp := hp.symm; subst hp
  refine lv_istore hx hb dL_law_587 hl (by decide) rfl (fun ls hl => ?_)
  have hl : lv_has ls 7 [(5, .int k3), (4, .int (nI i)), (3, .ref ou), (2, .ref mo), (1, .ref x), (0, .ref b)] := hl
  refine lv_aload_n hx hb dL_law_589 rfl (lv_at hl 3 rfl) ?_
  obtain ⟨R4, r5, hg, hE⟩ := hE
  have hPc := (hP.perm (zl3 (G := G) (ou := ou) (x := x) (u := u) (mo := mo) (q := q) (fo := f2) (C := C1) (R := R))).appR; have hDc := (hD.perm (zl3 (G := G) (ou := ou) (x := x) (u := u) (mo := mo) (q := q) (fo := f2) (C := C1) (R := R))).appR
  refine kz_i (w2 := fun _ => lW G ou x u mo q f2 C1 R4) (va_runV (As := []) (rest := []) F.1 (e_split l G mo q R R4 r5 hg _) (cwV 0 hts (aw_V w_1244 w_1245 w_1246 w_6 w_1247) rfl rfl rfl (by decide +kernel) ⟨by decide, by decide⟩) ⟨cS_blind, va_recv (q := (RX6, TX6, 48)) (ci := 6) (q0 := 0) hK.1 hPc rfl rfl, cS_pre hPc hDc hK⟩ rfl rfl hl.1 rfl (lv_room (Nat.le_of_ble_eq_true rfl)) dL_law_590 ⟨by show _ ≤ 601024; omega, by show _ ≤ 7293034; omega⟩) hP hD hS hA (zl3 (G := G) (ou := ou) (x := x) (u := u) (mo := mo) (q := q) (fo := f2) (C := C1) (R := R)) (fun _ => zl3b) (fun r9 u0 H locs hp hP hD hS => ?_)
  have hp := hp.symm; subst hp
  refine lv_istore hx hb dL_law_593 hl (by decide) rfl (fun ls hl => ?_)
  have hl : lv_has ls 7 [(6, .int r5), (5, .int k3), (4, .int (nI i)), (3, .ref ou), (2, .ref mo), (1, .ref x), (0, .ref b)] := hl
  refine lv_aload_n hx hb dL_law_595 rfl (lv_at hl 4 rfl) ?_
  obtain ⟨R6, r7, hg, hE⟩ := hE
  have hPc := (hP.perm (zl3 (G := G) (ou := ou) (x := x) (u := u) (mo := mo) (q := q) (fo := f2) (C := C1) (R := R4))).appR; have hDc := (hD.perm (zl3 (G := G) (ou := ou) (x := x) (u := u) (mo := mo) (q := q) (fo := f2) (C := C1) (R := R4))).appR
  refine kz_i (w2 := fun _ => lW G ou x u mo q f2 C1 R6) (va_runV (As := []) (rest := []) F.1 (e_thrown l G mo q R4 R6 r7 hg _) (cwV 0 hts (aw_V w_992 w_993 w_994 w_6 w_995) rfl rfl rfl (by decide +kernel) ⟨by decide, by decide⟩) ⟨cS_blind, va_recv (q := (RX6, TX6, 48)) (ci := 6) (q0 := 0) hK.1 hPc rfl rfl, cS_pre hPc hDc hK⟩ rfl rfl hl.1 rfl (lv_room (Nat.le_of_ble_eq_true rfl)) dL_law_596 ⟨by show _ ≤ 601024; omega, by show _ ≤ 7293034; omega⟩) hP hD hS hA (zl3 (G := G) (ou := ou) (x := x) (u := u) (mo := mo) (q := q) (fo := f2) (C := C1) (R := R4)) (fun _ => zl3b) (fun r9 u0 H locs hp hP hD hS => ?_)
  have hp := hp.symm; subst hp
  refine lv_iload hx hb dL_law_599 (lv_at hl 1 rfl) ?_
  refine lv_icmp_eq (tgt := 606) hx hb dL_law_601 (by decide) (fun h8 => ?_) (fun h8 => ?_)
  ·
    rw [if_pos h8] at hE
    refine lv_iload hx hb dL_law_606 (lv_at hl 1 rfl) ?_
    refine lv_if_ne (tgt := 623) hx hb dL_law_608 (by decide) (fun h9 => ?_) (fun h9 => ?_)
    ·
      rw [if_neg h9] at hE
      refine lv_goto (tgt := 719) hx hb dL_law_623 (by decide) ?_
      obtain ⟨rfl, rfl, rfl⟩ := hE
      refine W.widen (k := cells + 2) (n := slots + 16) (by omega) (by omega) ?_
      exact kk _ _ _ (lv_sub hl [2, 3, 4, 5, 6] rfl) hP hD hS
    ·
      rw [if_pos h9] at hE
      refine lv_aload_n hx hb dL_law_611 rfl (lv_at hl 3 rfl) ?_
      refine lv_iconst (v := 0) hx hb dL_law_612 (by decide) ?_
      refine va_lald (D := G.1) hx hb hK.1 hP 0 1 rfl rfl (vp_in_nI (n := 0) (by decide) (by decide)) dL_law_613 ?_
      refine tp_l (f2 0) rfl ?_
      refine lv_iload hx hb dL_law_614 (lv_at hl 0 rfl) ?_
      refine lv_i2l (v := r5.toInt64) hx hb dL_law_616 rfl ?_
      refine W.lcmp hx hb dL_law_617 ?_
      refine lv_if_eq (tgt := 623) hx hb dL_law_618 (by decide) (fun h10 => ?_) (fun h10 => ?_)
      ·
        rw [if_pos h10] at hE
        refine lv_goto (tgt := 719) hx hb dL_law_623 (by decide) ?_
        obtain ⟨rfl, rfl, rfl⟩ := hE
        refine W.widen (k := cells + 2) (n := slots + 16) (by omega) (by omega) ?_
        exact kk _ _ _ (lv_sub hl [2, 3, 4, 5, 6] rfl) hP hD hS
      ·
        rw [if_neg h10] at hE
        refine lv_iconst (v := 0) hx hb dL_law_621 (by decide) ?_
        exact hE.elim
  ·
    rw [if_neg h8] at hE
    refine lv_iconst (v := 0) hx hb dL_law_604 (by decide) ?_
    exact hE.elim

def K_piece (C : CS) (R : RS) (fo : Nat → Int64) (a1 a2 : Int32) (C' : CS) (R' : RS) (fo' : Nat → Int64) : Prop := ∃ (C1 : CS) (f2 : Nat → Int64) (k3 : Int32), E_l_piece C fo a1 a2 C1 f2 k3 ∧ (∃ (R4 : RS) (r5 : Int32), E_piece R a1 a2 R4 r5 ∧ (∃ (R6 : RS) (r7 : Int32), E_thrown R4 R6 r7 ∧ (if r7 = k3 then (if k3 = 0 then (if (lg_cmp (f2 0) r5.toInt64) = 0 then (C' = C1 ∧ R' = R6 ∧ fo' = f2) else (False)) else (C' = C1 ∧ R' = R6 ∧ fo' = f2)) else (False))))
set_option maxHeartbeats 4000000 in
set_option maxRecDepth 100000 in
theorem k_piece {p : Program} {l : Launch} {e : Env} {s : State} {m : MethodId} {below : List Frame} {meth : Method} {c : Code} {G : PG} {Z : ZZ} {b L : Nat} {xs : Nat → Int32} {A : Nat → Prop} (hst : l.stackTraces = false) (F : CallFix p m c cL_law 7 s #[Value.ref b] aW RL ∧ True) (hX : va_X b L xs s s.heap) (hbl : b < s.heap.size) (hK : pg_K G s) (hT : pg_T s) (hZ : zF Z A s s.heap) (hA : ∀ q, s.heap.size ≤ q → A q) (hAo : ∀ q, q < s.heap.size → ¬ A q) (hL : L ≤ 1536) {i : Nat} (hi : i + 3 ≤ L) (x mo ou : Nat) (u q : Nat → Nat) {a1 a2 : Int32} (ha1 : xs (i + 1) = a1) (ha2 : xs (i + 2) = a2) (C : CS) (R : RS) (fo : Nat → Int64) (C' : CS) (R' : RS) (fo' : Nat → Int64) (hE : K_piece C R fo a1 a2 C' R' fo') {H : Heap} {locs : List Loc} {ls : Array Slot} {cells slots : Nat} (hcs : cells + 2 ≤ 601024) (hss : slots + 16 ≤ 7293034) (hl : lv_has ls 7 [(4, .int (nI i)), (3, .ref ou), (2, .ref mo), (1, .ref x), (0, .ref b)]) (hP : va_P G.1 vwCl (lW G ou x u mo q fo C R) H) (hD : va_D A (lW G ou x u mo q fo C R)) (hS : va_S A s.heap H locs) {Q : State → Prop} (kk : ∀ (H : Heap) (locs : List Loc) (ls : Array Slot), lv_has ls 7 [(4, .int (nI i)), (3, .ref ou), (2, .ref mo), (1, .ref x), (0, .ref b)] → va_P G.1 vwCl (lW G ou x u mo q fo' C' R') H → va_D A (lW G ou x u mo q fo' C' R') → va_S A s.heap H locs → W p l e room_1 s m #[Value.ref b] below meth c H locs (cells + 2) (slots + 16) Q (F0 m 719 ls [])) : W p l e room_1 s m #[Value.ref b] below meth c H locs cells slots Q (F0 m 626 ls []) := by
  have hx := F.1.1; have hb := F.1.2.1; have hml := F.1.2.2.1; have hts := F.1.2.2.2.2
  have hown : s.vm.findClass RL = some m.cls := F.1.2.2.2.1
  have hbA : ¬ A b := hAo b hbl
  have hns : ∀ q, A q → ∀ cell, s.heap[q]? = some cell → cell.vm.isStatics = false := fun q h cell hc => absurd h (hAo q (Array.getElem?_eq_some_iff.mp hc).1)
  unfold K_piece at hE
  refine lv_aload_n hx hb dL_law_626 rfl (lv_at hl 3 rfl) ?_
  refine lv_aload_n hx hb dL_law_627 rfl (lv_at hl 4 rfl) ?_
  refine lv_iload hx hb dL_law_628 (lv_at hl 0 rfl) ?_
  refine lv_iconst (v := 1) hx hb dL_law_630 (by decide) ?_
  refine lv_iadd hx hb dL_law_631 ?_
  refine tp_i (nI (i + 1)) nI_p1.symm ?_
  refine va_sld (A := A) hx hb hX hbl hbA hS (vp_in_nI (n := i + 1) (by omega) (by omega)) dL_law_632 ?_
  refine tp_i a1 (by rw [nI_clamp (by omega)]; exact ha1) ?_
  refine lv_aload_n hx hb dL_law_633 rfl (lv_at hl 4 rfl) ?_
  refine lv_iload hx hb dL_law_634 (lv_at hl 0 rfl) ?_
  refine lv_iconst (v := 2) hx hb dL_law_636 (by decide) ?_
  refine lv_iadd hx hb dL_law_637 ?_
  refine tp_i (nI (i + 2)) nI_p2.symm ?_
  refine va_sld (A := A) hx hb hX hbl hbA hS (vp_in_nI (n := i + 2) (by omega) (by omega)) dL_law_638 ?_
  refine tp_i a2 (by rw [nI_clamp (by omega)]; exact ha2) ?_
  refine lv_aload_n hx hb dL_law_639 rfl (lv_at hl 1 rfl) ?_
  obtain ⟨C1, f2, k3, hg, hE⟩ := hE
  have hPc := (hP.perm (zl2 (G := G) (ou := ou) (x := x) (u := u) (mo := mo) (q := q) (fo := fo) (C := C) (R := R))).appR; have hDc := (hD.perm (zl2 (G := G) (ou := ou) (x := x) (u := u) (mo := mo) (q := q) (fo := fo) (C := C) (R := R))).appR
  refine kz_i (w2 := fun _ => lW G ou x u mo q f2 C1 R) (kw_S (n := 4) (As := [.ref x, .int a1, .int a2, .ref ou]) (rest := []) F.1 (l_piece_y l hst G Z x u ou C fo a1 a2 C1 f2 k3 hg _) w_835 w_833 w_834 w_0 rfl rfl (by decide +kernel) ⟨by decide, by decide⟩ ⟨tS_blind, tS_pre hPc hDc hK hT hZ hS (kz_F (hD.perm (zl2 (G := G) (ou := ou) (x := x) (u := u) (mo := mo) (q := q) (fo := fo) (C := C) (R := R))) hS hA) hns⟩ rfl rfl hl.1 rfl (lv_room (Nat.le_of_ble_eq_true rfl)) dL_law_640 ⟨by show _ ≤ 601024; omega, by show _ ≤ 7293034; omega⟩) hP hD hS hA (zl2 (G := G) (ou := ou) (x := x) (u := u) (mo := mo) (q := q) (fo := fo) (C := C) (R := R)) (fun _ => zl2b) (fun r9 u0 H locs hp hP hD hS => ?_)
  have hp := hp.symm; subst hp
  refine lv_istore hx hb dL_law_643 hl (by decide) rfl (fun ls hl => ?_)
  have hl : lv_has ls 7 [(5, .int k3), (4, .int (nI i)), (3, .ref ou), (2, .ref mo), (1, .ref x), (0, .ref b)] := hl
  refine lv_aload_n hx hb dL_law_645 rfl (lv_at hl 3 rfl) ?_
  refine lv_aload_n hx hb dL_law_646 rfl (lv_at hl 5 rfl) ?_
  refine lv_iload hx hb dL_law_647 (lv_at hl 1 rfl) ?_
  refine lv_iconst (v := 1) hx hb dL_law_649 (by decide) ?_
  refine lv_iadd hx hb dL_law_650 ?_
  refine tp_i (nI (i + 1)) nI_p1.symm ?_
  refine va_sld (A := A) hx hb hX hbl hbA hS (vp_in_nI (n := i + 1) (by omega) (by omega)) dL_law_651 ?_
  refine tp_i a1 (by rw [nI_clamp (by omega)]; exact ha1) ?_
  refine lv_aload_n hx hb dL_law_652 rfl (lv_at hl 5 rfl) ?_
  refine lv_iload hx hb dL_law_653 (lv_at hl 1 rfl) ?_
  refine lv_iconst (v := 2) hx hb dL_law_655 (by decide) ?_
  refine lv_iadd hx hb dL_law_656 ?_
  refine tp_i (nI (i + 2)) nI_p2.symm ?_
  refine va_sld (A := A) hx hb hX hbl hbA hS (vp_in_nI (n := i + 2) (by omega) (by omega)) dL_law_657 ?_
  refine tp_i a2 (by rw [nI_clamp (by omega)]; exact ha2) ?_
  obtain ⟨R4, r5, hg, hE⟩ := hE
  have hPc := (hP.perm (zl3 (G := G) (ou := ou) (x := x) (u := u) (mo := mo) (q := q) (fo := f2) (C := C1) (R := R))).appR; have hDc := (hD.perm (zl3 (G := G) (ou := ou) (x := x) (u := u) (mo := mo) (q := q) (fo := f2) (C := C1) (R := R))).appR
  refine kz_i (w2 := fun _ => lW G ou x u mo q f2 C1 R4) (va_runV (As := [.int a1, .int a2]) (rest := []) F.1 (e_piece l G mo q R a1 a2 R4 r5 hg _) (cwV 2 hts (aw_V w_1248 w_1249 w_1250 w_6 w_1251) rfl rfl rfl (by decide +kernel) ⟨by decide, by decide⟩) ⟨cS_blind, va_recv (q := (RX6, TX6, 48)) (ci := 6) (q0 := 0) hK.1 hPc rfl rfl, cS_pre hPc hDc hK⟩ rfl rfl hl.1 rfl (lv_room (Nat.le_of_ble_eq_true rfl)) dL_law_658 ⟨by show _ ≤ 601024; omega, by show _ ≤ 7293034; omega⟩) hP hD hS hA (zl3 (G := G) (ou := ou) (x := x) (u := u) (mo := mo) (q := q) (fo := f2) (C := C1) (R := R)) (fun _ => zl3b) (fun r9 u0 H locs hp hP hD hS => ?_)
  have hp := hp.symm; subst hp
  refine lv_istore hx hb dL_law_661 hl (by decide) rfl (fun ls hl => ?_)
  have hl : lv_has ls 7 [(6, .int r5), (5, .int k3), (4, .int (nI i)), (3, .ref ou), (2, .ref mo), (1, .ref x), (0, .ref b)] := hl
  refine lv_aload_n hx hb dL_law_663 rfl (lv_at hl 4 rfl) ?_
  obtain ⟨R6, r7, hg, hE⟩ := hE
  have hPc := (hP.perm (zl3 (G := G) (ou := ou) (x := x) (u := u) (mo := mo) (q := q) (fo := f2) (C := C1) (R := R4))).appR; have hDc := (hD.perm (zl3 (G := G) (ou := ou) (x := x) (u := u) (mo := mo) (q := q) (fo := f2) (C := C1) (R := R4))).appR
  refine kz_i (w2 := fun _ => lW G ou x u mo q f2 C1 R6) (va_runV (As := []) (rest := []) F.1 (e_thrown l G mo q R4 R6 r7 hg _) (cwV 0 hts (aw_V w_992 w_993 w_994 w_6 w_995) rfl rfl rfl (by decide +kernel) ⟨by decide, by decide⟩) ⟨cS_blind, va_recv (q := (RX6, TX6, 48)) (ci := 6) (q0 := 0) hK.1 hPc rfl rfl, cS_pre hPc hDc hK⟩ rfl rfl hl.1 rfl (lv_room (Nat.le_of_ble_eq_true rfl)) dL_law_664 ⟨by show _ ≤ 601024; omega, by show _ ≤ 7293034; omega⟩) hP hD hS hA (zl3 (G := G) (ou := ou) (x := x) (u := u) (mo := mo) (q := q) (fo := f2) (C := C1) (R := R4)) (fun _ => zl3b) (fun r9 u0 H locs hp hP hD hS => ?_)
  have hp := hp.symm; subst hp
  refine lv_iload hx hb dL_law_667 (lv_at hl 1 rfl) ?_
  refine lv_icmp_eq (tgt := 674) hx hb dL_law_669 (by decide) (fun h8 => ?_) (fun h8 => ?_)
  ·
    rw [if_pos h8] at hE
    refine lv_iload hx hb dL_law_674 (lv_at hl 1 rfl) ?_
    refine lv_if_ne (tgt := 691) hx hb dL_law_676 (by decide) (fun h9 => ?_) (fun h9 => ?_)
    ·
      rw [if_neg h9] at hE
      refine lv_goto (tgt := 719) hx hb dL_law_691 (by decide) ?_
      obtain ⟨rfl, rfl, rfl⟩ := hE
      refine W.widen (k := cells + 2) (n := slots + 16) (by omega) (by omega) ?_
      exact kk _ _ _ (lv_sub hl [2, 3, 4, 5, 6] rfl) hP hD hS
    ·
      rw [if_pos h9] at hE
      refine lv_aload_n hx hb dL_law_679 rfl (lv_at hl 3 rfl) ?_
      refine lv_iconst (v := 0) hx hb dL_law_680 (by decide) ?_
      refine va_lald (D := G.1) hx hb hK.1 hP 0 1 rfl rfl (vp_in_nI (n := 0) (by decide) (by decide)) dL_law_681 ?_
      refine tp_l (f2 0) rfl ?_
      refine lv_iload hx hb dL_law_682 (lv_at hl 0 rfl) ?_
      refine lv_i2l (v := r5.toInt64) hx hb dL_law_684 rfl ?_
      refine W.lcmp hx hb dL_law_685 ?_
      refine lv_if_eq (tgt := 691) hx hb dL_law_686 (by decide) (fun h10 => ?_) (fun h10 => ?_)
      ·
        rw [if_pos h10] at hE
        refine lv_goto (tgt := 719) hx hb dL_law_691 (by decide) ?_
        obtain ⟨rfl, rfl, rfl⟩ := hE
        refine W.widen (k := cells + 2) (n := slots + 16) (by omega) (by omega) ?_
        exact kk _ _ _ (lv_sub hl [2, 3, 4, 5, 6] rfl) hP hD hS
      ·
        rw [if_neg h10] at hE
        refine lv_iconst (v := 0) hx hb dL_law_689 (by decide) ?_
        exact hE.elim
  ·
    rw [if_neg h8] at hE
    refine lv_iconst (v := 0) hx hb dL_law_672 (by decide) ?_
    exact hE.elim

def K_length (C : CS) (R : RS) (fo : Nat → Int64) (a1 a2 : Int32) (C' : CS) (R' : RS) (fo' : Nat → Int64) : Prop := ∃ (C1 : CS) (r2 : Int32), E_p_length C a1 C1 r2 ∧ (∃ (R3 : RS) (r4 : Int32), E_length R a1 R3 r4 ∧ (if r2 = r4 then (C' = C1 ∧ R' = R3 ∧ fo' = fo) else (False)))
set_option maxHeartbeats 4000000 in
set_option maxRecDepth 100000 in
theorem k_length {p : Program} {l : Launch} {e : Env} {s : State} {m : MethodId} {below : List Frame} {meth : Method} {c : Code} {G : PG} {Z : ZZ} {b L : Nat} {xs : Nat → Int32} {A : Nat → Prop} (hst : l.stackTraces = false) (F : CallFix p m c cL_law 7 s #[Value.ref b] aW RL ∧ True) (hX : va_X b L xs s s.heap) (hbl : b < s.heap.size) (hK : pg_K G s) (hT : pg_T s) (hZ : zF Z A s s.heap) (hA : ∀ q, s.heap.size ≤ q → A q) (hAo : ∀ q, q < s.heap.size → ¬ A q) (hL : L ≤ 1536) {i : Nat} (hi : i + 3 ≤ L) (x mo ou : Nat) (u q : Nat → Nat) {a1 a2 : Int32} (ha1 : xs (i + 1) = a1) (ha2 : xs (i + 2) = a2) (C : CS) (R : RS) (fo : Nat → Int64) (C' : CS) (R' : RS) (fo' : Nat → Int64) (hE : K_length C R fo a1 a2 C' R' fo') {H : Heap} {locs : List Loc} {ls : Array Slot} {cells slots : Nat} (hcs : cells + 2 ≤ 601024) (hss : slots + 16 ≤ 7293034) (hl : lv_has ls 7 [(4, .int (nI i)), (3, .ref ou), (2, .ref mo), (1, .ref x), (0, .ref b)]) (hP : va_P G.1 vwCl (lW G ou x u mo q fo C R) H) (hD : va_D A (lW G ou x u mo q fo C R)) (hS : va_S A s.heap H locs) {Q : State → Prop} (kk : ∀ (H : Heap) (locs : List Loc) (ls : Array Slot), lv_has ls 7 [(4, .int (nI i)), (3, .ref ou), (2, .ref mo), (1, .ref x), (0, .ref b)] → va_P G.1 vwCl (lW G ou x u mo q fo' C' R') H → va_D A (lW G ou x u mo q fo' C' R') → va_S A s.heap H locs → W p l e room_1 s m #[Value.ref b] below meth c H locs (cells + 2) (slots + 16) Q (F0 m 719 ls [])) : W p l e room_1 s m #[Value.ref b] below meth c H locs cells slots Q (F0 m 694 ls []) := by
  have hx := F.1.1; have hb := F.1.2.1; have hml := F.1.2.2.1; have hts := F.1.2.2.2.2
  have hown : s.vm.findClass RL = some m.cls := F.1.2.2.2.1
  have hbA : ¬ A b := hAo b hbl
  have hns : ∀ q, A q → ∀ cell, s.heap[q]? = some cell → cell.vm.isStatics = false := fun q h cell hc => absurd h (hAo q (Array.getElem?_eq_some_iff.mp hc).1)
  unfold K_length at hE
  refine lv_aload_n hx hb dL_law_694 rfl (lv_at hl 3 rfl) ?_
  refine lv_aload_n hx hb dL_law_695 rfl (lv_at hl 4 rfl) ?_
  refine lv_iload hx hb dL_law_696 (lv_at hl 0 rfl) ?_
  refine lv_iconst (v := 1) hx hb dL_law_698 (by decide) ?_
  refine lv_iadd hx hb dL_law_699 ?_
  refine tp_i (nI (i + 1)) nI_p1.symm ?_
  refine va_sld (A := A) hx hb hX hbl hbA hS (vp_in_nI (n := i + 1) (by omega) (by omega)) dL_law_700 ?_
  refine tp_i a1 (by rw [nI_clamp (by omega)]; exact ha1) ?_
  obtain ⟨C1, r2, hg, hE⟩ := hE
  have hPc := (hP.perm (zl1 (G := G) (ou := ou) (x := x) (u := u) (mo := mo) (q := q) (fo := fo) (C := C) (R := R))).appR; have hDc := (hD.perm (zl1 (G := G) (ou := ou) (x := x) (u := u) (mo := mo) (q := q) (fo := fo) (C := C) (R := R))).appR
  refine kz_i (w2 := fun _ => lW G ou x u mo q fo C1 R) (va_runV (As := [.int a1]) (rest := []) F.1 (e_p_length l G x u C a1 C1 r2 hg _) (cwV 1 hts (aw_V w_253 w_254 w_255 w_1 w_256) rfl rfl rfl (by decide +kernel) ⟨by decide, by decide⟩) ⟨cS_blind, va_recv (q := (RX5, TX5, 13)) (ci := 5) (q0 := 0) hK.1 hPc rfl pW_0, cS_pre hPc hDc hK⟩ rfl rfl hl.1 rfl (lv_room (Nat.le_of_ble_eq_true rfl)) dL_law_701 ⟨by show _ ≤ 601024; omega, by show _ ≤ 7293034; omega⟩) hP hD hS hA (zl1 (G := G) (ou := ou) (x := x) (u := u) (mo := mo) (q := q) (fo := fo) (C := C) (R := R)) (fun _ => zl1b) (fun r9 u0 H locs hp hP hD hS => ?_)
  have hp := hp.symm; subst hp
  refine lv_aload_n hx hb dL_law_704 rfl (lv_at hl 2 rfl) ?_
  refine lv_aload_n hx hb dL_law_705 rfl (lv_at hl 4 rfl) ?_
  refine lv_iload hx hb dL_law_706 (lv_at hl 0 rfl) ?_
  refine lv_iconst (v := 1) hx hb dL_law_708 (by decide) ?_
  refine lv_iadd hx hb dL_law_709 ?_
  refine tp_i (nI (i + 1)) nI_p1.symm ?_
  refine va_sld (A := A) hx hb hX hbl hbA hS (vp_in_nI (n := i + 1) (by omega) (by omega)) dL_law_710 ?_
  refine tp_i a1 (by rw [nI_clamp (by omega)]; exact ha1) ?_
  obtain ⟨R3, r4, hg, hE⟩ := hE
  have hPc := (hP.perm (zl3 (G := G) (ou := ou) (x := x) (u := u) (mo := mo) (q := q) (fo := fo) (C := C1) (R := R))).appR; have hDc := (hD.perm (zl3 (G := G) (ou := ou) (x := x) (u := u) (mo := mo) (q := q) (fo := fo) (C := C1) (R := R))).appR
  refine kz_i (w2 := fun _ => lW G ou x u mo q fo C1 R3) (va_runV (As := [.int a1]) (rest := [.int r2]) F.1 (e_length l G mo q R a1 R3 r4 hg _) (cwV 1 hts (aw_V w_1007 w_1008 w_1009 w_6 w_1010) rfl rfl rfl (by decide +kernel) ⟨by decide, by decide⟩) ⟨cS_blind, va_recv (q := (RX6, TX6, 48)) (ci := 6) (q0 := 0) hK.1 hPc rfl rfl, cS_pre hPc hDc hK⟩ rfl rfl hl.1 rfl (lv_room (Nat.le_of_ble_eq_true rfl)) dL_law_711 ⟨by show _ ≤ 601024; omega, by show _ ≤ 7293034; omega⟩) hP hD hS hA (zl3 (G := G) (ou := ou) (x := x) (u := u) (mo := mo) (q := q) (fo := fo) (C := C1) (R := R)) (fun _ => zl3b) (fun r9 u0 H locs hp hP hD hS => ?_)
  have hp := hp.symm; subst hp
  refine lv_icmp_eq (tgt := 719) hx hb dL_law_714 (by decide) (fun h5 => ?_) (fun h5 => ?_)
  ·
    rw [if_pos h5] at hE
    obtain ⟨rfl, rfl, rfl⟩ := hE
    refine W.widen (k := cells + 2) (n := slots + 16) (by omega) (by omega) ?_
    exact kk _ _ _ (lv_sub hl [0, 1, 2, 3, 4] rfl) hP hD hS
  ·
    rw [if_neg h5] at hE
    refine lv_iconst (v := 0) hx hb dL_law_717 (by decide) ?_
    exact hE.elim

theorem nI_p3 {n : Nat} : nI (n + 3) = nI n + 3 := by
  rw [show n + 3 = n + 2 + 1 from rfl, nI_p1, nI_p2, Int32.add_assoc]
  rfl
theorem lw_cmp {L i : Nat} (hL : L ≤ 1536) (hi : i ≤ 1600) : (Int32.ofNat L - 3 : Int32) < nI i ↔ L < i + 3 := by
  rw [Int32.lt_iff_toInt_lt, nI_toInt (by omega), Int32.toInt_sub, show (Int32.ofNat L).toInt = (L : Int) from nI_toInt (n := L) (by omega), show (3 : Int32).toInt = 3 from rfl]
  rw [Int.bmod_def]
  split <;> omega
set_option maxHeartbeats 4000000 in
set_option maxRecDepth 100000 in
theorem law_loop {p : Program} {l : Launch} {e : Env} {s : State} {m : MethodId} {below : List Frame} {meth : Method} {c : Code} {G : PG} {Z : ZZ} {b L : Nat} {xs : Nat → Int32} {A : Nat → Prop} (hst : l.stackTraces = false) (F : CallFix p m c cL_law 7 s #[Value.ref b] aW RL ∧ True) (hX : va_X b L xs s s.heap) (hbl : b < s.heap.size) (hK : pg_K G s) (hT : pg_T s) (hZ : zF Z A s s.heap) (hA : ∀ q, s.heap.size ≤ q → A q) (hAo : ∀ q, q < s.heap.size → ¬ A q) (hL : L ≤ 1536) (x mo ou : Nat) (u q : Nat → Nat) (hr : meth.sig.returnType = ret) (hlocks : meth.locks = false) {Inv : CS → RS → Prop} (h_type : ∀ C R fo a1 a2, Inv C R → ∃ C' R' fo', K_type C R fo a1 a2 C' R' fo' ∧ Inv C' R') (h_clear : ∀ C R fo a1 a2, Inv C R → ∃ C' R' fo', K_clear C R fo a1 a2 C' R' fo' ∧ Inv C' R') (h_compile : ∀ C R fo a1 a2, Inv C R → ∃ C' R' fo', K_compile C R fo a1 a2 C' R' fo' ∧ Inv C' R') (h_matches : ∀ C R fo a1 a2, Inv C R → ∃ C' R' fo', K_matches C R fo a1 a2 C' R' fo' ∧ Inv C' R') (h_looking : ∀ C R fo a1 a2, Inv C R → ∃ C' R' fo', K_looking C R fo a1 a2 C' R' fo' ∧ Inv C' R') (h_find : ∀ C R fo a1 a2, Inv C R → ∃ C' R' fo', K_find C R fo a1 a2 C' R' fo' ∧ Inv C' R') (h_start : ∀ C R fo a1 a2, Inv C R → ∃ C' R' fo', K_start C R fo a1 a2 C' R' fo' ∧ Inv C' R') (h_end : ∀ C R fo a1 a2, Inv C R → ∃ C' R' fo', K_end C R fo a1 a2 C' R' fo' ∧ Inv C' R') (h_replace : ∀ C R fo a1 a2, Inv C R → ∃ C' R' fo', K_replace C R fo a1 a2 C' R' fo' ∧ Inv C' R') (h_replaced : ∀ C R fo a1 a2, Inv C R → ∃ C' R' fo', K_replaced C R fo a1 a2 C' R' fo' ∧ Inv C' R') (h_split : ∀ C R fo a1 a2, Inv C R → ∃ C' R' fo', K_split C R fo a1 a2 C' R' fo' ∧ Inv C' R') (h_piece : ∀ C R fo a1 a2, Inv C R → ∃ C' R' fo', K_piece C R fo a1 a2 C' R' fo' ∧ Inv C' R') (h_length : ∀ C R fo a1 a2, Inv C R → ∃ C' R' fo', K_length C R fo a1 a2 C' R' fo' ∧ Inv C' R') : ∀ (n i : Nat) (C : CS) (R : RS) (fo : Nat → Int64) (H : Heap) (locs : List Loc) (ls : Array Slot) (cells slots : Nat), L < i + 3 * (n + 1) → i ≤ 1600 → Inv C R → cells + 2 * n ≤ 601024 → slots + 16 * n ≤ 7293034 → lv_has ls 7 [(4, .int (nI i)), (3, .ref ou), (2, .ref mo), (1, .ref x), (0, .ref b)] → va_P G.1 vwCl (lW G ou x u mo q fo C R) H → va_D A (lW G ou x u mo q fo C R) → va_S A s.heap H locs → W p l e room_1 s m #[Value.ref b] below meth c H locs cells slots (lw_Z below #[Value.ref b] s) (F0 m 23 ls []) := by
  have hx := F.1.1; have hb := F.1.2.1; have hml := F.1.2.2.1; have hts := F.1.2.2.2.2
  have hown : s.vm.findClass RL = some m.cls := F.1.2.2.2.1
  have hbA : ¬ A b := hAo b hbl
  have hns : ∀ q, A q → ∀ cell, s.heap[q]? = some cell → cell.vm.isStatics = false := fun q h cell hc => absurd h (hAo q (Array.getElem?_eq_some_iff.mp hc).1)
  intro n
  induction n with
  | zero =>
    intro i C R fo H locs ls cells slots hn hi hI hc hs hl hP hD hS
    refine lv_iload hx hb dL_law_23 (lv_at hl 0 rfl) ?_
    refine lv_aload_n hx hb dL_law_25 rfl (lv_at hl 4 rfl) ?_
    refine va_slen (A := A) hx hb hX hbl hbA hS dL_law_26 ?_
    refine lv_iconst (v := 3) hx hb dL_law_27 (by decide) ?_
    refine lv_isub hx hb dL_law_28 ?_
    refine lv_icmp_gt (tgt := 725) hx hb dL_law_29 (by decide) (fun h9 => ?_) (fun h9 => ?_)
    · refine lv_iconst (v := 1) hx hb dL_law_725 (by decide) ?_
      refine va_forget (fun q hq => Nat.not_lt.mp (fun h => hAo _ h (hS.2.2 q hq))) ?_
      refine W.widen (k := 601024) (n := 7293034) (by omega) (by omega) ?_
      exact lw_ret hx hb hr hlocks dL_law_726
    · exact absurd ((lw_cmp hL hi).mpr (by omega)) h9
  | succ n ih =>
    intro i C R fo H locs ls cells slots hn hi hI hc hs hl hP hD hS
    refine lv_iload hx hb dL_law_23 (lv_at hl 0 rfl) ?_
    refine lv_aload_n hx hb dL_law_25 rfl (lv_at hl 4 rfl) ?_
    refine va_slen (A := A) hx hb hX hbl hbA hS dL_law_26 ?_
    refine lv_iconst (v := 3) hx hb dL_law_27 (by decide) ?_
    refine lv_isub hx hb dL_law_28 ?_
    refine lv_icmp_gt (tgt := 725) hx hb dL_law_29 (by decide) (fun h9 => ?_) (fun h9 => ?_)
    · refine lv_iconst (v := 1) hx hb dL_law_725 (by decide) ?_
      refine va_forget (fun q hq => Nat.not_lt.mp (fun h => hAo _ h (hS.2.2 q hq))) ?_
      refine W.widen (k := 601024) (n := 7293034) (by omega) (by omega) ?_
      exact lw_ret hx hb hr hlocks dL_law_726
    have hi3 : i + 3 ≤ L := Nat.not_lt.mp (fun z => h9 ((lw_cmp hL hi).mpr z))
    refine lv_aload_n hx hb dL_law_32 rfl (lv_at hl 4 rfl) ?_
    refine lv_iload hx hb dL_law_33 (lv_at hl 0 rfl) ?_
    refine va_sld (A := A) hx hb hX hbl hbA hS (vp_in_nI (n := i) (by omega) (by omega)) dL_law_35 ?_
    refine tp_i (xs i) (by rw [nI_clamp (by omega)]) ?_
    refine lv_bipush (v := 15) hx hb dL_law_36 (by decide) ?_
    refine lv_iand hx hb dL_law_38 ?_
    obtain ⟨j, hj, hjx⟩ := pk_andE (xs i) (m := 15) 4 (by decide)
    refine tp_i (nI j) hjx ?_
    have tl : ∀ (C' : CS) (R' : RS) (fo' : Nat → Int64) (H : Heap) (locs : List Loc) (ls : Array Slot), Inv C' R' → lv_has ls 7 [(4, .int (nI i)), (3, .ref ou), (2, .ref mo), (1, .ref x), (0, .ref b)] → va_P G.1 vwCl (lW G ou x u mo q fo' C' R') H → va_D A (lW G ou x u mo q fo' C' R') → va_S A s.heap H locs → W p l e room_1 s m #[Value.ref b] below meth c H locs (cells + 2) (slots + 16) (lw_Z below #[Value.ref b] s) (F0 m 719 ls []) := by
      intro C' R' fo' H locs ls hI hl hP hD hS
      refine lv_iinc (v := nI (i + 3)) (k := 0) hx hb dL_law_719 hl rfl nI_p3.symm (by decide) rfl (fun ls hl => ?_)
      have hl : lv_has ls 7 [(4, .int (nI (i + 3))), (3, .ref ou), (2, .ref mo), (1, .ref x), (0, .ref b)] := hl
      refine lv_goto (tgt := 23) hx hb dL_law_722 (by decide) ?_
      exact ih (i + 3) C' R' fo' H locs ls (cells + 2) (slots + 16) (by omega) (by omega) hI (by omega) (by omega) hl hP hD hS
    rcases (show j = 0 ∨ j = 1 ∨ j = 2 ∨ j = 3 ∨ j = 4 ∨ j = 5 ∨ j = 6 ∨ j = 7 ∨ j = 8 ∨ j = 9 ∨ j = 10 ∨ j = 11 ∨ j = 12 ∨ j = 13 ∨ j = 14 ∨ j = 15 by omega) with rfl | rfl | rfl | rfl | rfl | rfl | rfl | rfl | rfl | rfl | rfl | rfl | rfl | rfl | rfl | rfl
    · refine lv_tableIn (tgt := 104) hx hb dL_law_39 (by decide) (by decide) rfl (by decide) ?_
      obtain ⟨C', R', fo', hE, hI'⟩ := h_type C R fo (xs (i + 1)) (xs (i + 2)) hI
      exact k_type hst F hX hbl hK hT hZ hA hAo hL hi3 x mo ou u q rfl rfl C R fo C' R' fo' hE (by omega) (by omega) hl hP hD hS (fun H locs ls hl hP hD hS => tl C' R' fo' H locs ls hI' hl hP hD hS)
    · refine lv_tableIn (tgt := 143) hx hb dL_law_39 (by decide) (by decide) rfl (by decide) ?_
      obtain ⟨C', R', fo', hE, hI'⟩ := h_clear C R fo (xs (i + 1)) (xs (i + 2)) hI
      exact k_clear hst F hX hbl hK hT hZ hA hAo hL hi3 x mo ou u q rfl rfl C R fo C' R' fo' hE (by omega) (by omega) hl hP hD hS (fun H locs ls hl hP hD hS => tl C' R' fo' H locs ls hI' hl hP hD hS)
    · refine lv_tableIn (tgt := 168) hx hb dL_law_39 (by decide) (by decide) rfl (by decide) ?_
      obtain ⟨C', R', fo', hE, hI'⟩ := h_compile C R fo (xs (i + 1)) (xs (i + 2)) hI
      exact k_compile hst F hX hbl hK hT hZ hA hAo hL hi3 x mo ou u q rfl rfl C R fo C' R' fo' hE (by omega) (by omega) hl hP hD hS (fun H locs ls hl hP hD hS => tl C' R' fo' H locs ls hI' hl hP hD hS)
    · refine lv_tableIn (tgt := 212) hx hb dL_law_39 (by decide) (by decide) rfl (by decide) ?_
      obtain ⟨C', R', fo', hE, hI'⟩ := h_matches C R fo (xs (i + 1)) (xs (i + 2)) hI
      exact k_matches hst F hX hbl hK hT hZ hA hAo hL hi3 x mo ou u q rfl rfl C R fo C' R' fo' hE (by omega) (by omega) hl hP hD hS (fun H locs ls hl hP hD hS => tl C' R' fo' H locs ls hI' hl hP hD hS)
    · refine lv_tableIn (tgt := 263) hx hb dL_law_39 (by decide) (by decide) rfl (by decide) ?_
      obtain ⟨C', R', fo', hE, hI'⟩ := h_looking C R fo (xs (i + 1)) (xs (i + 2)) hI
      exact k_looking hst F hX hbl hK hT hZ hA hAo hL hi3 x mo ou u q rfl rfl C R fo C' R' fo' hE (by omega) (by omega) hl hP hD hS (fun H locs ls hl hP hD hS => tl C' R' fo' H locs ls hI' hl hP hD hS)
    · refine lv_tableIn (tgt := 314) hx hb dL_law_39 (by decide) (by decide) rfl (by decide) ?_
      obtain ⟨C', R', fo', hE, hI'⟩ := h_find C R fo (xs (i + 1)) (xs (i + 2)) hI
      exact k_find hst F hX hbl hK hT hZ hA hAo hL hi3 x mo ou u q rfl rfl C R fo C' R' fo' hE (by omega) (by omega) hl hP hD hS (fun H locs ls hl hP hD hS => tl C' R' fo' H locs ls hI' hl hP hD hS)
    · refine lv_tableIn (tgt := 370) hx hb dL_law_39 (by decide) (by decide) rfl (by decide) ?_
      obtain ⟨C', R', fo', hE, hI'⟩ := h_start C R fo (xs (i + 1)) (xs (i + 2)) hI
      exact k_start hst F hX hbl hK hT hZ hA hAo hL hi3 x mo ou u q rfl rfl C R fo C' R' fo' hE (by omega) (by omega) hl hP hD hS (fun H locs ls hl hP hD hS => tl C' R' fo' H locs ls hI' hl hP hD hS)
    · refine lv_tableIn (tgt := 426) hx hb dL_law_39 (by decide) (by decide) rfl (by decide) ?_
      obtain ⟨C', R', fo', hE, hI'⟩ := h_end C R fo (xs (i + 1)) (xs (i + 2)) hI
      exact k_end hst F hX hbl hK hT hZ hA hAo hL hi3 x mo ou u q rfl rfl C R fo C' R' fo' hE (by omega) (by omega) hl hP hD hS (fun H locs ls hl hP hD hS => tl C' R' fo' H locs ls hI' hl hP hD hS)
    · refine lv_tableIn (tgt := 482) hx hb dL_law_39 (by decide) (by decide) rfl (by decide) ?_
      obtain ⟨C', R', fo', hE, hI'⟩ := h_replace C R fo (xs (i + 1)) (xs (i + 2)) hI
      exact k_replace hst F hX hbl hK hT hZ hA hAo hL hi3 x mo ou u q rfl rfl C R fo C' R' fo' hE (by omega) (by omega) hl hP hD hS (fun H locs ls hl hP hD hS => tl C' R' fo' H locs ls hI' hl hP hD hS)
    · refine lv_tableIn (tgt := 526) hx hb dL_law_39 (by decide) (by decide) rfl (by decide) ?_
      obtain ⟨C', R', fo', hE, hI'⟩ := h_replaced C R fo (xs (i + 1)) (xs (i + 2)) hI
      exact k_replaced hst F hX hbl hK hT hZ hA hAo hL hi3 x mo ou u q rfl rfl C R fo C' R' fo' hE (by omega) (by omega) hl hP hD hS (fun H locs ls hl hP hD hS => tl C' R' fo' H locs ls hI' hl hP hD hS)
    · refine lv_tableIn (tgt := 582) hx hb dL_law_39 (by decide) (by decide) rfl (by decide) ?_
      obtain ⟨C', R', fo', hE, hI'⟩ := h_split C R fo (xs (i + 1)) (xs (i + 2)) hI
      exact k_split hst F hX hbl hK hT hZ hA hAo hL hi3 x mo ou u q rfl rfl C R fo C' R' fo' hE (by omega) (by omega) hl hP hD hS (fun H locs ls hl hP hD hS => tl C' R' fo' H locs ls hI' hl hP hD hS)
    · refine lv_tableIn (tgt := 626) hx hb dL_law_39 (by decide) (by decide) rfl (by decide) ?_
      obtain ⟨C', R', fo', hE, hI'⟩ := h_piece C R fo (xs (i + 1)) (xs (i + 2)) hI
      exact k_piece hst F hX hbl hK hT hZ hA hAo hL hi3 x mo ou u q rfl rfl C R fo C' R' fo' hE (by omega) (by omega) hl hP hD hS (fun H locs ls hl hP hD hS => tl C' R' fo' H locs ls hI' hl hP hD hS)
    · refine lv_tableIn (tgt := 694) hx hb dL_law_39 (by decide) (by decide) rfl (by decide) ?_
      obtain ⟨C', R', fo', hE, hI'⟩ := h_length C R fo (xs (i + 1)) (xs (i + 2)) hI
      exact k_length hst F hX hbl hK hT hZ hA hAo hL hi3 x mo ou u q rfl rfl C R fo C' R' fo' hE (by omega) (by omega) hl hP hD hS (fun H locs ls hl hP hD hS => tl C' R' fo' H locs ls hI' hl hP hD hS)
    · refine lv_tableOut (tgt := 719) hx hb dL_law_39 (by decide) (by decide) ?_
      refine W.widen (k := cells + 2) (n := slots + 16) (by omega) (by omega) ?_
      exact tl C R fo _ _ _ hI hl hP hD hS
    · refine lv_tableOut (tgt := 719) hx hb dL_law_39 (by decide) (by decide) ?_
      refine W.widen (k := cells + 2) (n := slots + 16) (by omega) (by omega) ?_
      exact tl C R fo _ _ _ hI hl hP hD hS
    · refine lv_tableOut (tgt := 719) hx hb dL_law_39 (by decide) (by decide) ?_
      refine W.widen (k := cells + 2) (n := slots + 16) (by omega) (by omega) ?_
      exact tl C R fo _ _ _ hI hl hP hD hS
