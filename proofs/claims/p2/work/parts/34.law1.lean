/-! each case of the law's switch; its loop -/
theorem dL_law_0 : decode cL_law 0 = .ok (.new 8, 3) := by decide +kernel
theorem dL_law_3 : decode cL_law 3 = .ok (.dup, 1) := by decide +kernel
theorem dL_law_4 : decode cL_law 4 = .ok (.invokespecial 50, 3) := by decide +kernel
theorem dL_law_7 : decode cL_law 7 = .ok (.astore_n 1, 1) := by decide +kernel
theorem dL_law_8 : decode cL_law 8 = .ok (.new 51, 3) := by decide +kernel
theorem dL_law_11 : decode cL_law 11 = .ok (.dup, 1) := by decide +kernel
theorem dL_law_12 : decode cL_law 12 = .ok (.invokespecial 53, 3) := by decide +kernel
theorem dL_law_15 : decode cL_law 15 = .ok (.astore_n 2, 1) := by decide +kernel
theorem dL_law_16 : decode cL_law 16 = .ok (.iconst 1, 1) := by decide +kernel
theorem dL_law_17 : decode cL_law 17 = .ok (.newarray .long, 2) := by decide +kernel
theorem dL_law_19 : decode cL_law 19 = .ok (.astore_n 3, 1) := by decide +kernel
theorem dL_law_20 : decode cL_law 20 = .ok (.iconst 0, 1) := by decide +kernel
theorem dL_law_21 : decode cL_law 21 = .ok (.istore 4, 2) := by decide +kernel
theorem dL_law_23 : decode cL_law 23 = .ok (.iload 4, 2) := by decide +kernel
theorem dL_law_25 : decode cL_law 25 = .ok (.aload_n 0, 1) := by decide +kernel
theorem dL_law_26 : decode cL_law 26 = .ok (.arraylength, 1) := by decide +kernel
theorem dL_law_27 : decode cL_law 27 = .ok (.iconst 3, 1) := by decide +kernel
theorem dL_law_28 : decode cL_law 28 = .ok (.isub, 1) := by decide +kernel
theorem dL_law_29 : decode cL_law 29 = .ok (.if_icmp .gt 402, 3) := by decide +kernel
theorem dL_law_32 : decode cL_law 32 = .ok (.aload_n 0, 1) := by decide +kernel
theorem dL_law_33 : decode cL_law 33 = .ok (.iload 4, 2) := by decide +kernel
theorem dL_law_35 : decode cL_law 35 = .ok (.iaload, 1) := by decide +kernel
theorem dL_law_36 : decode cL_law 36 = .ok (.bipush 15, 2) := by decide +kernel
theorem dL_law_38 : decode cL_law 38 = .ok (.iand, 1) := by decide +kernel
theorem dL_law_39 : decode cL_law 39 = .ok (.tableswitch 386 0 12 #[65, 104, 129, 145, 161, 177, 205, 233, 261, 277, 305, 321, 361], 65) := by decide +kernel
theorem dL_law_104 : decode cL_law 104 = .ok (.aload_n 1, 1) := by decide +kernel
theorem dL_law_105 : decode cL_law 105 = .ok (.aload_n 0, 1) := by decide +kernel
theorem dL_law_106 : decode cL_law 106 = .ok (.iload 4, 2) := by decide +kernel
theorem dL_law_108 : decode cL_law 108 = .ok (.iconst 1, 1) := by decide +kernel
theorem dL_law_109 : decode cL_law 109 = .ok (.iadd, 1) := by decide +kernel
theorem dL_law_110 : decode cL_law 110 = .ok (.iaload, 1) := by decide +kernel
theorem dL_law_111 : decode cL_law 111 = .ok (.aload_n 0, 1) := by decide +kernel
theorem dL_law_112 : decode cL_law 112 = .ok (.iload 4, 2) := by decide +kernel
theorem dL_law_114 : decode cL_law 114 = .ok (.iconst 2, 1) := by decide +kernel
theorem dL_law_115 : decode cL_law 115 = .ok (.iadd, 1) := by decide +kernel
theorem dL_law_116 : decode cL_law 116 = .ok (.iaload, 1) := by decide +kernel
theorem dL_law_117 : decode cL_law 117 = .ok (.i2c, 1) := by decide +kernel
theorem dL_law_118 : decode cL_law 118 = .ok (.invokevirtual 54, 3) := by decide +kernel
theorem dL_law_121 : decode cL_law 121 = .ok (.aload_n 2, 1) := by decide +kernel
theorem dL_law_122 : decode cL_law 122 = .ok (.aload_n 0, 1) := by decide +kernel
theorem dL_law_123 : decode cL_law 123 = .ok (.iload 4, 2) := by decide +kernel
theorem dL_law_125 : decode cL_law 125 = .ok (.iconst 1, 1) := by decide +kernel
theorem dL_law_126 : decode cL_law 126 = .ok (.iadd, 1) := by decide +kernel
theorem dL_law_127 : decode cL_law 127 = .ok (.iaload, 1) := by decide +kernel
theorem dL_law_128 : decode cL_law 128 = .ok (.aload_n 0, 1) := by decide +kernel
theorem dL_law_129 : decode cL_law 129 = .ok (.iload 4, 2) := by decide +kernel
theorem dL_law_131 : decode cL_law 131 = .ok (.iconst 2, 1) := by decide +kernel
theorem dL_law_132 : decode cL_law 132 = .ok (.iadd, 1) := by decide +kernel
theorem dL_law_133 : decode cL_law 133 = .ok (.iaload, 1) := by decide +kernel
theorem dL_law_134 : decode cL_law 134 = .ok (.i2c, 1) := by decide +kernel
theorem dL_law_135 : decode cL_law 135 = .ok (.invokevirtual 58, 3) := by decide +kernel
theorem dL_law_138 : decode cL_law 138 = .ok (.if_icmp .eq 287, 3) := by decide +kernel
theorem dL_law_141 : decode cL_law 141 = .ok (.iconst 0, 1) := by decide +kernel
theorem dL_law_142 : decode cL_law 142 = .ok (.ireturn, 1) := by decide +kernel
theorem dL_law_143 : decode cL_law 143 = .ok (.aload_n 1, 1) := by decide +kernel
theorem dL_law_144 : decode cL_law 144 = .ok (.aload_n 0, 1) := by decide +kernel
theorem dL_law_145 : decode cL_law 145 = .ok (.iload 4, 2) := by decide +kernel
theorem dL_law_147 : decode cL_law 147 = .ok (.iconst 1, 1) := by decide +kernel
theorem dL_law_148 : decode cL_law 148 = .ok (.iadd, 1) := by decide +kernel
theorem dL_law_149 : decode cL_law 149 = .ok (.iaload, 1) := by decide +kernel
theorem dL_law_150 : decode cL_law 150 = .ok (.invokevirtual 59, 3) := by decide +kernel
theorem dL_law_153 : decode cL_law 153 = .ok (.pop, 1) := by decide +kernel
theorem dL_law_154 : decode cL_law 154 = .ok (.aload_n 2, 1) := by decide +kernel
theorem dL_law_155 : decode cL_law 155 = .ok (.aload_n 0, 1) := by decide +kernel
theorem dL_law_156 : decode cL_law 156 = .ok (.iload 4, 2) := by decide +kernel
theorem dL_law_158 : decode cL_law 158 = .ok (.iconst 1, 1) := by decide +kernel
theorem dL_law_159 : decode cL_law 159 = .ok (.iadd, 1) := by decide +kernel
theorem dL_law_160 : decode cL_law 160 = .ok (.iaload, 1) := by decide +kernel
theorem dL_law_161 : decode cL_law 161 = .ok (.invokevirtual 63, 3) := by decide +kernel
theorem dL_law_164 : decode cL_law 164 = .ok (.pop, 1) := by decide +kernel
theorem dL_law_165 : decode cL_law 165 = .ok (.goto 260, 3) := by decide +kernel
theorem dL_law_168 : decode cL_law 168 = .ok (.aload_n 1, 1) := by decide +kernel
theorem dL_law_169 : decode cL_law 169 = .ok (.aload_n 3, 1) := by decide +kernel
theorem dL_law_170 : decode cL_law 170 = .ok (.invokestatic 64, 3) := by decide +kernel
theorem dL_law_173 : decode cL_law 173 = .ok (.istore 5, 2) := by decide +kernel
theorem dL_law_175 : decode cL_law 175 = .ok (.aload_n 2, 1) := by decide +kernel
theorem dL_law_176 : decode cL_law 176 = .ok (.invokevirtual 69, 3) := by decide +kernel
theorem dL_law_179 : decode cL_law 179 = .ok (.istore 6, 2) := by decide +kernel
theorem dL_law_181 : decode cL_law 181 = .ok (.goto 244, 3) := by decide +kernel
theorem dL_law_184 : decode cL_law 184 = .ok (.aload_n 1, 1) := by decide +kernel
theorem dL_law_185 : decode cL_law 185 = .ok (.aload_n 3, 1) := by decide +kernel
theorem dL_law_186 : decode cL_law 186 = .ok (.invokestatic 70, 3) := by decide +kernel
theorem dL_law_189 : decode cL_law 189 = .ok (.istore 5, 2) := by decide +kernel
theorem dL_law_191 : decode cL_law 191 = .ok (.aload_n 2, 1) := by decide +kernel
theorem dL_law_192 : decode cL_law 192 = .ok (.invokevirtual 72, 3) := by decide +kernel
theorem dL_law_195 : decode cL_law 195 = .ok (.istore 6, 2) := by decide +kernel
theorem dL_law_197 : decode cL_law 197 = .ok (.goto 228, 3) := by decide +kernel
theorem dL_law_200 : decode cL_law 200 = .ok (.aload_n 1, 1) := by decide +kernel
theorem dL_law_201 : decode cL_law 201 = .ok (.aload_n 3, 1) := by decide +kernel
theorem dL_law_202 : decode cL_law 202 = .ok (.invokestatic 73, 3) := by decide +kernel
theorem dL_law_205 : decode cL_law 205 = .ok (.istore 5, 2) := by decide +kernel
theorem dL_law_207 : decode cL_law 207 = .ok (.aload_n 2, 1) := by decide +kernel
theorem dL_law_208 : decode cL_law 208 = .ok (.invokevirtual 75, 3) := by decide +kernel
theorem dL_law_211 : decode cL_law 211 = .ok (.istore 6, 2) := by decide +kernel
theorem dL_law_213 : decode cL_law 213 = .ok (.goto 212, 3) := by decide +kernel
theorem dL_law_216 : decode cL_law 216 = .ok (.aload_n 1, 1) := by decide +kernel
theorem dL_law_217 : decode cL_law 217 = .ok (.aload_n 0, 1) := by decide +kernel
theorem dL_law_218 : decode cL_law 218 = .ok (.iload 4, 2) := by decide +kernel
theorem dL_law_220 : decode cL_law 220 = .ok (.iconst 1, 1) := by decide +kernel
theorem dL_law_221 : decode cL_law 221 = .ok (.iadd, 1) := by decide +kernel
theorem dL_law_222 : decode cL_law 222 = .ok (.iaload, 1) := by decide +kernel
theorem dL_law_223 : decode cL_law 223 = .ok (.aload_n 3, 1) := by decide +kernel
theorem dL_law_224 : decode cL_law 224 = .ok (.invokestatic 76, 3) := by decide +kernel
theorem dL_law_227 : decode cL_law 227 = .ok (.istore 5, 2) := by decide +kernel
theorem dL_law_229 : decode cL_law 229 = .ok (.aload_n 2, 1) := by decide +kernel
theorem dL_law_230 : decode cL_law 230 = .ok (.aload_n 0, 1) := by decide +kernel
theorem dL_law_231 : decode cL_law 231 = .ok (.iload 4, 2) := by decide +kernel
theorem dL_law_233 : decode cL_law 233 = .ok (.iconst 1, 1) := by decide +kernel
theorem dL_law_234 : decode cL_law 234 = .ok (.iadd, 1) := by decide +kernel
theorem dL_law_235 : decode cL_law 235 = .ok (.iaload, 1) := by decide +kernel
theorem dL_law_236 : decode cL_law 236 = .ok (.invokevirtual 79, 3) := by decide +kernel
theorem dL_law_239 : decode cL_law 239 = .ok (.istore 6, 2) := by decide +kernel
theorem dL_law_241 : decode cL_law 241 = .ok (.goto 184, 3) := by decide +kernel
theorem dL_law_244 : decode cL_law 244 = .ok (.aload_n 1, 1) := by decide +kernel
theorem dL_law_245 : decode cL_law 245 = .ok (.aload_n 0, 1) := by decide +kernel
theorem dL_law_246 : decode cL_law 246 = .ok (.iload 4, 2) := by decide +kernel
theorem dL_law_248 : decode cL_law 248 = .ok (.iconst 1, 1) := by decide +kernel
theorem dL_law_249 : decode cL_law 249 = .ok (.iadd, 1) := by decide +kernel
theorem dL_law_250 : decode cL_law 250 = .ok (.iaload, 1) := by decide +kernel
theorem dL_law_251 : decode cL_law 251 = .ok (.aload_n 3, 1) := by decide +kernel
theorem dL_law_252 : decode cL_law 252 = .ok (.invokestatic 80, 3) := by decide +kernel
theorem dL_law_255 : decode cL_law 255 = .ok (.istore 5, 2) := by decide +kernel
theorem dL_law_257 : decode cL_law 257 = .ok (.aload_n 2, 1) := by decide +kernel
theorem dL_law_258 : decode cL_law 258 = .ok (.aload_n 0, 1) := by decide +kernel
theorem dL_law_259 : decode cL_law 259 = .ok (.iload 4, 2) := by decide +kernel
theorem dL_law_261 : decode cL_law 261 = .ok (.iconst 1, 1) := by decide +kernel
theorem dL_law_262 : decode cL_law 262 = .ok (.iadd, 1) := by decide +kernel
theorem dL_law_263 : decode cL_law 263 = .ok (.iaload, 1) := by decide +kernel
theorem dL_law_264 : decode cL_law 264 = .ok (.invokevirtual 82, 3) := by decide +kernel
theorem dL_law_267 : decode cL_law 267 = .ok (.istore 6, 2) := by decide +kernel
theorem dL_law_269 : decode cL_law 269 = .ok (.goto 156, 3) := by decide +kernel
theorem dL_law_272 : decode cL_law 272 = .ok (.aload_n 1, 1) := by decide +kernel
theorem dL_law_273 : decode cL_law 273 = .ok (.aload_n 0, 1) := by decide +kernel
theorem dL_law_274 : decode cL_law 274 = .ok (.iload 4, 2) := by decide +kernel
theorem dL_law_276 : decode cL_law 276 = .ok (.iconst 1, 1) := by decide +kernel
theorem dL_law_277 : decode cL_law 277 = .ok (.iadd, 1) := by decide +kernel
theorem dL_law_278 : decode cL_law 278 = .ok (.iaload, 1) := by decide +kernel
theorem dL_law_279 : decode cL_law 279 = .ok (.aload_n 3, 1) := by decide +kernel
theorem dL_law_280 : decode cL_law 280 = .ok (.invokestatic 83, 3) := by decide +kernel
theorem dL_law_283 : decode cL_law 283 = .ok (.istore 5, 2) := by decide +kernel
theorem dL_law_285 : decode cL_law 285 = .ok (.aload_n 2, 1) := by decide +kernel
theorem dL_law_286 : decode cL_law 286 = .ok (.aload_n 0, 1) := by decide +kernel
theorem dL_law_287 : decode cL_law 287 = .ok (.iload 4, 2) := by decide +kernel
theorem dL_law_289 : decode cL_law 289 = .ok (.iconst 1, 1) := by decide +kernel
theorem dL_law_290 : decode cL_law 290 = .ok (.iadd, 1) := by decide +kernel
theorem dL_law_291 : decode cL_law 291 = .ok (.iaload, 1) := by decide +kernel
theorem dL_law_292 : decode cL_law 292 = .ok (.invokevirtual 85, 3) := by decide +kernel
theorem dL_law_295 : decode cL_law 295 = .ok (.istore 6, 2) := by decide +kernel
theorem dL_law_297 : decode cL_law 297 = .ok (.goto 128, 3) := by decide +kernel
theorem dL_law_300 : decode cL_law 300 = .ok (.aload_n 1, 1) := by decide +kernel
theorem dL_law_301 : decode cL_law 301 = .ok (.aload_n 3, 1) := by decide +kernel
theorem dL_law_302 : decode cL_law 302 = .ok (.invokestatic 86, 3) := by decide +kernel
theorem dL_law_305 : decode cL_law 305 = .ok (.istore 5, 2) := by decide +kernel
theorem dL_law_307 : decode cL_law 307 = .ok (.aload_n 2, 1) := by decide +kernel
theorem dL_law_308 : decode cL_law 308 = .ok (.invokevirtual 88, 3) := by decide +kernel
theorem dL_law_311 : decode cL_law 311 = .ok (.istore 6, 2) := by decide +kernel
theorem dL_law_313 : decode cL_law 313 = .ok (.goto 112, 3) := by decide +kernel
theorem dL_law_316 : decode cL_law 316 = .ok (.aload_n 1, 1) := by decide +kernel
theorem dL_law_317 : decode cL_law 317 = .ok (.aload_n 0, 1) := by decide +kernel
theorem dL_law_318 : decode cL_law 318 = .ok (.iload 4, 2) := by decide +kernel
theorem dL_law_320 : decode cL_law 320 = .ok (.iconst 1, 1) := by decide +kernel
theorem dL_law_321 : decode cL_law 321 = .ok (.iadd, 1) := by decide +kernel
theorem dL_law_322 : decode cL_law 322 = .ok (.iaload, 1) := by decide +kernel
theorem dL_law_323 : decode cL_law 323 = .ok (.aload_n 3, 1) := by decide +kernel
theorem dL_law_324 : decode cL_law 324 = .ok (.invokestatic 89, 3) := by decide +kernel
theorem dL_law_327 : decode cL_law 327 = .ok (.istore 5, 2) := by decide +kernel
theorem dL_law_329 : decode cL_law 329 = .ok (.aload_n 2, 1) := by decide +kernel
theorem dL_law_330 : decode cL_law 330 = .ok (.aload_n 0, 1) := by decide +kernel
theorem dL_law_331 : decode cL_law 331 = .ok (.iload 4, 2) := by decide +kernel
theorem dL_law_333 : decode cL_law 333 = .ok (.iconst 1, 1) := by decide +kernel
theorem dL_law_334 : decode cL_law 334 = .ok (.iadd, 1) := by decide +kernel
theorem dL_law_335 : decode cL_law 335 = .ok (.iaload, 1) := by decide +kernel
theorem dL_law_336 : decode cL_law 336 = .ok (.invokevirtual 91, 3) := by decide +kernel
theorem dL_law_339 : decode cL_law 339 = .ok (.istore 6, 2) := by decide +kernel
theorem dL_law_341 : decode cL_law 341 = .ok (.goto 84, 3) := by decide +kernel
theorem dL_law_344 : decode cL_law 344 = .ok (.aload_n 1, 1) := by decide +kernel
theorem dL_law_345 : decode cL_law 345 = .ok (.aload_n 3, 1) := by decide +kernel
theorem dL_law_346 : decode cL_law 346 = .ok (.invokestatic 92, 3) := by decide +kernel
theorem dL_law_349 : decode cL_law 349 = .ok (.istore 5, 2) := by decide +kernel
theorem dL_law_351 : decode cL_law 351 = .ok (.aload_n 2, 1) := by decide +kernel
theorem dL_law_352 : decode cL_law 352 = .ok (.invokevirtual 94, 3) := by decide +kernel
theorem dL_law_355 : decode cL_law 355 = .ok (.istore 6, 2) := by decide +kernel
theorem dL_law_357 : decode cL_law 357 = .ok (.goto 68, 3) := by decide +kernel
theorem dL_law_360 : decode cL_law 360 = .ok (.aload_n 1, 1) := by decide +kernel
theorem dL_law_361 : decode cL_law 361 = .ok (.aload_n 0, 1) := by decide +kernel
theorem dL_law_362 : decode cL_law 362 = .ok (.iload 4, 2) := by decide +kernel
theorem dL_law_364 : decode cL_law 364 = .ok (.iconst 1, 1) := by decide +kernel
theorem dL_law_365 : decode cL_law 365 = .ok (.iadd, 1) := by decide +kernel
theorem dL_law_366 : decode cL_law 366 = .ok (.iaload, 1) := by decide +kernel
theorem dL_law_367 : decode cL_law 367 = .ok (.aload_n 0, 1) := by decide +kernel
theorem dL_law_368 : decode cL_law 368 = .ok (.iload 4, 2) := by decide +kernel
theorem dL_law_370 : decode cL_law 370 = .ok (.iconst 2, 1) := by decide +kernel
theorem dL_law_371 : decode cL_law 371 = .ok (.iadd, 1) := by decide +kernel
theorem dL_law_372 : decode cL_law 372 = .ok (.iaload, 1) := by decide +kernel
theorem dL_law_373 : decode cL_law 373 = .ok (.aload_n 3, 1) := by decide +kernel
theorem dL_law_374 : decode cL_law 374 = .ok (.invokestatic 95, 3) := by decide +kernel
theorem dL_law_377 : decode cL_law 377 = .ok (.istore 5, 2) := by decide +kernel
theorem dL_law_379 : decode cL_law 379 = .ok (.aload_n 2, 1) := by decide +kernel
theorem dL_law_380 : decode cL_law 380 = .ok (.aload_n 0, 1) := by decide +kernel
theorem dL_law_381 : decode cL_law 381 = .ok (.iload 4, 2) := by decide +kernel
theorem dL_law_383 : decode cL_law 383 = .ok (.iconst 1, 1) := by decide +kernel
theorem dL_law_384 : decode cL_law 384 = .ok (.iadd, 1) := by decide +kernel
theorem dL_law_385 : decode cL_law 385 = .ok (.iaload, 1) := by decide +kernel
theorem dL_law_386 : decode cL_law 386 = .ok (.aload_n 0, 1) := by decide +kernel
theorem dL_law_387 : decode cL_law 387 = .ok (.iload 4, 2) := by decide +kernel
theorem dL_law_389 : decode cL_law 389 = .ok (.iconst 2, 1) := by decide +kernel
theorem dL_law_390 : decode cL_law 390 = .ok (.iadd, 1) := by decide +kernel
theorem dL_law_391 : decode cL_law 391 = .ok (.iaload, 1) := by decide +kernel
theorem dL_law_392 : decode cL_law 392 = .ok (.invokevirtual 98, 3) := by decide +kernel
theorem dL_law_395 : decode cL_law 395 = .ok (.istore 6, 2) := by decide +kernel
theorem dL_law_397 : decode cL_law 397 = .ok (.goto 28, 3) := by decide +kernel
theorem dL_law_400 : decode cL_law 400 = .ok (.aload_n 1, 1) := by decide +kernel
theorem dL_law_401 : decode cL_law 401 = .ok (.aload_n 0, 1) := by decide +kernel
theorem dL_law_402 : decode cL_law 402 = .ok (.iload 4, 2) := by decide +kernel
theorem dL_law_404 : decode cL_law 404 = .ok (.iconst 1, 1) := by decide +kernel
theorem dL_law_405 : decode cL_law 405 = .ok (.iadd, 1) := by decide +kernel
theorem dL_law_406 : decode cL_law 406 = .ok (.iaload, 1) := by decide +kernel
theorem dL_law_407 : decode cL_law 407 = .ok (.invokevirtual 99, 3) := by decide +kernel
theorem dL_law_410 : decode cL_law 410 = .ok (.pop, 1) := by decide +kernel
theorem dL_law_411 : decode cL_law 411 = .ok (.aload_n 2, 1) := by decide +kernel
theorem dL_law_412 : decode cL_law 412 = .ok (.aload_n 0, 1) := by decide +kernel
theorem dL_law_413 : decode cL_law 413 = .ok (.iload 4, 2) := by decide +kernel
theorem dL_law_415 : decode cL_law 415 = .ok (.iconst 1, 1) := by decide +kernel
theorem dL_law_416 : decode cL_law 416 = .ok (.iadd, 1) := by decide +kernel
theorem dL_law_417 : decode cL_law 417 = .ok (.iaload, 1) := by decide +kernel
theorem dL_law_418 : decode cL_law 418 = .ok (.invokevirtual 102, 3) := by decide +kernel
theorem dL_law_421 : decode cL_law 421 = .ok (.pop, 1) := by decide +kernel
theorem dL_law_422 : decode cL_law 422 = .ok (.goto 3, 3) := by decide +kernel
theorem dL_law_425 : decode cL_law 425 = .ok (.iinc 4 3, 3) := by decide +kernel
theorem dL_law_428 : decode cL_law 428 = .ok (.goto (-405), 3) := by decide +kernel
theorem dL_law_431 : decode cL_law 431 = .ok (.iconst 1, 1) := by decide +kernel
theorem dL_law_432 : decode cL_law 432 = .ok (.ireturn, 1) := by decide +kernel
def K_type (C : CS) (R : RS) (fo : Nat → Int64) (a1 a2 : Int32) (C' : CS) (R' : RS) (fo' : Nat → Int64) : Prop := ∃ (C1 : CS) (r2 : Int32), E_p_type C a1 ((a2.toUInt32 % 65536).toInt32) C1 r2 ∧ (∃ (R3 : RS) (r4 : Int32), E_type R a1 ((a2.toUInt32 % 65536).toInt32) R3 r4 ∧ (if r2 = r4 then (C' = C1 ∧ R' = R3 ∧ fo' = fo) else (False)))
set_option maxHeartbeats 4000000 in
set_option maxRecDepth 100000 in
theorem k_type {p : Program} {l : Launch} {e : Env} {s : State} {m : MethodId} {below : List Frame} {meth : Method} {c : Code} {G : PG} {Z : ZZ} {b L : Nat} {xs : Nat → Int32} {A : Nat → Prop} (hst : l.stackTraces = false) (F : CallFix p m c cL_law 7 s #[Value.ref b] aW RL ∧ True) (hX : va_X b L xs s s.heap) (hbl : b < s.heap.size) (hK : pg_K G s) (hT : pg_T s) (hZ : zF Z A s s.heap) (hA : ∀ q, s.heap.size ≤ q → A q) (hAo : ∀ q, q < s.heap.size → ¬ A q) (hL : L ≤ 1536) {i : Nat} (hi : i + 3 ≤ L) (x mo ou : Nat) (u q : Nat → Nat) {a1 a2 : Int32} (ha1 : xs (i + 1) = a1) (ha2 : xs (i + 2) = a2) (C : CS) (R : RS) (fo : Nat → Int64) (C' : CS) (R' : RS) (fo' : Nat → Int64) (hE : K_type C R fo a1 a2 C' R' fo') {H : Heap} {locs : List Loc} {ls : Array Slot} {cells slots : Nat} (hcs : cells + 2 ≤ 601024) (hss : slots + 16 ≤ 7293034) (hl : lv_has ls 7 [(4, .int (nI i)), (3, .ref ou), (2, .ref mo), (1, .ref x), (0, .ref b)]) (hP : va_P G.1 vwCl (lW G ou x u mo q fo C R) H) (hD : va_D A (lW G ou x u mo q fo C R)) (hS : va_S A s.heap H locs) {Q : State → Prop} (kk : ∀ (H : Heap) (locs : List Loc) (ls : Array Slot), lv_has ls 7 [(4, .int (nI i)), (3, .ref ou), (2, .ref mo), (1, .ref x), (0, .ref b)] → va_P G.1 vwCl (lW G ou x u mo q fo' C' R') H → va_D A (lW G ou x u mo q fo' C' R') → va_S A s.heap H locs → W p l e room_1 s m #[Value.ref b] below meth c H locs (cells + 2) (slots + 16) Q (F0 m 425 ls [])) : W p l e room_1 s m #[Value.ref b] below meth c H locs cells slots Q (F0 m 104 ls []) := by
  have hx := F.1.1; have hb := F.1.2.1; have hml := F.1.2.2.1; have hts := F.1.2.2.2.2
  have hown : s.vm.findClass RL = some m.cls := F.1.2.2.2.1
  have hbA : ¬ A b := hAo b hbl
  have hns : ∀ q, A q → ∀ cell, s.heap[q]? = some cell → cell.vm.isStatics = false := fun q h cell hc => absurd h (hAo q (Array.getElem?_eq_some_iff.mp hc).1)
  unfold K_type at hE
  refine lv_aload_n hx hb dL_law_104 rfl (lv_at hl 3 rfl) ?_
  refine lv_aload_n hx hb dL_law_105 rfl (lv_at hl 4 rfl) ?_
  refine lv_iload hx hb dL_law_106 (lv_at hl 0 rfl) ?_
  refine lv_iconst (v := 1) hx hb dL_law_108 (by decide) ?_
  refine lv_iadd hx hb dL_law_109 ?_
  refine tp_i (nI (i + 1)) nI_p1.symm ?_
  refine va_sld (A := A) hx hb hX hbl hbA hS (vp_in_nI (n := i + 1) (by omega) (by omega)) dL_law_110 ?_
  refine tp_i a1 (by rw [nI_clamp (by omega)]; exact ha1) ?_
  refine lv_aload_n hx hb dL_law_111 rfl (lv_at hl 4 rfl) ?_
  refine lv_iload hx hb dL_law_112 (lv_at hl 0 rfl) ?_
  refine lv_iconst (v := 2) hx hb dL_law_114 (by decide) ?_
  refine lv_iadd hx hb dL_law_115 ?_
  refine tp_i (nI (i + 2)) nI_p2.symm ?_
  refine va_sld (A := A) hx hb hX hbl hbA hS (vp_in_nI (n := i + 2) (by omega) (by omega)) dL_law_116 ?_
  refine tp_i a2 (by rw [nI_clamp (by omega)]; exact ha2) ?_
  refine lv_i2c (v := (a2.toUInt32 % 65536).toInt32) hx hb dL_law_117 rfl ?_
  obtain ⟨C1, r2, hg, hE⟩ := hE
  have hPc := (hP.perm (zl1 (G := G) (ou := ou) (x := x) (u := u) (mo := mo) (q := q) (fo := fo) (C := C) (R := R))).appR; have hDc := (hD.perm (zl1 (G := G) (ou := ou) (x := x) (u := u) (mo := mo) (q := q) (fo := fo) (C := C) (R := R))).appR
  refine kz_i (w2 := fun _ => lW G ou x u mo q fo C1 R) (va_runV (As := [.int a1, .int ((a2.toUInt32 % 65536).toInt32)]) (rest := []) F.1 (e_p_type l G x u C a1 ((a2.toUInt32 % 65536).toInt32) C1 r2 hg _) (cwV 2 hts (aw_V w_230 w_231 w_232 w_1 w_233) rfl rfl rfl (by decide +kernel) ⟨by decide, by decide⟩) ⟨cS_blind, va_recv (q := (RX5, TX5, 13)) (ci := 5) (q0 := 0) hK.1 hPc rfl pW_0, cS_pre hPc hDc hK⟩ rfl rfl hl.1 rfl (lv_room (Nat.le_of_ble_eq_true rfl)) dL_law_118 ⟨by show _ ≤ 601024; omega, by show _ ≤ 7293034; omega⟩) hP hD hS hA (zl1 (G := G) (ou := ou) (x := x) (u := u) (mo := mo) (q := q) (fo := fo) (C := C) (R := R)) (fun _ => zl1b) (fun r9 u0 H locs hp hP hD hS => ?_)
  have hp := hp.symm; subst hp
  refine lv_aload_n hx hb dL_law_121 rfl (lv_at hl 2 rfl) ?_
  refine lv_aload_n hx hb dL_law_122 rfl (lv_at hl 4 rfl) ?_
  refine lv_iload hx hb dL_law_123 (lv_at hl 0 rfl) ?_
  refine lv_iconst (v := 1) hx hb dL_law_125 (by decide) ?_
  refine lv_iadd hx hb dL_law_126 ?_
  refine tp_i (nI (i + 1)) nI_p1.symm ?_
  refine va_sld (A := A) hx hb hX hbl hbA hS (vp_in_nI (n := i + 1) (by omega) (by omega)) dL_law_127 ?_
  refine tp_i a1 (by rw [nI_clamp (by omega)]; exact ha1) ?_
  refine lv_aload_n hx hb dL_law_128 rfl (lv_at hl 4 rfl) ?_
  refine lv_iload hx hb dL_law_129 (lv_at hl 0 rfl) ?_
  refine lv_iconst (v := 2) hx hb dL_law_131 (by decide) ?_
  refine lv_iadd hx hb dL_law_132 ?_
  refine tp_i (nI (i + 2)) nI_p2.symm ?_
  refine va_sld (A := A) hx hb hX hbl hbA hS (vp_in_nI (n := i + 2) (by omega) (by omega)) dL_law_133 ?_
  refine tp_i a2 (by rw [nI_clamp (by omega)]; exact ha2) ?_
  refine lv_i2c (v := (a2.toUInt32 % 65536).toInt32) hx hb dL_law_134 rfl ?_
  obtain ⟨R3, r4, hg, hE⟩ := hE
  have hPc := (hP.perm (zl3 (G := G) (ou := ou) (x := x) (u := u) (mo := mo) (q := q) (fo := fo) (C := C1) (R := R))).appR; have hDc := (hD.perm (zl3 (G := G) (ou := ou) (x := x) (u := u) (mo := mo) (q := q) (fo := fo) (C := C1) (R := R))).appR
  refine kz_i (w2 := fun _ => lW G ou x u mo q fo C1 R3) (va_runV (As := [.int a1, .int ((a2.toUInt32 % 65536).toInt32)]) (rest := [.int r2]) F.1 (e_type l G mo q R a1 ((a2.toUInt32 % 65536).toInt32) R3 r4 hg _) (cwV 2 hts (aw_V w_992 w_993 w_994 w_6 w_995) rfl rfl rfl (by decide +kernel) ⟨by decide, by decide⟩) ⟨cS_blind, va_recv (q := (RX6, TX6, 48)) (ci := 6) (q0 := 0) hK.1 hPc rfl rfl, cS_pre hPc hDc hK⟩ rfl rfl hl.1 rfl (lv_room (Nat.le_of_ble_eq_true rfl)) dL_law_135 ⟨by show _ ≤ 601024; omega, by show _ ≤ 7293034; omega⟩) hP hD hS hA (zl3 (G := G) (ou := ou) (x := x) (u := u) (mo := mo) (q := q) (fo := fo) (C := C1) (R := R)) (fun _ => zl3b) (fun r9 u0 H locs hp hP hD hS => ?_)
  have hp := hp.symm; subst hp
  refine lv_icmp_eq (tgt := 425) hx hb dL_law_138 (by decide) (fun h5 => ?_) (fun h5 => ?_)
  ·
    rw [if_pos h5] at hE
    obtain ⟨rfl, rfl, rfl⟩ := hE
    refine W.widen (k := cells + 2) (n := slots + 16) (by omega) (by omega) ?_
    exact kk _ _ _ (lv_sub hl [0, 1, 2, 3, 4] rfl) hP hD hS
  ·
    rw [if_neg h5] at hE
    refine lv_iconst (v := 0) hx hb dL_law_141 (by decide) ?_
    exact hE.elim

def K_clear (C : CS) (R : RS) (fo : Nat → Int64) (a1 a2 : Int32) (C' : CS) (R' : RS) (fo' : Nat → Int64) : Prop := ∃ (C1 : CS) (r2 : Int32), E_p_clear C a1 C1 r2 ∧ (∃ (R3 : RS) (r4 : Int32), E_clear R a1 R3 r4 ∧ (C' = C1 ∧ R' = R3 ∧ fo' = fo))
set_option maxHeartbeats 4000000 in
set_option maxRecDepth 100000 in
theorem k_clear {p : Program} {l : Launch} {e : Env} {s : State} {m : MethodId} {below : List Frame} {meth : Method} {c : Code} {G : PG} {Z : ZZ} {b L : Nat} {xs : Nat → Int32} {A : Nat → Prop} (hst : l.stackTraces = false) (F : CallFix p m c cL_law 7 s #[Value.ref b] aW RL ∧ True) (hX : va_X b L xs s s.heap) (hbl : b < s.heap.size) (hK : pg_K G s) (hT : pg_T s) (hZ : zF Z A s s.heap) (hA : ∀ q, s.heap.size ≤ q → A q) (hAo : ∀ q, q < s.heap.size → ¬ A q) (hL : L ≤ 1536) {i : Nat} (hi : i + 3 ≤ L) (x mo ou : Nat) (u q : Nat → Nat) {a1 a2 : Int32} (ha1 : xs (i + 1) = a1) (ha2 : xs (i + 2) = a2) (C : CS) (R : RS) (fo : Nat → Int64) (C' : CS) (R' : RS) (fo' : Nat → Int64) (hE : K_clear C R fo a1 a2 C' R' fo') {H : Heap} {locs : List Loc} {ls : Array Slot} {cells slots : Nat} (hcs : cells + 2 ≤ 601024) (hss : slots + 16 ≤ 7293034) (hl : lv_has ls 7 [(4, .int (nI i)), (3, .ref ou), (2, .ref mo), (1, .ref x), (0, .ref b)]) (hP : va_P G.1 vwCl (lW G ou x u mo q fo C R) H) (hD : va_D A (lW G ou x u mo q fo C R)) (hS : va_S A s.heap H locs) {Q : State → Prop} (kk : ∀ (H : Heap) (locs : List Loc) (ls : Array Slot), lv_has ls 7 [(4, .int (nI i)), (3, .ref ou), (2, .ref mo), (1, .ref x), (0, .ref b)] → va_P G.1 vwCl (lW G ou x u mo q fo' C' R') H → va_D A (lW G ou x u mo q fo' C' R') → va_S A s.heap H locs → W p l e room_1 s m #[Value.ref b] below meth c H locs (cells + 2) (slots + 16) Q (F0 m 425 ls [])) : W p l e room_1 s m #[Value.ref b] below meth c H locs cells slots Q (F0 m 143 ls []) := by
  have hx := F.1.1; have hb := F.1.2.1; have hml := F.1.2.2.1; have hts := F.1.2.2.2.2
  have hown : s.vm.findClass RL = some m.cls := F.1.2.2.2.1
  have hbA : ¬ A b := hAo b hbl
  have hns : ∀ q, A q → ∀ cell, s.heap[q]? = some cell → cell.vm.isStatics = false := fun q h cell hc => absurd h (hAo q (Array.getElem?_eq_some_iff.mp hc).1)
  unfold K_clear at hE
  refine lv_aload_n hx hb dL_law_143 rfl (lv_at hl 3 rfl) ?_
  refine lv_aload_n hx hb dL_law_144 rfl (lv_at hl 4 rfl) ?_
  refine lv_iload hx hb dL_law_145 (lv_at hl 0 rfl) ?_
  refine lv_iconst (v := 1) hx hb dL_law_147 (by decide) ?_
  refine lv_iadd hx hb dL_law_148 ?_
  refine tp_i (nI (i + 1)) nI_p1.symm ?_
  refine va_sld (A := A) hx hb hX hbl hbA hS (vp_in_nI (n := i + 1) (by omega) (by omega)) dL_law_149 ?_
  refine tp_i a1 (by rw [nI_clamp (by omega)]; exact ha1) ?_
  obtain ⟨C1, r2, hg, hE⟩ := hE
  have hPc := (hP.perm (zl1 (G := G) (ou := ou) (x := x) (u := u) (mo := mo) (q := q) (fo := fo) (C := C) (R := R))).appR; have hDc := (hD.perm (zl1 (G := G) (ou := ou) (x := x) (u := u) (mo := mo) (q := q) (fo := fo) (C := C) (R := R))).appR
  refine kz_i (w2 := fun _ => lW G ou x u mo q fo C1 R) (va_runV (As := [.int a1]) (rest := []) F.1 (e_p_clear l G x u C a1 C1 r2 hg _) (cwV 1 hts (aw_V w_245 w_246 w_247 w_1 w_248) rfl rfl rfl (by decide +kernel) ⟨by decide, by decide⟩) ⟨cS_blind, va_recv (q := (RX5, TX5, 13)) (ci := 5) (q0 := 0) hK.1 hPc rfl pW_0, cS_pre hPc hDc hK⟩ rfl rfl hl.1 rfl (lv_room (Nat.le_of_ble_eq_true rfl)) dL_law_150 ⟨by show _ ≤ 601024; omega, by show _ ≤ 7293034; omega⟩) hP hD hS hA (zl1 (G := G) (ou := ou) (x := x) (u := u) (mo := mo) (q := q) (fo := fo) (C := C) (R := R)) (fun _ => zl1b) (fun r9 u0 H locs hp hP hD hS => ?_)
  have hp := hp.symm; subst hp
  refine lv_pop hx hb dL_law_153 rfl ?_
  refine lv_aload_n hx hb dL_law_154 rfl (lv_at hl 2 rfl) ?_
  refine lv_aload_n hx hb dL_law_155 rfl (lv_at hl 4 rfl) ?_
  refine lv_iload hx hb dL_law_156 (lv_at hl 0 rfl) ?_
  refine lv_iconst (v := 1) hx hb dL_law_158 (by decide) ?_
  refine lv_iadd hx hb dL_law_159 ?_
  refine tp_i (nI (i + 1)) nI_p1.symm ?_
  refine va_sld (A := A) hx hb hX hbl hbA hS (vp_in_nI (n := i + 1) (by omega) (by omega)) dL_law_160 ?_
  refine tp_i a1 (by rw [nI_clamp (by omega)]; exact ha1) ?_
  obtain ⟨R3, r4, hg, hE⟩ := hE
  have hPc := (hP.perm (zl3 (G := G) (ou := ou) (x := x) (u := u) (mo := mo) (q := q) (fo := fo) (C := C1) (R := R))).appR; have hDc := (hD.perm (zl3 (G := G) (ou := ou) (x := x) (u := u) (mo := mo) (q := q) (fo := fo) (C := C1) (R := R))).appR
  refine kz_i (w2 := fun _ => lW G ou x u mo q fo C1 R3) (va_runV (As := [.int a1]) (rest := []) F.1 (e_clear l G mo q R a1 R3 r4 hg _) (cwV 1 hts (aw_V w_999 w_1000 w_1001 w_6 w_1002) rfl rfl rfl (by decide +kernel) ⟨by decide, by decide⟩) ⟨cS_blind, va_recv (q := (RX6, TX6, 48)) (ci := 6) (q0 := 0) hK.1 hPc rfl rfl, cS_pre hPc hDc hK⟩ rfl rfl hl.1 rfl (lv_room (Nat.le_of_ble_eq_true rfl)) dL_law_161 ⟨by show _ ≤ 601024; omega, by show _ ≤ 7293034; omega⟩) hP hD hS hA (zl3 (G := G) (ou := ou) (x := x) (u := u) (mo := mo) (q := q) (fo := fo) (C := C1) (R := R)) (fun _ => zl3b) (fun r9 u0 H locs hp hP hD hS => ?_)
  have hp := hp.symm; subst hp
  refine lv_pop hx hb dL_law_164 rfl ?_
  refine lv_goto (tgt := 425) hx hb dL_law_165 (by decide) ?_
  obtain ⟨rfl, rfl, rfl⟩ := hE
  refine W.widen (k := cells + 2) (n := slots + 16) (by omega) (by omega) ?_
  exact kk _ _ _ (lv_sub hl [0, 1, 2, 3, 4] rfl) hP hD hS

def K_compile (C : CS) (R : RS) (fo : Nat → Int64) (a1 a2 : Int32) (C' : CS) (R' : RS) (fo' : Nat → Int64) : Prop := ∃ (C1 : CS) (f2 : Nat → Int64) (k3 : Int32), E_l_compile C fo C1 f2 k3 ∧ (∃ (R4 : RS) (r5 : Int32), E_compile R R4 r5 ∧ (C' = C1 ∧ R' = R4 ∧ fo' = f2))
set_option maxHeartbeats 4000000 in
set_option maxRecDepth 100000 in
theorem k_compile {p : Program} {l : Launch} {e : Env} {s : State} {m : MethodId} {below : List Frame} {meth : Method} {c : Code} {G : PG} {Z : ZZ} {b L : Nat} {xs : Nat → Int32} {A : Nat → Prop} (hst : l.stackTraces = false) (F : CallFix p m c cL_law 7 s #[Value.ref b] aW RL ∧ True) (hX : va_X b L xs s s.heap) (hbl : b < s.heap.size) (hK : pg_K G s) (hT : pg_T s) (hZ : zF Z A s s.heap) (hA : ∀ q, s.heap.size ≤ q → A q) (hAo : ∀ q, q < s.heap.size → ¬ A q) (hL : L ≤ 1536) {i : Nat} (hi : i + 3 ≤ L) (x mo ou : Nat) (u q : Nat → Nat) {a1 a2 : Int32} (ha1 : xs (i + 1) = a1) (ha2 : xs (i + 2) = a2) (C : CS) (R : RS) (fo : Nat → Int64) (C' : CS) (R' : RS) (fo' : Nat → Int64) (hE : K_compile C R fo a1 a2 C' R' fo') {H : Heap} {locs : List Loc} {ls : Array Slot} {cells slots : Nat} (hcs : cells + 2 ≤ 601024) (hss : slots + 16 ≤ 7293034) (hl : lv_has ls 7 [(4, .int (nI i)), (3, .ref ou), (2, .ref mo), (1, .ref x), (0, .ref b)]) (hP : va_P G.1 vwCl (lW G ou x u mo q fo C R) H) (hD : va_D A (lW G ou x u mo q fo C R)) (hS : va_S A s.heap H locs) {Q : State → Prop} (kk : ∀ (H : Heap) (locs : List Loc) (ls : Array Slot), lv_has ls 7 [(4, .int (nI i)), (3, .ref ou), (2, .ref mo), (1, .ref x), (0, .ref b)] → va_P G.1 vwCl (lW G ou x u mo q fo' C' R') H → va_D A (lW G ou x u mo q fo' C' R') → va_S A s.heap H locs → W p l e room_1 s m #[Value.ref b] below meth c H locs (cells + 2) (slots + 16) Q (F0 m 425 ls [])) : W p l e room_1 s m #[Value.ref b] below meth c H locs cells slots Q (F0 m 168 ls []) := by
  have hx := F.1.1; have hb := F.1.2.1; have hml := F.1.2.2.1; have hts := F.1.2.2.2.2
  have hown : s.vm.findClass RL = some m.cls := F.1.2.2.2.1
  have hbA : ¬ A b := hAo b hbl
  have hns : ∀ q, A q → ∀ cell, s.heap[q]? = some cell → cell.vm.isStatics = false := fun q h cell hc => absurd h (hAo q (Array.getElem?_eq_some_iff.mp hc).1)
  unfold K_compile at hE
  refine lv_aload_n hx hb dL_law_168 rfl (lv_at hl 3 rfl) ?_
  refine lv_aload_n hx hb dL_law_169 rfl (lv_at hl 1 rfl) ?_
  obtain ⟨C1, f2, k3, hg, hE⟩ := hE
  have hPc := (hP.perm (zl2 (G := G) (ou := ou) (x := x) (u := u) (mo := mo) (q := q) (fo := fo) (C := C) (R := R))).appR; have hDc := (hD.perm (zl2 (G := G) (ou := ou) (x := x) (u := u) (mo := mo) (q := q) (fo := fo) (C := C) (R := R))).appR
  refine kz_i (w2 := fun _ => lW G ou x u mo q f2 C1 R) (kw_S (n := 2) (As := [.ref x, .ref ou]) (rest := []) F.1 (l_compile_y l hst G Z x u ou C fo C1 f2 k3 hg _) w_263 w_261 w_262 w_0 rfl rfl (by decide +kernel) ⟨by decide, by decide⟩ ⟨tS_blind, tS_pre hPc hDc hK hT hZ hS (kz_F (hD.perm (zl2 (G := G) (ou := ou) (x := x) (u := u) (mo := mo) (q := q) (fo := fo) (C := C) (R := R))) hS hA) hns⟩ rfl rfl hl.1 rfl (lv_room (Nat.le_of_ble_eq_true rfl)) dL_law_170 ⟨by show _ ≤ 601024; omega, by show _ ≤ 7293034; omega⟩) hP hD hS hA (zl2 (G := G) (ou := ou) (x := x) (u := u) (mo := mo) (q := q) (fo := fo) (C := C) (R := R)) (fun _ => zl2b) (fun r9 u0 H locs hp hP hD hS => ?_)
  have hp := hp.symm; subst hp
  refine lv_istore hx hb dL_law_173 hl (by decide) rfl (fun ls hl => ?_)
  have hl : lv_has ls 7 [(5, .int k3), (4, .int (nI i)), (3, .ref ou), (2, .ref mo), (1, .ref x), (0, .ref b)] := hl
  refine lv_aload_n hx hb dL_law_175 rfl (lv_at hl 3 rfl) ?_
  obtain ⟨R4, r5, hg, hE⟩ := hE
  have hPc := (hP.perm (zl3 (G := G) (ou := ou) (x := x) (u := u) (mo := mo) (q := q) (fo := f2) (C := C1) (R := R))).appR; have hDc := (hD.perm (zl3 (G := G) (ou := ou) (x := x) (u := u) (mo := mo) (q := q) (fo := f2) (C := C1) (R := R))).appR
  refine kz_i (w2 := fun _ => lW G ou x u mo q f2 C1 R4) (va_runV (As := []) (rest := []) F.1 (e_compile l G mo q R R4 r5 hg _) (cwV 0 hts (aw_V w_1007 w_1008 w_1009 w_6 w_1010) rfl rfl rfl (by decide +kernel) ⟨by decide, by decide⟩) ⟨cS_blind, va_recv (q := (RX6, TX6, 48)) (ci := 6) (q0 := 0) hK.1 hPc rfl rfl, cS_pre hPc hDc hK⟩ rfl rfl hl.1 rfl (lv_room (Nat.le_of_ble_eq_true rfl)) dL_law_176 ⟨by show _ ≤ 601024; omega, by show _ ≤ 7293034; omega⟩) hP hD hS hA (zl3 (G := G) (ou := ou) (x := x) (u := u) (mo := mo) (q := q) (fo := f2) (C := C1) (R := R)) (fun _ => zl3b) (fun r9 u0 H locs hp hP hD hS => ?_)
  have hp := hp.symm; subst hp
  refine lv_istore hx hb dL_law_179 hl (by decide) rfl (fun ls hl => ?_)
  have hl : lv_has ls 7 [(6, .int r5), (5, .int k3), (4, .int (nI i)), (3, .ref ou), (2, .ref mo), (1, .ref x), (0, .ref b)] := hl
  refine lv_goto (tgt := 425) hx hb dL_law_181 (by decide) ?_
  obtain ⟨rfl, rfl, rfl⟩ := hE
  refine W.widen (k := cells + 2) (n := slots + 16) (by omega) (by omega) ?_
  exact kk _ _ _ (lv_sub hl [2, 3, 4, 5, 6] rfl) hP hD hS

def K_matches (C : CS) (R : RS) (fo : Nat → Int64) (a1 a2 : Int32) (C' : CS) (R' : RS) (fo' : Nat → Int64) : Prop := ∃ (C1 : CS) (f2 : Nat → Int64) (k3 : Int32), E_l_matches C fo C1 f2 k3 ∧ (∃ (R4 : RS) (r5 : Int32), E_matches R R4 r5 ∧ (C' = C1 ∧ R' = R4 ∧ fo' = f2))
set_option maxHeartbeats 4000000 in
set_option maxRecDepth 100000 in
theorem k_matches {p : Program} {l : Launch} {e : Env} {s : State} {m : MethodId} {below : List Frame} {meth : Method} {c : Code} {G : PG} {Z : ZZ} {b L : Nat} {xs : Nat → Int32} {A : Nat → Prop} (hst : l.stackTraces = false) (F : CallFix p m c cL_law 7 s #[Value.ref b] aW RL ∧ True) (hX : va_X b L xs s s.heap) (hbl : b < s.heap.size) (hK : pg_K G s) (hT : pg_T s) (hZ : zF Z A s s.heap) (hA : ∀ q, s.heap.size ≤ q → A q) (hAo : ∀ q, q < s.heap.size → ¬ A q) (hL : L ≤ 1536) {i : Nat} (hi : i + 3 ≤ L) (x mo ou : Nat) (u q : Nat → Nat) {a1 a2 : Int32} (ha1 : xs (i + 1) = a1) (ha2 : xs (i + 2) = a2) (C : CS) (R : RS) (fo : Nat → Int64) (C' : CS) (R' : RS) (fo' : Nat → Int64) (hE : K_matches C R fo a1 a2 C' R' fo') {H : Heap} {locs : List Loc} {ls : Array Slot} {cells slots : Nat} (hcs : cells + 2 ≤ 601024) (hss : slots + 16 ≤ 7293034) (hl : lv_has ls 7 [(4, .int (nI i)), (3, .ref ou), (2, .ref mo), (1, .ref x), (0, .ref b)]) (hP : va_P G.1 vwCl (lW G ou x u mo q fo C R) H) (hD : va_D A (lW G ou x u mo q fo C R)) (hS : va_S A s.heap H locs) {Q : State → Prop} (kk : ∀ (H : Heap) (locs : List Loc) (ls : Array Slot), lv_has ls 7 [(4, .int (nI i)), (3, .ref ou), (2, .ref mo), (1, .ref x), (0, .ref b)] → va_P G.1 vwCl (lW G ou x u mo q fo' C' R') H → va_D A (lW G ou x u mo q fo' C' R') → va_S A s.heap H locs → W p l e room_1 s m #[Value.ref b] below meth c H locs (cells + 2) (slots + 16) Q (F0 m 425 ls [])) : W p l e room_1 s m #[Value.ref b] below meth c H locs cells slots Q (F0 m 184 ls []) := by
  have hx := F.1.1; have hb := F.1.2.1; have hml := F.1.2.2.1; have hts := F.1.2.2.2.2
  have hown : s.vm.findClass RL = some m.cls := F.1.2.2.2.1
  have hbA : ¬ A b := hAo b hbl
  have hns : ∀ q, A q → ∀ cell, s.heap[q]? = some cell → cell.vm.isStatics = false := fun q h cell hc => absurd h (hAo q (Array.getElem?_eq_some_iff.mp hc).1)
  unfold K_matches at hE
  refine lv_aload_n hx hb dL_law_184 rfl (lv_at hl 3 rfl) ?_
  refine lv_aload_n hx hb dL_law_185 rfl (lv_at hl 1 rfl) ?_
  obtain ⟨C1, f2, k3, hg, hE⟩ := hE
  have hPc := (hP.perm (zl2 (G := G) (ou := ou) (x := x) (u := u) (mo := mo) (q := q) (fo := fo) (C := C) (R := R))).appR; have hDc := (hD.perm (zl2 (G := G) (ou := ou) (x := x) (u := u) (mo := mo) (q := q) (fo := fo) (C := C) (R := R))).appR
  refine kz_i (w2 := fun _ => lW G ou x u mo q f2 C1 R) (kw_S (n := 2) (As := [.ref x, .ref ou]) (rest := []) F.1 (l_matches_y l hst G Z x u ou C fo C1 f2 k3 hg _) w_596 w_594 w_595 w_0 rfl rfl (by decide +kernel) ⟨by decide, by decide⟩ ⟨tS_blind, tS_pre hPc hDc hK hT hZ hS (kz_F (hD.perm (zl2 (G := G) (ou := ou) (x := x) (u := u) (mo := mo) (q := q) (fo := fo) (C := C) (R := R))) hS hA) hns⟩ rfl rfl hl.1 rfl (lv_room (Nat.le_of_ble_eq_true rfl)) dL_law_186 ⟨by show _ ≤ 601024; omega, by show _ ≤ 7293034; omega⟩) hP hD hS hA (zl2 (G := G) (ou := ou) (x := x) (u := u) (mo := mo) (q := q) (fo := fo) (C := C) (R := R)) (fun _ => zl2b) (fun r9 u0 H locs hp hP hD hS => ?_)
  have hp := hp.symm; subst hp
  refine lv_istore hx hb dL_law_189 hl (by decide) rfl (fun ls hl => ?_)
  have hl : lv_has ls 7 [(5, .int k3), (4, .int (nI i)), (3, .ref ou), (2, .ref mo), (1, .ref x), (0, .ref b)] := hl
  refine lv_aload_n hx hb dL_law_191 rfl (lv_at hl 3 rfl) ?_
  obtain ⟨R4, r5, hg, hE⟩ := hE
  have hPc := (hP.perm (zl3 (G := G) (ou := ou) (x := x) (u := u) (mo := mo) (q := q) (fo := f2) (C := C1) (R := R))).appR; have hDc := (hD.perm (zl3 (G := G) (ou := ou) (x := x) (u := u) (mo := mo) (q := q) (fo := f2) (C := C1) (R := R))).appR
  refine kz_i (w2 := fun _ => lW G ou x u mo q f2 C1 R4) (va_runV (As := []) (rest := []) F.1 (e_matches l G mo q R R4 r5 hg _) (cwV 0 hts (aw_V w_1096 w_1097 w_1098 w_6 w_1099) rfl rfl rfl (by decide +kernel) ⟨by decide, by decide⟩) ⟨cS_blind, va_recv (q := (RX6, TX6, 48)) (ci := 6) (q0 := 0) hK.1 hPc rfl rfl, cS_pre hPc hDc hK⟩ rfl rfl hl.1 rfl (lv_room (Nat.le_of_ble_eq_true rfl)) dL_law_192 ⟨by show _ ≤ 601024; omega, by show _ ≤ 7293034; omega⟩) hP hD hS hA (zl3 (G := G) (ou := ou) (x := x) (u := u) (mo := mo) (q := q) (fo := f2) (C := C1) (R := R)) (fun _ => zl3b) (fun r9 u0 H locs hp hP hD hS => ?_)
  have hp := hp.symm; subst hp
  refine lv_istore hx hb dL_law_195 hl (by decide) rfl (fun ls hl => ?_)
  have hl : lv_has ls 7 [(6, .int r5), (5, .int k3), (4, .int (nI i)), (3, .ref ou), (2, .ref mo), (1, .ref x), (0, .ref b)] := hl
  refine lv_goto (tgt := 425) hx hb dL_law_197 (by decide) ?_
  obtain ⟨rfl, rfl, rfl⟩ := hE
  refine W.widen (k := cells + 2) (n := slots + 16) (by omega) (by omega) ?_
  exact kk _ _ _ (lv_sub hl [2, 3, 4, 5, 6] rfl) hP hD hS

def K_looking (C : CS) (R : RS) (fo : Nat → Int64) (a1 a2 : Int32) (C' : CS) (R' : RS) (fo' : Nat → Int64) : Prop := ∃ (C1 : CS) (f2 : Nat → Int64) (k3 : Int32), E_l_looking C fo C1 f2 k3 ∧ (∃ (R4 : RS) (r5 : Int32), E_looking R R4 r5 ∧ (C' = C1 ∧ R' = R4 ∧ fo' = f2))
set_option maxHeartbeats 4000000 in
set_option maxRecDepth 100000 in
theorem k_looking {p : Program} {l : Launch} {e : Env} {s : State} {m : MethodId} {below : List Frame} {meth : Method} {c : Code} {G : PG} {Z : ZZ} {b L : Nat} {xs : Nat → Int32} {A : Nat → Prop} (hst : l.stackTraces = false) (F : CallFix p m c cL_law 7 s #[Value.ref b] aW RL ∧ True) (hX : va_X b L xs s s.heap) (hbl : b < s.heap.size) (hK : pg_K G s) (hT : pg_T s) (hZ : zF Z A s s.heap) (hA : ∀ q, s.heap.size ≤ q → A q) (hAo : ∀ q, q < s.heap.size → ¬ A q) (hL : L ≤ 1536) {i : Nat} (hi : i + 3 ≤ L) (x mo ou : Nat) (u q : Nat → Nat) {a1 a2 : Int32} (ha1 : xs (i + 1) = a1) (ha2 : xs (i + 2) = a2) (C : CS) (R : RS) (fo : Nat → Int64) (C' : CS) (R' : RS) (fo' : Nat → Int64) (hE : K_looking C R fo a1 a2 C' R' fo') {H : Heap} {locs : List Loc} {ls : Array Slot} {cells slots : Nat} (hcs : cells + 2 ≤ 601024) (hss : slots + 16 ≤ 7293034) (hl : lv_has ls 7 [(4, .int (nI i)), (3, .ref ou), (2, .ref mo), (1, .ref x), (0, .ref b)]) (hP : va_P G.1 vwCl (lW G ou x u mo q fo C R) H) (hD : va_D A (lW G ou x u mo q fo C R)) (hS : va_S A s.heap H locs) {Q : State → Prop} (kk : ∀ (H : Heap) (locs : List Loc) (ls : Array Slot), lv_has ls 7 [(4, .int (nI i)), (3, .ref ou), (2, .ref mo), (1, .ref x), (0, .ref b)] → va_P G.1 vwCl (lW G ou x u mo q fo' C' R') H → va_D A (lW G ou x u mo q fo' C' R') → va_S A s.heap H locs → W p l e room_1 s m #[Value.ref b] below meth c H locs (cells + 2) (slots + 16) Q (F0 m 425 ls [])) : W p l e room_1 s m #[Value.ref b] below meth c H locs cells slots Q (F0 m 200 ls []) := by
  have hx := F.1.1; have hb := F.1.2.1; have hml := F.1.2.2.1; have hts := F.1.2.2.2.2
  have hown : s.vm.findClass RL = some m.cls := F.1.2.2.2.1
  have hbA : ¬ A b := hAo b hbl
  have hns : ∀ q, A q → ∀ cell, s.heap[q]? = some cell → cell.vm.isStatics = false := fun q h cell hc => absurd h (hAo q (Array.getElem?_eq_some_iff.mp hc).1)
  unfold K_looking at hE
  refine lv_aload_n hx hb dL_law_200 rfl (lv_at hl 3 rfl) ?_
  refine lv_aload_n hx hb dL_law_201 rfl (lv_at hl 1 rfl) ?_
  obtain ⟨C1, f2, k3, hg, hE⟩ := hE
  have hPc := (hP.perm (zl2 (G := G) (ou := ou) (x := x) (u := u) (mo := mo) (q := q) (fo := fo) (C := C) (R := R))).appR; have hDc := (hD.perm (zl2 (G := G) (ou := ou) (x := x) (u := u) (mo := mo) (q := q) (fo := fo) (C := C) (R := R))).appR
  refine kz_i (w2 := fun _ => lW G ou x u mo q f2 C1 R) (kw_S (n := 2) (As := [.ref x, .ref ou]) (rest := []) F.1 (l_looking_y l hst G Z x u ou C fo C1 f2 k3 hg _) w_730 w_728 w_729 w_0 rfl rfl (by decide +kernel) ⟨by decide, by decide⟩ ⟨tS_blind, tS_pre hPc hDc hK hT hZ hS (kz_F (hD.perm (zl2 (G := G) (ou := ou) (x := x) (u := u) (mo := mo) (q := q) (fo := fo) (C := C) (R := R))) hS hA) hns⟩ rfl rfl hl.1 rfl (lv_room (Nat.le_of_ble_eq_true rfl)) dL_law_202 ⟨by show _ ≤ 601024; omega, by show _ ≤ 7293034; omega⟩) hP hD hS hA (zl2 (G := G) (ou := ou) (x := x) (u := u) (mo := mo) (q := q) (fo := fo) (C := C) (R := R)) (fun _ => zl2b) (fun r9 u0 H locs hp hP hD hS => ?_)
  have hp := hp.symm; subst hp
  refine lv_istore hx hb dL_law_205 hl (by decide) rfl (fun ls hl => ?_)
  have hl : lv_has ls 7 [(5, .int k3), (4, .int (nI i)), (3, .ref ou), (2, .ref mo), (1, .ref x), (0, .ref b)] := hl
  refine lv_aload_n hx hb dL_law_207 rfl (lv_at hl 3 rfl) ?_
  obtain ⟨R4, r5, hg, hE⟩ := hE
  have hPc := (hP.perm (zl3 (G := G) (ou := ou) (x := x) (u := u) (mo := mo) (q := q) (fo := f2) (C := C1) (R := R))).appR; have hDc := (hD.perm (zl3 (G := G) (ou := ou) (x := x) (u := u) (mo := mo) (q := q) (fo := f2) (C := C1) (R := R))).appR
  refine kz_i (w2 := fun _ => lW G ou x u mo q f2 C1 R4) (va_runV (As := []) (rest := []) F.1 (e_looking l G mo q R R4 r5 hg _) (cwV 0 hts (aw_V w_1188 w_1189 w_1190 w_6 w_1191) rfl rfl rfl (by decide +kernel) ⟨by decide, by decide⟩) ⟨cS_blind, va_recv (q := (RX6, TX6, 48)) (ci := 6) (q0 := 0) hK.1 hPc rfl rfl, cS_pre hPc hDc hK⟩ rfl rfl hl.1 rfl (lv_room (Nat.le_of_ble_eq_true rfl)) dL_law_208 ⟨by show _ ≤ 601024; omega, by show _ ≤ 7293034; omega⟩) hP hD hS hA (zl3 (G := G) (ou := ou) (x := x) (u := u) (mo := mo) (q := q) (fo := f2) (C := C1) (R := R)) (fun _ => zl3b) (fun r9 u0 H locs hp hP hD hS => ?_)
  have hp := hp.symm; subst hp
  refine lv_istore hx hb dL_law_211 hl (by decide) rfl (fun ls hl => ?_)
  have hl : lv_has ls 7 [(6, .int r5), (5, .int k3), (4, .int (nI i)), (3, .ref ou), (2, .ref mo), (1, .ref x), (0, .ref b)] := hl
  refine lv_goto (tgt := 425) hx hb dL_law_213 (by decide) ?_
  obtain ⟨rfl, rfl, rfl⟩ := hE
  refine W.widen (k := cells + 2) (n := slots + 16) (by omega) (by omega) ?_
  exact kk _ _ _ (lv_sub hl [2, 3, 4, 5, 6] rfl) hP hD hS

def K_find (C : CS) (R : RS) (fo : Nat → Int64) (a1 a2 : Int32) (C' : CS) (R' : RS) (fo' : Nat → Int64) : Prop := ∃ (C1 : CS) (f2 : Nat → Int64) (k3 : Int32), E_l_find C fo a1 C1 f2 k3 ∧ (∃ (R4 : RS) (r5 : Int32), E_find R a1 R4 r5 ∧ (C' = C1 ∧ R' = R4 ∧ fo' = f2))
set_option maxHeartbeats 4000000 in
set_option maxRecDepth 100000 in
theorem k_find {p : Program} {l : Launch} {e : Env} {s : State} {m : MethodId} {below : List Frame} {meth : Method} {c : Code} {G : PG} {Z : ZZ} {b L : Nat} {xs : Nat → Int32} {A : Nat → Prop} (hst : l.stackTraces = false) (F : CallFix p m c cL_law 7 s #[Value.ref b] aW RL ∧ True) (hX : va_X b L xs s s.heap) (hbl : b < s.heap.size) (hK : pg_K G s) (hT : pg_T s) (hZ : zF Z A s s.heap) (hA : ∀ q, s.heap.size ≤ q → A q) (hAo : ∀ q, q < s.heap.size → ¬ A q) (hL : L ≤ 1536) {i : Nat} (hi : i + 3 ≤ L) (x mo ou : Nat) (u q : Nat → Nat) {a1 a2 : Int32} (ha1 : xs (i + 1) = a1) (ha2 : xs (i + 2) = a2) (C : CS) (R : RS) (fo : Nat → Int64) (C' : CS) (R' : RS) (fo' : Nat → Int64) (hE : K_find C R fo a1 a2 C' R' fo') {H : Heap} {locs : List Loc} {ls : Array Slot} {cells slots : Nat} (hcs : cells + 2 ≤ 601024) (hss : slots + 16 ≤ 7293034) (hl : lv_has ls 7 [(4, .int (nI i)), (3, .ref ou), (2, .ref mo), (1, .ref x), (0, .ref b)]) (hP : va_P G.1 vwCl (lW G ou x u mo q fo C R) H) (hD : va_D A (lW G ou x u mo q fo C R)) (hS : va_S A s.heap H locs) {Q : State → Prop} (kk : ∀ (H : Heap) (locs : List Loc) (ls : Array Slot), lv_has ls 7 [(4, .int (nI i)), (3, .ref ou), (2, .ref mo), (1, .ref x), (0, .ref b)] → va_P G.1 vwCl (lW G ou x u mo q fo' C' R') H → va_D A (lW G ou x u mo q fo' C' R') → va_S A s.heap H locs → W p l e room_1 s m #[Value.ref b] below meth c H locs (cells + 2) (slots + 16) Q (F0 m 425 ls [])) : W p l e room_1 s m #[Value.ref b] below meth c H locs cells slots Q (F0 m 216 ls []) := by
  have hx := F.1.1; have hb := F.1.2.1; have hml := F.1.2.2.1; have hts := F.1.2.2.2.2
  have hown : s.vm.findClass RL = some m.cls := F.1.2.2.2.1
  have hbA : ¬ A b := hAo b hbl
  have hns : ∀ q, A q → ∀ cell, s.heap[q]? = some cell → cell.vm.isStatics = false := fun q h cell hc => absurd h (hAo q (Array.getElem?_eq_some_iff.mp hc).1)
  unfold K_find at hE
  refine lv_aload_n hx hb dL_law_216 rfl (lv_at hl 3 rfl) ?_
  refine lv_aload_n hx hb dL_law_217 rfl (lv_at hl 4 rfl) ?_
  refine lv_iload hx hb dL_law_218 (lv_at hl 0 rfl) ?_
  refine lv_iconst (v := 1) hx hb dL_law_220 (by decide) ?_
  refine lv_iadd hx hb dL_law_221 ?_
  refine tp_i (nI (i + 1)) nI_p1.symm ?_
  refine va_sld (A := A) hx hb hX hbl hbA hS (vp_in_nI (n := i + 1) (by omega) (by omega)) dL_law_222 ?_
  refine tp_i a1 (by rw [nI_clamp (by omega)]; exact ha1) ?_
  refine lv_aload_n hx hb dL_law_223 rfl (lv_at hl 1 rfl) ?_
  obtain ⟨C1, f2, k3, hg, hE⟩ := hE
  have hPc := (hP.perm (zl2 (G := G) (ou := ou) (x := x) (u := u) (mo := mo) (q := q) (fo := fo) (C := C) (R := R))).appR; have hDc := (hD.perm (zl2 (G := G) (ou := ou) (x := x) (u := u) (mo := mo) (q := q) (fo := fo) (C := C) (R := R))).appR
  refine kz_i (w2 := fun _ => lW G ou x u mo q f2 C1 R) (kw_S (n := 3) (As := [.ref x, .int a1, .ref ou]) (rest := []) F.1 (l_find_y l hst G Z x u ou C fo a1 C1 f2 k3 hg _) w_737 w_735 w_736 w_0 rfl rfl (by decide +kernel) ⟨by decide, by decide⟩ ⟨tS_blind, tS_pre hPc hDc hK hT hZ hS (kz_F (hD.perm (zl2 (G := G) (ou := ou) (x := x) (u := u) (mo := mo) (q := q) (fo := fo) (C := C) (R := R))) hS hA) hns⟩ rfl rfl hl.1 rfl (lv_room (Nat.le_of_ble_eq_true rfl)) dL_law_224 ⟨by show _ ≤ 601024; omega, by show _ ≤ 7293034; omega⟩) hP hD hS hA (zl2 (G := G) (ou := ou) (x := x) (u := u) (mo := mo) (q := q) (fo := fo) (C := C) (R := R)) (fun _ => zl2b) (fun r9 u0 H locs hp hP hD hS => ?_)
  have hp := hp.symm; subst hp
  refine lv_istore hx hb dL_law_227 hl (by decide) rfl (fun ls hl => ?_)
  have hl : lv_has ls 7 [(5, .int k3), (4, .int (nI i)), (3, .ref ou), (2, .ref mo), (1, .ref x), (0, .ref b)] := hl
  refine lv_aload_n hx hb dL_law_229 rfl (lv_at hl 3 rfl) ?_
  refine lv_aload_n hx hb dL_law_230 rfl (lv_at hl 5 rfl) ?_
  refine lv_iload hx hb dL_law_231 (lv_at hl 1 rfl) ?_
  refine lv_iconst (v := 1) hx hb dL_law_233 (by decide) ?_
  refine lv_iadd hx hb dL_law_234 ?_
  refine tp_i (nI (i + 1)) nI_p1.symm ?_
  refine va_sld (A := A) hx hb hX hbl hbA hS (vp_in_nI (n := i + 1) (by omega) (by omega)) dL_law_235 ?_
  refine tp_i a1 (by rw [nI_clamp (by omega)]; exact ha1) ?_
  obtain ⟨R4, r5, hg, hE⟩ := hE
  have hPc := (hP.perm (zl3 (G := G) (ou := ou) (x := x) (u := u) (mo := mo) (q := q) (fo := f2) (C := C1) (R := R))).appR; have hDc := (hD.perm (zl3 (G := G) (ou := ou) (x := x) (u := u) (mo := mo) (q := q) (fo := f2) (C := C1) (R := R))).appR
  refine kz_i (w2 := fun _ => lW G ou x u mo q f2 C1 R4) (va_runV (As := [.int a1]) (rest := []) F.1 (e_find l G mo q R a1 R4 r5 hg _) (cwV 1 hts (aw_V w_1192 w_1193 w_1194 w_6 w_1195) rfl rfl rfl (by decide +kernel) ⟨by decide, by decide⟩) ⟨cS_blind, va_recv (q := (RX6, TX6, 48)) (ci := 6) (q0 := 0) hK.1 hPc rfl rfl, cS_pre hPc hDc hK⟩ rfl rfl hl.1 rfl (lv_room (Nat.le_of_ble_eq_true rfl)) dL_law_236 ⟨by show _ ≤ 601024; omega, by show _ ≤ 7293034; omega⟩) hP hD hS hA (zl3 (G := G) (ou := ou) (x := x) (u := u) (mo := mo) (q := q) (fo := f2) (C := C1) (R := R)) (fun _ => zl3b) (fun r9 u0 H locs hp hP hD hS => ?_)
  have hp := hp.symm; subst hp
  refine lv_istore hx hb dL_law_239 hl (by decide) rfl (fun ls hl => ?_)
  have hl : lv_has ls 7 [(6, .int r5), (5, .int k3), (4, .int (nI i)), (3, .ref ou), (2, .ref mo), (1, .ref x), (0, .ref b)] := hl
  refine lv_goto (tgt := 425) hx hb dL_law_241 (by decide) ?_
  obtain ⟨rfl, rfl, rfl⟩ := hE
  refine W.widen (k := cells + 2) (n := slots + 16) (by omega) (by omega) ?_
  exact kk _ _ _ (lv_sub hl [2, 3, 4, 5, 6] rfl) hP hD hS

def K_start (C : CS) (R : RS) (fo : Nat → Int64) (a1 a2 : Int32) (C' : CS) (R' : RS) (fo' : Nat → Int64) : Prop := ∃ (C1 : CS) (f2 : Nat → Int64) (k3 : Int32), E_l_start C fo a1 C1 f2 k3 ∧ (∃ (R4 : RS) (r5 : Int32), E_start R a1 R4 r5 ∧ (C' = C1 ∧ R' = R4 ∧ fo' = f2))
set_option maxHeartbeats 4000000 in
set_option maxRecDepth 100000 in
theorem k_start {p : Program} {l : Launch} {e : Env} {s : State} {m : MethodId} {below : List Frame} {meth : Method} {c : Code} {G : PG} {Z : ZZ} {b L : Nat} {xs : Nat → Int32} {A : Nat → Prop} (hst : l.stackTraces = false) (F : CallFix p m c cL_law 7 s #[Value.ref b] aW RL ∧ True) (hX : va_X b L xs s s.heap) (hbl : b < s.heap.size) (hK : pg_K G s) (hT : pg_T s) (hZ : zF Z A s s.heap) (hA : ∀ q, s.heap.size ≤ q → A q) (hAo : ∀ q, q < s.heap.size → ¬ A q) (hL : L ≤ 1536) {i : Nat} (hi : i + 3 ≤ L) (x mo ou : Nat) (u q : Nat → Nat) {a1 a2 : Int32} (ha1 : xs (i + 1) = a1) (ha2 : xs (i + 2) = a2) (C : CS) (R : RS) (fo : Nat → Int64) (C' : CS) (R' : RS) (fo' : Nat → Int64) (hE : K_start C R fo a1 a2 C' R' fo') {H : Heap} {locs : List Loc} {ls : Array Slot} {cells slots : Nat} (hcs : cells + 2 ≤ 601024) (hss : slots + 16 ≤ 7293034) (hl : lv_has ls 7 [(4, .int (nI i)), (3, .ref ou), (2, .ref mo), (1, .ref x), (0, .ref b)]) (hP : va_P G.1 vwCl (lW G ou x u mo q fo C R) H) (hD : va_D A (lW G ou x u mo q fo C R)) (hS : va_S A s.heap H locs) {Q : State → Prop} (kk : ∀ (H : Heap) (locs : List Loc) (ls : Array Slot), lv_has ls 7 [(4, .int (nI i)), (3, .ref ou), (2, .ref mo), (1, .ref x), (0, .ref b)] → va_P G.1 vwCl (lW G ou x u mo q fo' C' R') H → va_D A (lW G ou x u mo q fo' C' R') → va_S A s.heap H locs → W p l e room_1 s m #[Value.ref b] below meth c H locs (cells + 2) (slots + 16) Q (F0 m 425 ls [])) : W p l e room_1 s m #[Value.ref b] below meth c H locs cells slots Q (F0 m 244 ls []) := by
  have hx := F.1.1; have hb := F.1.2.1; have hml := F.1.2.2.1; have hts := F.1.2.2.2.2
  have hown : s.vm.findClass RL = some m.cls := F.1.2.2.2.1
  have hbA : ¬ A b := hAo b hbl
  have hns : ∀ q, A q → ∀ cell, s.heap[q]? = some cell → cell.vm.isStatics = false := fun q h cell hc => absurd h (hAo q (Array.getElem?_eq_some_iff.mp hc).1)
  unfold K_start at hE
  refine lv_aload_n hx hb dL_law_244 rfl (lv_at hl 3 rfl) ?_
  refine lv_aload_n hx hb dL_law_245 rfl (lv_at hl 4 rfl) ?_
  refine lv_iload hx hb dL_law_246 (lv_at hl 0 rfl) ?_
  refine lv_iconst (v := 1) hx hb dL_law_248 (by decide) ?_
  refine lv_iadd hx hb dL_law_249 ?_
  refine tp_i (nI (i + 1)) nI_p1.symm ?_
  refine va_sld (A := A) hx hb hX hbl hbA hS (vp_in_nI (n := i + 1) (by omega) (by omega)) dL_law_250 ?_
  refine tp_i a1 (by rw [nI_clamp (by omega)]; exact ha1) ?_
  refine lv_aload_n hx hb dL_law_251 rfl (lv_at hl 1 rfl) ?_
  obtain ⟨C1, f2, k3, hg, hE⟩ := hE
  have hPc := (hP.perm (zl2 (G := G) (ou := ou) (x := x) (u := u) (mo := mo) (q := q) (fo := fo) (C := C) (R := R))).appR; have hDc := (hD.perm (zl2 (G := G) (ou := ou) (x := x) (u := u) (mo := mo) (q := q) (fo := fo) (C := C) (R := R))).appR
  refine kz_i (w2 := fun _ => lW G ou x u mo q f2 C1 R) (kw_S (n := 3) (As := [.ref x, .int a1, .ref ou]) (rest := []) F.1 (l_start_y l hst G Z x u ou C fo a1 C1 f2 k3 hg _) w_760 w_758 w_759 w_0 rfl rfl (by decide +kernel) ⟨by decide, by decide⟩ ⟨tS_blind, tS_pre hPc hDc hK hT hZ hS (kz_F (hD.perm (zl2 (G := G) (ou := ou) (x := x) (u := u) (mo := mo) (q := q) (fo := fo) (C := C) (R := R))) hS hA) hns⟩ rfl rfl hl.1 rfl (lv_room (Nat.le_of_ble_eq_true rfl)) dL_law_252 ⟨by show _ ≤ 601024; omega, by show _ ≤ 7293034; omega⟩) hP hD hS hA (zl2 (G := G) (ou := ou) (x := x) (u := u) (mo := mo) (q := q) (fo := fo) (C := C) (R := R)) (fun _ => zl2b) (fun r9 u0 H locs hp hP hD hS => ?_)
  have hp := hp.symm; subst hp
  refine lv_istore hx hb dL_law_255 hl (by decide) rfl (fun ls hl => ?_)
  have hl : lv_has ls 7 [(5, .int k3), (4, .int (nI i)), (3, .ref ou), (2, .ref mo), (1, .ref x), (0, .ref b)] := hl
  refine lv_aload_n hx hb dL_law_257 rfl (lv_at hl 3 rfl) ?_
  refine lv_aload_n hx hb dL_law_258 rfl (lv_at hl 5 rfl) ?_
  refine lv_iload hx hb dL_law_259 (lv_at hl 1 rfl) ?_
  refine lv_iconst (v := 1) hx hb dL_law_261 (by decide) ?_
  refine lv_iadd hx hb dL_law_262 ?_
  refine tp_i (nI (i + 1)) nI_p1.symm ?_
  refine va_sld (A := A) hx hb hX hbl hbA hS (vp_in_nI (n := i + 1) (by omega) (by omega)) dL_law_263 ?_
  refine tp_i a1 (by rw [nI_clamp (by omega)]; exact ha1) ?_
  obtain ⟨R4, r5, hg, hE⟩ := hE
  have hPc := (hP.perm (zl3 (G := G) (ou := ou) (x := x) (u := u) (mo := mo) (q := q) (fo := f2) (C := C1) (R := R))).appR; have hDc := (hD.perm (zl3 (G := G) (ou := ou) (x := x) (u := u) (mo := mo) (q := q) (fo := f2) (C := C1) (R := R))).appR
  refine kz_i (w2 := fun _ => lW G ou x u mo q f2 C1 R4) (va_runV (As := [.int a1]) (rest := []) F.1 (e_start l G mo q R a1 R4 r5 hg _) (cwV 1 hts (aw_V w_1200 w_1201 w_1202 w_6 w_1203) rfl rfl rfl (by decide +kernel) ⟨by decide, by decide⟩) ⟨cS_blind, va_recv (q := (RX6, TX6, 48)) (ci := 6) (q0 := 0) hK.1 hPc rfl rfl, cS_pre hPc hDc hK⟩ rfl rfl hl.1 rfl (lv_room (Nat.le_of_ble_eq_true rfl)) dL_law_264 ⟨by show _ ≤ 601024; omega, by show _ ≤ 7293034; omega⟩) hP hD hS hA (zl3 (G := G) (ou := ou) (x := x) (u := u) (mo := mo) (q := q) (fo := f2) (C := C1) (R := R)) (fun _ => zl3b) (fun r9 u0 H locs hp hP hD hS => ?_)
  have hp := hp.symm; subst hp
  refine lv_istore hx hb dL_law_267 hl (by decide) rfl (fun ls hl => ?_)
  have hl : lv_has ls 7 [(6, .int r5), (5, .int k3), (4, .int (nI i)), (3, .ref ou), (2, .ref mo), (1, .ref x), (0, .ref b)] := hl
  refine lv_goto (tgt := 425) hx hb dL_law_269 (by decide) ?_
  obtain ⟨rfl, rfl, rfl⟩ := hE
  refine W.widen (k := cells + 2) (n := slots + 16) (by omega) (by omega) ?_
  exact kk _ _ _ (lv_sub hl [2, 3, 4, 5, 6] rfl) hP hD hS

def K_end (C : CS) (R : RS) (fo : Nat → Int64) (a1 a2 : Int32) (C' : CS) (R' : RS) (fo' : Nat → Int64) : Prop := ∃ (C1 : CS) (f2 : Nat → Int64) (k3 : Int32), E_l_end C fo a1 C1 f2 k3 ∧ (∃ (R4 : RS) (r5 : Int32), E_end R a1 R4 r5 ∧ (C' = C1 ∧ R' = R4 ∧ fo' = f2))
set_option maxHeartbeats 4000000 in
set_option maxRecDepth 100000 in
theorem k_end {p : Program} {l : Launch} {e : Env} {s : State} {m : MethodId} {below : List Frame} {meth : Method} {c : Code} {G : PG} {Z : ZZ} {b L : Nat} {xs : Nat → Int32} {A : Nat → Prop} (hst : l.stackTraces = false) (F : CallFix p m c cL_law 7 s #[Value.ref b] aW RL ∧ True) (hX : va_X b L xs s s.heap) (hbl : b < s.heap.size) (hK : pg_K G s) (hT : pg_T s) (hZ : zF Z A s s.heap) (hA : ∀ q, s.heap.size ≤ q → A q) (hAo : ∀ q, q < s.heap.size → ¬ A q) (hL : L ≤ 1536) {i : Nat} (hi : i + 3 ≤ L) (x mo ou : Nat) (u q : Nat → Nat) {a1 a2 : Int32} (ha1 : xs (i + 1) = a1) (ha2 : xs (i + 2) = a2) (C : CS) (R : RS) (fo : Nat → Int64) (C' : CS) (R' : RS) (fo' : Nat → Int64) (hE : K_end C R fo a1 a2 C' R' fo') {H : Heap} {locs : List Loc} {ls : Array Slot} {cells slots : Nat} (hcs : cells + 2 ≤ 601024) (hss : slots + 16 ≤ 7293034) (hl : lv_has ls 7 [(4, .int (nI i)), (3, .ref ou), (2, .ref mo), (1, .ref x), (0, .ref b)]) (hP : va_P G.1 vwCl (lW G ou x u mo q fo C R) H) (hD : va_D A (lW G ou x u mo q fo C R)) (hS : va_S A s.heap H locs) {Q : State → Prop} (kk : ∀ (H : Heap) (locs : List Loc) (ls : Array Slot), lv_has ls 7 [(4, .int (nI i)), (3, .ref ou), (2, .ref mo), (1, .ref x), (0, .ref b)] → va_P G.1 vwCl (lW G ou x u mo q fo' C' R') H → va_D A (lW G ou x u mo q fo' C' R') → va_S A s.heap H locs → W p l e room_1 s m #[Value.ref b] below meth c H locs (cells + 2) (slots + 16) Q (F0 m 425 ls [])) : W p l e room_1 s m #[Value.ref b] below meth c H locs cells slots Q (F0 m 272 ls []) := by
  have hx := F.1.1; have hb := F.1.2.1; have hml := F.1.2.2.1; have hts := F.1.2.2.2.2
  have hown : s.vm.findClass RL = some m.cls := F.1.2.2.2.1
  have hbA : ¬ A b := hAo b hbl
  have hns : ∀ q, A q → ∀ cell, s.heap[q]? = some cell → cell.vm.isStatics = false := fun q h cell hc => absurd h (hAo q (Array.getElem?_eq_some_iff.mp hc).1)
  unfold K_end at hE
  refine lv_aload_n hx hb dL_law_272 rfl (lv_at hl 3 rfl) ?_
  refine lv_aload_n hx hb dL_law_273 rfl (lv_at hl 4 rfl) ?_
  refine lv_iload hx hb dL_law_274 (lv_at hl 0 rfl) ?_
  refine lv_iconst (v := 1) hx hb dL_law_276 (by decide) ?_
  refine lv_iadd hx hb dL_law_277 ?_
  refine tp_i (nI (i + 1)) nI_p1.symm ?_
  refine va_sld (A := A) hx hb hX hbl hbA hS (vp_in_nI (n := i + 1) (by omega) (by omega)) dL_law_278 ?_
  refine tp_i a1 (by rw [nI_clamp (by omega)]; exact ha1) ?_
  refine lv_aload_n hx hb dL_law_279 rfl (lv_at hl 1 rfl) ?_
  obtain ⟨C1, f2, k3, hg, hE⟩ := hE
  have hPc := (hP.perm (zl2 (G := G) (ou := ou) (x := x) (u := u) (mo := mo) (q := q) (fo := fo) (C := C) (R := R))).appR; have hDc := (hD.perm (zl2 (G := G) (ou := ou) (x := x) (u := u) (mo := mo) (q := q) (fo := fo) (C := C) (R := R))).appR
  refine kz_i (w2 := fun _ => lW G ou x u mo q f2 C1 R) (kw_S (n := 3) (As := [.ref x, .int a1, .ref ou]) (rest := []) F.1 (l_end_y l hst G Z x u ou C fo a1 C1 f2 k3 hg _) w_775 w_773 w_774 w_0 rfl rfl (by decide +kernel) ⟨by decide, by decide⟩ ⟨tS_blind, tS_pre hPc hDc hK hT hZ hS (kz_F (hD.perm (zl2 (G := G) (ou := ou) (x := x) (u := u) (mo := mo) (q := q) (fo := fo) (C := C) (R := R))) hS hA) hns⟩ rfl rfl hl.1 rfl (lv_room (Nat.le_of_ble_eq_true rfl)) dL_law_280 ⟨by show _ ≤ 601024; omega, by show _ ≤ 7293034; omega⟩) hP hD hS hA (zl2 (G := G) (ou := ou) (x := x) (u := u) (mo := mo) (q := q) (fo := fo) (C := C) (R := R)) (fun _ => zl2b) (fun r9 u0 H locs hp hP hD hS => ?_)
  have hp := hp.symm; subst hp
  refine lv_istore hx hb dL_law_283 hl (by decide) rfl (fun ls hl => ?_)
  have hl : lv_has ls 7 [(5, .int k3), (4, .int (nI i)), (3, .ref ou), (2, .ref mo), (1, .ref x), (0, .ref b)] := hl
  refine lv_aload_n hx hb dL_law_285 rfl (lv_at hl 3 rfl) ?_
  refine lv_aload_n hx hb dL_law_286 rfl (lv_at hl 5 rfl) ?_
  refine lv_iload hx hb dL_law_287 (lv_at hl 1 rfl) ?_
  refine lv_iconst (v := 1) hx hb dL_law_289 (by decide) ?_
  refine lv_iadd hx hb dL_law_290 ?_
  refine tp_i (nI (i + 1)) nI_p1.symm ?_
  refine va_sld (A := A) hx hb hX hbl hbA hS (vp_in_nI (n := i + 1) (by omega) (by omega)) dL_law_291 ?_
  refine tp_i a1 (by rw [nI_clamp (by omega)]; exact ha1) ?_
  obtain ⟨R4, r5, hg, hE⟩ := hE
  have hPc := (hP.perm (zl3 (G := G) (ou := ou) (x := x) (u := u) (mo := mo) (q := q) (fo := f2) (C := C1) (R := R))).appR; have hDc := (hD.perm (zl3 (G := G) (ou := ou) (x := x) (u := u) (mo := mo) (q := q) (fo := f2) (C := C1) (R := R))).appR
  refine kz_i (w2 := fun _ => lW G ou x u mo q f2 C1 R4) (va_runV (As := [.int a1]) (rest := []) F.1 (e_end l G mo q R a1 R4 r5 hg _) (cwV 1 hts (aw_V w_1208 w_1209 w_1210 w_6 w_1211) rfl rfl rfl (by decide +kernel) ⟨by decide, by decide⟩) ⟨cS_blind, va_recv (q := (RX6, TX6, 48)) (ci := 6) (q0 := 0) hK.1 hPc rfl rfl, cS_pre hPc hDc hK⟩ rfl rfl hl.1 rfl (lv_room (Nat.le_of_ble_eq_true rfl)) dL_law_292 ⟨by show _ ≤ 601024; omega, by show _ ≤ 7293034; omega⟩) hP hD hS hA (zl3 (G := G) (ou := ou) (x := x) (u := u) (mo := mo) (q := q) (fo := f2) (C := C1) (R := R)) (fun _ => zl3b) (fun r9 u0 H locs hp hP hD hS => ?_)
  have hp := hp.symm; subst hp
  refine lv_istore hx hb dL_law_295 hl (by decide) rfl (fun ls hl => ?_)
  have hl : lv_has ls 7 [(6, .int r5), (5, .int k3), (4, .int (nI i)), (3, .ref ou), (2, .ref mo), (1, .ref x), (0, .ref b)] := hl
  refine lv_goto (tgt := 425) hx hb dL_law_297 (by decide) ?_
  obtain ⟨rfl, rfl, rfl⟩ := hE
  refine W.widen (k := cells + 2) (n := slots + 16) (by omega) (by omega) ?_
  exact kk _ _ _ (lv_sub hl [2, 3, 4, 5, 6] rfl) hP hD hS

def K_replace (C : CS) (R : RS) (fo : Nat → Int64) (a1 a2 : Int32) (C' : CS) (R' : RS) (fo' : Nat → Int64) : Prop := ∃ (C1 : CS) (f2 : Nat → Int64) (k3 : Int32), E_l_replace C fo C1 f2 k3 ∧ (∃ (R4 : RS) (r5 : Int32), E_replace R R4 r5 ∧ (C' = C1 ∧ R' = R4 ∧ fo' = f2))
set_option maxHeartbeats 4000000 in
set_option maxRecDepth 100000 in
theorem k_replace {p : Program} {l : Launch} {e : Env} {s : State} {m : MethodId} {below : List Frame} {meth : Method} {c : Code} {G : PG} {Z : ZZ} {b L : Nat} {xs : Nat → Int32} {A : Nat → Prop} (hst : l.stackTraces = false) (F : CallFix p m c cL_law 7 s #[Value.ref b] aW RL ∧ True) (hX : va_X b L xs s s.heap) (hbl : b < s.heap.size) (hK : pg_K G s) (hT : pg_T s) (hZ : zF Z A s s.heap) (hA : ∀ q, s.heap.size ≤ q → A q) (hAo : ∀ q, q < s.heap.size → ¬ A q) (hL : L ≤ 1536) {i : Nat} (hi : i + 3 ≤ L) (x mo ou : Nat) (u q : Nat → Nat) {a1 a2 : Int32} (ha1 : xs (i + 1) = a1) (ha2 : xs (i + 2) = a2) (C : CS) (R : RS) (fo : Nat → Int64) (C' : CS) (R' : RS) (fo' : Nat → Int64) (hE : K_replace C R fo a1 a2 C' R' fo') {H : Heap} {locs : List Loc} {ls : Array Slot} {cells slots : Nat} (hcs : cells + 2 ≤ 601024) (hss : slots + 16 ≤ 7293034) (hl : lv_has ls 7 [(4, .int (nI i)), (3, .ref ou), (2, .ref mo), (1, .ref x), (0, .ref b)]) (hP : va_P G.1 vwCl (lW G ou x u mo q fo C R) H) (hD : va_D A (lW G ou x u mo q fo C R)) (hS : va_S A s.heap H locs) {Q : State → Prop} (kk : ∀ (H : Heap) (locs : List Loc) (ls : Array Slot), lv_has ls 7 [(4, .int (nI i)), (3, .ref ou), (2, .ref mo), (1, .ref x), (0, .ref b)] → va_P G.1 vwCl (lW G ou x u mo q fo' C' R') H → va_D A (lW G ou x u mo q fo' C' R') → va_S A s.heap H locs → W p l e room_1 s m #[Value.ref b] below meth c H locs (cells + 2) (slots + 16) Q (F0 m 425 ls [])) : W p l e room_1 s m #[Value.ref b] below meth c H locs cells slots Q (F0 m 300 ls []) := by
  have hx := F.1.1; have hb := F.1.2.1; have hml := F.1.2.2.1; have hts := F.1.2.2.2.2
  have hown : s.vm.findClass RL = some m.cls := F.1.2.2.2.1
  have hbA : ¬ A b := hAo b hbl
  have hns : ∀ q, A q → ∀ cell, s.heap[q]? = some cell → cell.vm.isStatics = false := fun q h cell hc => absurd h (hAo q (Array.getElem?_eq_some_iff.mp hc).1)
  unfold K_replace at hE
  refine lv_aload_n hx hb dL_law_300 rfl (lv_at hl 3 rfl) ?_
  refine lv_aload_n hx hb dL_law_301 rfl (lv_at hl 1 rfl) ?_
  obtain ⟨C1, f2, k3, hg, hE⟩ := hE
  have hPc := (hP.perm (zl2 (G := G) (ou := ou) (x := x) (u := u) (mo := mo) (q := q) (fo := fo) (C := C) (R := R))).appR; have hDc := (hD.perm (zl2 (G := G) (ou := ou) (x := x) (u := u) (mo := mo) (q := q) (fo := fo) (C := C) (R := R))).appR
  refine kz_i (w2 := fun _ => lW G ou x u mo q f2 C1 R) (kw_S (n := 2) (As := [.ref x, .ref ou]) (rest := []) F.1 (l_replace_y l hst G Z x u ou C fo C1 f2 k3 hg _) w_786 w_784 w_785 w_0 rfl rfl (by decide +kernel) ⟨by decide, by decide⟩ ⟨tS_blind, tS_pre hPc hDc hK hT hZ hS (kz_F (hD.perm (zl2 (G := G) (ou := ou) (x := x) (u := u) (mo := mo) (q := q) (fo := fo) (C := C) (R := R))) hS hA) hns⟩ rfl rfl hl.1 rfl (lv_room (Nat.le_of_ble_eq_true rfl)) dL_law_302 ⟨by show _ ≤ 601024; omega, by show _ ≤ 7293034; omega⟩) hP hD hS hA (zl2 (G := G) (ou := ou) (x := x) (u := u) (mo := mo) (q := q) (fo := fo) (C := C) (R := R)) (fun _ => zl2b) (fun r9 u0 H locs hp hP hD hS => ?_)
  have hp := hp.symm; subst hp
  refine lv_istore hx hb dL_law_305 hl (by decide) rfl (fun ls hl => ?_)
  have hl : lv_has ls 7 [(5, .int k3), (4, .int (nI i)), (3, .ref ou), (2, .ref mo), (1, .ref x), (0, .ref b)] := hl
  refine lv_aload_n hx hb dL_law_307 rfl (lv_at hl 3 rfl) ?_
  obtain ⟨R4, r5, hg, hE⟩ := hE
  have hPc := (hP.perm (zl3 (G := G) (ou := ou) (x := x) (u := u) (mo := mo) (q := q) (fo := f2) (C := C1) (R := R))).appR; have hDc := (hD.perm (zl3 (G := G) (ou := ou) (x := x) (u := u) (mo := mo) (q := q) (fo := f2) (C := C1) (R := R))).appR
  refine kz_i (w2 := fun _ => lW G ou x u mo q f2 C1 R4) (va_runV (As := []) (rest := []) F.1 (e_replace l G mo q R R4 r5 hg _) (cwV 0 hts (aw_V w_1212 w_1213 w_1214 w_6 w_1215) rfl rfl rfl (by decide +kernel) ⟨by decide, by decide⟩) ⟨cS_blind, va_recv (q := (RX6, TX6, 48)) (ci := 6) (q0 := 0) hK.1 hPc rfl rfl, cS_pre hPc hDc hK⟩ rfl rfl hl.1 rfl (lv_room (Nat.le_of_ble_eq_true rfl)) dL_law_308 ⟨by show _ ≤ 601024; omega, by show _ ≤ 7293034; omega⟩) hP hD hS hA (zl3 (G := G) (ou := ou) (x := x) (u := u) (mo := mo) (q := q) (fo := f2) (C := C1) (R := R)) (fun _ => zl3b) (fun r9 u0 H locs hp hP hD hS => ?_)
  have hp := hp.symm; subst hp
  refine lv_istore hx hb dL_law_311 hl (by decide) rfl (fun ls hl => ?_)
  have hl : lv_has ls 7 [(6, .int r5), (5, .int k3), (4, .int (nI i)), (3, .ref ou), (2, .ref mo), (1, .ref x), (0, .ref b)] := hl
  refine lv_goto (tgt := 425) hx hb dL_law_313 (by decide) ?_
  obtain ⟨rfl, rfl, rfl⟩ := hE
  refine W.widen (k := cells + 2) (n := slots + 16) (by omega) (by omega) ?_
  exact kk _ _ _ (lv_sub hl [2, 3, 4, 5, 6] rfl) hP hD hS

def K_replaced (C : CS) (R : RS) (fo : Nat → Int64) (a1 a2 : Int32) (C' : CS) (R' : RS) (fo' : Nat → Int64) : Prop := ∃ (C1 : CS) (f2 : Nat → Int64) (k3 : Int32), E_l_replaced C fo a1 C1 f2 k3 ∧ (∃ (R4 : RS) (r5 : Int32), E_replaced R a1 R4 r5 ∧ (C' = C1 ∧ R' = R4 ∧ fo' = f2))
set_option maxHeartbeats 4000000 in
set_option maxRecDepth 100000 in
theorem k_replaced {p : Program} {l : Launch} {e : Env} {s : State} {m : MethodId} {below : List Frame} {meth : Method} {c : Code} {G : PG} {Z : ZZ} {b L : Nat} {xs : Nat → Int32} {A : Nat → Prop} (hst : l.stackTraces = false) (F : CallFix p m c cL_law 7 s #[Value.ref b] aW RL ∧ True) (hX : va_X b L xs s s.heap) (hbl : b < s.heap.size) (hK : pg_K G s) (hT : pg_T s) (hZ : zF Z A s s.heap) (hA : ∀ q, s.heap.size ≤ q → A q) (hAo : ∀ q, q < s.heap.size → ¬ A q) (hL : L ≤ 1536) {i : Nat} (hi : i + 3 ≤ L) (x mo ou : Nat) (u q : Nat → Nat) {a1 a2 : Int32} (ha1 : xs (i + 1) = a1) (ha2 : xs (i + 2) = a2) (C : CS) (R : RS) (fo : Nat → Int64) (C' : CS) (R' : RS) (fo' : Nat → Int64) (hE : K_replaced C R fo a1 a2 C' R' fo') {H : Heap} {locs : List Loc} {ls : Array Slot} {cells slots : Nat} (hcs : cells + 2 ≤ 601024) (hss : slots + 16 ≤ 7293034) (hl : lv_has ls 7 [(4, .int (nI i)), (3, .ref ou), (2, .ref mo), (1, .ref x), (0, .ref b)]) (hP : va_P G.1 vwCl (lW G ou x u mo q fo C R) H) (hD : va_D A (lW G ou x u mo q fo C R)) (hS : va_S A s.heap H locs) {Q : State → Prop} (kk : ∀ (H : Heap) (locs : List Loc) (ls : Array Slot), lv_has ls 7 [(4, .int (nI i)), (3, .ref ou), (2, .ref mo), (1, .ref x), (0, .ref b)] → va_P G.1 vwCl (lW G ou x u mo q fo' C' R') H → va_D A (lW G ou x u mo q fo' C' R') → va_S A s.heap H locs → W p l e room_1 s m #[Value.ref b] below meth c H locs (cells + 2) (slots + 16) Q (F0 m 425 ls [])) : W p l e room_1 s m #[Value.ref b] below meth c H locs cells slots Q (F0 m 316 ls []) := by
  have hx := F.1.1; have hb := F.1.2.1; have hml := F.1.2.2.1; have hts := F.1.2.2.2.2
  have hown : s.vm.findClass RL = some m.cls := F.1.2.2.2.1
  have hbA : ¬ A b := hAo b hbl
  have hns : ∀ q, A q → ∀ cell, s.heap[q]? = some cell → cell.vm.isStatics = false := fun q h cell hc => absurd h (hAo q (Array.getElem?_eq_some_iff.mp hc).1)
  unfold K_replaced at hE
  refine lv_aload_n hx hb dL_law_316 rfl (lv_at hl 3 rfl) ?_
  refine lv_aload_n hx hb dL_law_317 rfl (lv_at hl 4 rfl) ?_
  refine lv_iload hx hb dL_law_318 (lv_at hl 0 rfl) ?_
  refine lv_iconst (v := 1) hx hb dL_law_320 (by decide) ?_
  refine lv_iadd hx hb dL_law_321 ?_
  refine tp_i (nI (i + 1)) nI_p1.symm ?_
  refine va_sld (A := A) hx hb hX hbl hbA hS (vp_in_nI (n := i + 1) (by omega) (by omega)) dL_law_322 ?_
  refine tp_i a1 (by rw [nI_clamp (by omega)]; exact ha1) ?_
  refine lv_aload_n hx hb dL_law_323 rfl (lv_at hl 1 rfl) ?_
  obtain ⟨C1, f2, k3, hg, hE⟩ := hE
  have hPc := (hP.perm (zl2 (G := G) (ou := ou) (x := x) (u := u) (mo := mo) (q := q) (fo := fo) (C := C) (R := R))).appR; have hDc := (hD.perm (zl2 (G := G) (ou := ou) (x := x) (u := u) (mo := mo) (q := q) (fo := fo) (C := C) (R := R))).appR
  refine kz_i (w2 := fun _ => lW G ou x u mo q f2 C1 R) (kw_S (n := 3) (As := [.ref x, .int a1, .ref ou]) (rest := []) F.1 (l_replaced_y l hst G Z x u ou C fo a1 C1 f2 k3 hg _) w_813 w_811 w_812 w_0 rfl rfl (by decide +kernel) ⟨by decide, by decide⟩ ⟨tS_blind, tS_pre hPc hDc hK hT hZ hS (kz_F (hD.perm (zl2 (G := G) (ou := ou) (x := x) (u := u) (mo := mo) (q := q) (fo := fo) (C := C) (R := R))) hS hA) hns⟩ rfl rfl hl.1 rfl (lv_room (Nat.le_of_ble_eq_true rfl)) dL_law_324 ⟨by show _ ≤ 601024; omega, by show _ ≤ 7293034; omega⟩) hP hD hS hA (zl2 (G := G) (ou := ou) (x := x) (u := u) (mo := mo) (q := q) (fo := fo) (C := C) (R := R)) (fun _ => zl2b) (fun r9 u0 H locs hp hP hD hS => ?_)
  have hp := hp.symm; subst hp
  refine lv_istore hx hb dL_law_327 hl (by decide) rfl (fun ls hl => ?_)
  have hl : lv_has ls 7 [(5, .int k3), (4, .int (nI i)), (3, .ref ou), (2, .ref mo), (1, .ref x), (0, .ref b)] := hl
  refine lv_aload_n hx hb dL_law_329 rfl (lv_at hl 3 rfl) ?_
  refine lv_aload_n hx hb dL_law_330 rfl (lv_at hl 5 rfl) ?_
  refine lv_iload hx hb dL_law_331 (lv_at hl 1 rfl) ?_
  refine lv_iconst (v := 1) hx hb dL_law_333 (by decide) ?_
  refine lv_iadd hx hb dL_law_334 ?_
  refine tp_i (nI (i + 1)) nI_p1.symm ?_
  refine va_sld (A := A) hx hb hX hbl hbA hS (vp_in_nI (n := i + 1) (by omega) (by omega)) dL_law_335 ?_
  refine tp_i a1 (by rw [nI_clamp (by omega)]; exact ha1) ?_
  obtain ⟨R4, r5, hg, hE⟩ := hE
  have hPc := (hP.perm (zl3 (G := G) (ou := ou) (x := x) (u := u) (mo := mo) (q := q) (fo := f2) (C := C1) (R := R))).appR; have hDc := (hD.perm (zl3 (G := G) (ou := ou) (x := x) (u := u) (mo := mo) (q := q) (fo := f2) (C := C1) (R := R))).appR
  refine kz_i (w2 := fun _ => lW G ou x u mo q f2 C1 R4) (va_runV (As := [.int a1]) (rest := []) F.1 (e_replaced l G mo q R a1 R4 r5 hg _) (cwV 1 hts (aw_V w_1236 w_1237 w_1238 w_6 w_1239) rfl rfl rfl (by decide +kernel) ⟨by decide, by decide⟩) ⟨cS_blind, va_recv (q := (RX6, TX6, 48)) (ci := 6) (q0 := 0) hK.1 hPc rfl rfl, cS_pre hPc hDc hK⟩ rfl rfl hl.1 rfl (lv_room (Nat.le_of_ble_eq_true rfl)) dL_law_336 ⟨by show _ ≤ 601024; omega, by show _ ≤ 7293034; omega⟩) hP hD hS hA (zl3 (G := G) (ou := ou) (x := x) (u := u) (mo := mo) (q := q) (fo := f2) (C := C1) (R := R)) (fun _ => zl3b) (fun r9 u0 H locs hp hP hD hS => ?_)
  have hp := hp.symm; subst hp
  refine lv_istore hx hb dL_law_339 hl (by decide) rfl (fun ls hl => ?_)
  have hl : lv_has ls 7 [(6, .int r5), (5, .int k3), (4, .int (nI i)), (3, .ref ou), (2, .ref mo), (1, .ref x), (0, .ref b)] := hl
  refine lv_goto (tgt := 425) hx hb dL_law_341 (by decide) ?_
  obtain ⟨rfl, rfl, rfl⟩ := hE
  refine W.widen (k := cells + 2) (n := slots + 16) (by omega) (by omega) ?_
  exact kk _ _ _ (lv_sub hl [2, 3, 4, 5, 6] rfl) hP hD hS

def K_split (C : CS) (R : RS) (fo : Nat → Int64) (a1 a2 : Int32) (C' : CS) (R' : RS) (fo' : Nat → Int64) : Prop := ∃ (C1 : CS) (f2 : Nat → Int64) (k3 : Int32), E_l_split C fo C1 f2 k3 ∧ (∃ (R4 : RS) (r5 : Int32), E_split R R4 r5 ∧ (C' = C1 ∧ R' = R4 ∧ fo' = f2))
set_option maxHeartbeats 4000000 in
set_option maxRecDepth 100000 in
theorem k_split {p : Program} {l : Launch} {e : Env} {s : State} {m : MethodId} {below : List Frame} {meth : Method} {c : Code} {G : PG} {Z : ZZ} {b L : Nat} {xs : Nat → Int32} {A : Nat → Prop} (hst : l.stackTraces = false) (F : CallFix p m c cL_law 7 s #[Value.ref b] aW RL ∧ True) (hX : va_X b L xs s s.heap) (hbl : b < s.heap.size) (hK : pg_K G s) (hT : pg_T s) (hZ : zF Z A s s.heap) (hA : ∀ q, s.heap.size ≤ q → A q) (hAo : ∀ q, q < s.heap.size → ¬ A q) (hL : L ≤ 1536) {i : Nat} (hi : i + 3 ≤ L) (x mo ou : Nat) (u q : Nat → Nat) {a1 a2 : Int32} (ha1 : xs (i + 1) = a1) (ha2 : xs (i + 2) = a2) (C : CS) (R : RS) (fo : Nat → Int64) (C' : CS) (R' : RS) (fo' : Nat → Int64) (hE : K_split C R fo a1 a2 C' R' fo') {H : Heap} {locs : List Loc} {ls : Array Slot} {cells slots : Nat} (hcs : cells + 2 ≤ 601024) (hss : slots + 16 ≤ 7293034) (hl : lv_has ls 7 [(4, .int (nI i)), (3, .ref ou), (2, .ref mo), (1, .ref x), (0, .ref b)]) (hP : va_P G.1 vwCl (lW G ou x u mo q fo C R) H) (hD : va_D A (lW G ou x u mo q fo C R)) (hS : va_S A s.heap H locs) {Q : State → Prop} (kk : ∀ (H : Heap) (locs : List Loc) (ls : Array Slot), lv_has ls 7 [(4, .int (nI i)), (3, .ref ou), (2, .ref mo), (1, .ref x), (0, .ref b)] → va_P G.1 vwCl (lW G ou x u mo q fo' C' R') H → va_D A (lW G ou x u mo q fo' C' R') → va_S A s.heap H locs → W p l e room_1 s m #[Value.ref b] below meth c H locs (cells + 2) (slots + 16) Q (F0 m 425 ls [])) : W p l e room_1 s m #[Value.ref b] below meth c H locs cells slots Q (F0 m 344 ls []) := by
  have hx := F.1.1; have hb := F.1.2.1; have hml := F.1.2.2.1; have hts := F.1.2.2.2.2
  have hown : s.vm.findClass RL = some m.cls := F.1.2.2.2.1
  have hbA : ¬ A b := hAo b hbl
  have hns : ∀ q, A q → ∀ cell, s.heap[q]? = some cell → cell.vm.isStatics = false := fun q h cell hc => absurd h (hAo q (Array.getElem?_eq_some_iff.mp hc).1)
  unfold K_split at hE
  refine lv_aload_n hx hb dL_law_344 rfl (lv_at hl 3 rfl) ?_
  refine lv_aload_n hx hb dL_law_345 rfl (lv_at hl 1 rfl) ?_
  obtain ⟨C1, f2, k3, hg, hE⟩ := hE
  have hPc := (hP.perm (zl2 (G := G) (ou := ou) (x := x) (u := u) (mo := mo) (q := q) (fo := fo) (C := C) (R := R))).appR; have hDc := (hD.perm (zl2 (G := G) (ou := ou) (x := x) (u := u) (mo := mo) (q := q) (fo := fo) (C := C) (R := R))).appR
  refine kz_i (w2 := fun _ => lW G ou x u mo q f2 C1 R) (kw_S (n := 2) (As := [.ref x, .ref ou]) (rest := []) F.1 (l_split_y l hst G Z x u ou C fo C1 f2 k3 hg _) w_820 w_818 w_819 w_0 rfl rfl (by decide +kernel) ⟨by decide, by decide⟩ ⟨tS_blind, tS_pre hPc hDc hK hT hZ hS (kz_F (hD.perm (zl2 (G := G) (ou := ou) (x := x) (u := u) (mo := mo) (q := q) (fo := fo) (C := C) (R := R))) hS hA) hns⟩ rfl rfl hl.1 rfl (lv_room (Nat.le_of_ble_eq_true rfl)) dL_law_346 ⟨by show _ ≤ 601024; omega, by show _ ≤ 7293034; omega⟩) hP hD hS hA (zl2 (G := G) (ou := ou) (x := x) (u := u) (mo := mo) (q := q) (fo := fo) (C := C) (R := R)) (fun _ => zl2b) (fun r9 u0 H locs hp hP hD hS => ?_)
  have hp := hp.symm; subst hp
  refine lv_istore hx hb dL_law_349 hl (by decide) rfl (fun ls hl => ?_)
  have hl : lv_has ls 7 [(5, .int k3), (4, .int (nI i)), (3, .ref ou), (2, .ref mo), (1, .ref x), (0, .ref b)] := hl
  refine lv_aload_n hx hb dL_law_351 rfl (lv_at hl 3 rfl) ?_
  obtain ⟨R4, r5, hg, hE⟩ := hE
  have hPc := (hP.perm (zl3 (G := G) (ou := ou) (x := x) (u := u) (mo := mo) (q := q) (fo := f2) (C := C1) (R := R))).appR; have hDc := (hD.perm (zl3 (G := G) (ou := ou) (x := x) (u := u) (mo := mo) (q := q) (fo := f2) (C := C1) (R := R))).appR
  refine kz_i (w2 := fun _ => lW G ou x u mo q f2 C1 R4) (va_runV (As := []) (rest := []) F.1 (e_split l G mo q R R4 r5 hg _) (cwV 0 hts (aw_V w_1240 w_1241 w_1242 w_6 w_1243) rfl rfl rfl (by decide +kernel) ⟨by decide, by decide⟩) ⟨cS_blind, va_recv (q := (RX6, TX6, 48)) (ci := 6) (q0 := 0) hK.1 hPc rfl rfl, cS_pre hPc hDc hK⟩ rfl rfl hl.1 rfl (lv_room (Nat.le_of_ble_eq_true rfl)) dL_law_352 ⟨by show _ ≤ 601024; omega, by show _ ≤ 7293034; omega⟩) hP hD hS hA (zl3 (G := G) (ou := ou) (x := x) (u := u) (mo := mo) (q := q) (fo := f2) (C := C1) (R := R)) (fun _ => zl3b) (fun r9 u0 H locs hp hP hD hS => ?_)
  have hp := hp.symm; subst hp
  refine lv_istore hx hb dL_law_355 hl (by decide) rfl (fun ls hl => ?_)
  have hl : lv_has ls 7 [(6, .int r5), (5, .int k3), (4, .int (nI i)), (3, .ref ou), (2, .ref mo), (1, .ref x), (0, .ref b)] := hl
  refine lv_goto (tgt := 425) hx hb dL_law_357 (by decide) ?_
  obtain ⟨rfl, rfl, rfl⟩ := hE
  refine W.widen (k := cells + 2) (n := slots + 16) (by omega) (by omega) ?_
  exact kk _ _ _ (lv_sub hl [2, 3, 4, 5, 6] rfl) hP hD hS

def K_piece (C : CS) (R : RS) (fo : Nat → Int64) (a1 a2 : Int32) (C' : CS) (R' : RS) (fo' : Nat → Int64) : Prop := ∃ (C1 : CS) (f2 : Nat → Int64) (k3 : Int32), E_l_piece C fo a1 a2 C1 f2 k3 ∧ (∃ (R4 : RS) (r5 : Int32), E_piece R a1 a2 R4 r5 ∧ (C' = C1 ∧ R' = R4 ∧ fo' = f2))
set_option maxHeartbeats 4000000 in
set_option maxRecDepth 100000 in
theorem k_piece {p : Program} {l : Launch} {e : Env} {s : State} {m : MethodId} {below : List Frame} {meth : Method} {c : Code} {G : PG} {Z : ZZ} {b L : Nat} {xs : Nat → Int32} {A : Nat → Prop} (hst : l.stackTraces = false) (F : CallFix p m c cL_law 7 s #[Value.ref b] aW RL ∧ True) (hX : va_X b L xs s s.heap) (hbl : b < s.heap.size) (hK : pg_K G s) (hT : pg_T s) (hZ : zF Z A s s.heap) (hA : ∀ q, s.heap.size ≤ q → A q) (hAo : ∀ q, q < s.heap.size → ¬ A q) (hL : L ≤ 1536) {i : Nat} (hi : i + 3 ≤ L) (x mo ou : Nat) (u q : Nat → Nat) {a1 a2 : Int32} (ha1 : xs (i + 1) = a1) (ha2 : xs (i + 2) = a2) (C : CS) (R : RS) (fo : Nat → Int64) (C' : CS) (R' : RS) (fo' : Nat → Int64) (hE : K_piece C R fo a1 a2 C' R' fo') {H : Heap} {locs : List Loc} {ls : Array Slot} {cells slots : Nat} (hcs : cells + 2 ≤ 601024) (hss : slots + 16 ≤ 7293034) (hl : lv_has ls 7 [(4, .int (nI i)), (3, .ref ou), (2, .ref mo), (1, .ref x), (0, .ref b)]) (hP : va_P G.1 vwCl (lW G ou x u mo q fo C R) H) (hD : va_D A (lW G ou x u mo q fo C R)) (hS : va_S A s.heap H locs) {Q : State → Prop} (kk : ∀ (H : Heap) (locs : List Loc) (ls : Array Slot), lv_has ls 7 [(4, .int (nI i)), (3, .ref ou), (2, .ref mo), (1, .ref x), (0, .ref b)] → va_P G.1 vwCl (lW G ou x u mo q fo' C' R') H → va_D A (lW G ou x u mo q fo' C' R') → va_S A s.heap H locs → W p l e room_1 s m #[Value.ref b] below meth c H locs (cells + 2) (slots + 16) Q (F0 m 425 ls [])) : W p l e room_1 s m #[Value.ref b] below meth c H locs cells slots Q (F0 m 360 ls []) := by
  have hx := F.1.1; have hb := F.1.2.1; have hml := F.1.2.2.1; have hts := F.1.2.2.2.2
  have hown : s.vm.findClass RL = some m.cls := F.1.2.2.2.1
  have hbA : ¬ A b := hAo b hbl
  have hns : ∀ q, A q → ∀ cell, s.heap[q]? = some cell → cell.vm.isStatics = false := fun q h cell hc => absurd h (hAo q (Array.getElem?_eq_some_iff.mp hc).1)
  unfold K_piece at hE
  refine lv_aload_n hx hb dL_law_360 rfl (lv_at hl 3 rfl) ?_
  refine lv_aload_n hx hb dL_law_361 rfl (lv_at hl 4 rfl) ?_
  refine lv_iload hx hb dL_law_362 (lv_at hl 0 rfl) ?_
  refine lv_iconst (v := 1) hx hb dL_law_364 (by decide) ?_
  refine lv_iadd hx hb dL_law_365 ?_
  refine tp_i (nI (i + 1)) nI_p1.symm ?_
  refine va_sld (A := A) hx hb hX hbl hbA hS (vp_in_nI (n := i + 1) (by omega) (by omega)) dL_law_366 ?_
  refine tp_i a1 (by rw [nI_clamp (by omega)]; exact ha1) ?_
  refine lv_aload_n hx hb dL_law_367 rfl (lv_at hl 4 rfl) ?_
  refine lv_iload hx hb dL_law_368 (lv_at hl 0 rfl) ?_
  refine lv_iconst (v := 2) hx hb dL_law_370 (by decide) ?_
  refine lv_iadd hx hb dL_law_371 ?_
  refine tp_i (nI (i + 2)) nI_p2.symm ?_
  refine va_sld (A := A) hx hb hX hbl hbA hS (vp_in_nI (n := i + 2) (by omega) (by omega)) dL_law_372 ?_
  refine tp_i a2 (by rw [nI_clamp (by omega)]; exact ha2) ?_
  refine lv_aload_n hx hb dL_law_373 rfl (lv_at hl 1 rfl) ?_
  obtain ⟨C1, f2, k3, hg, hE⟩ := hE
  have hPc := (hP.perm (zl2 (G := G) (ou := ou) (x := x) (u := u) (mo := mo) (q := q) (fo := fo) (C := C) (R := R))).appR; have hDc := (hD.perm (zl2 (G := G) (ou := ou) (x := x) (u := u) (mo := mo) (q := q) (fo := fo) (C := C) (R := R))).appR
  refine kz_i (w2 := fun _ => lW G ou x u mo q f2 C1 R) (kw_S (n := 4) (As := [.ref x, .int a1, .int a2, .ref ou]) (rest := []) F.1 (l_piece_y l hst G Z x u ou C fo a1 a2 C1 f2 k3 hg _) w_835 w_833 w_834 w_0 rfl rfl (by decide +kernel) ⟨by decide, by decide⟩ ⟨tS_blind, tS_pre hPc hDc hK hT hZ hS (kz_F (hD.perm (zl2 (G := G) (ou := ou) (x := x) (u := u) (mo := mo) (q := q) (fo := fo) (C := C) (R := R))) hS hA) hns⟩ rfl rfl hl.1 rfl (lv_room (Nat.le_of_ble_eq_true rfl)) dL_law_374 ⟨by show _ ≤ 601024; omega, by show _ ≤ 7293034; omega⟩) hP hD hS hA (zl2 (G := G) (ou := ou) (x := x) (u := u) (mo := mo) (q := q) (fo := fo) (C := C) (R := R)) (fun _ => zl2b) (fun r9 u0 H locs hp hP hD hS => ?_)
  have hp := hp.symm; subst hp
  refine lv_istore hx hb dL_law_377 hl (by decide) rfl (fun ls hl => ?_)
  have hl : lv_has ls 7 [(5, .int k3), (4, .int (nI i)), (3, .ref ou), (2, .ref mo), (1, .ref x), (0, .ref b)] := hl
  refine lv_aload_n hx hb dL_law_379 rfl (lv_at hl 3 rfl) ?_
  refine lv_aload_n hx hb dL_law_380 rfl (lv_at hl 5 rfl) ?_
  refine lv_iload hx hb dL_law_381 (lv_at hl 1 rfl) ?_
  refine lv_iconst (v := 1) hx hb dL_law_383 (by decide) ?_
  refine lv_iadd hx hb dL_law_384 ?_
  refine tp_i (nI (i + 1)) nI_p1.symm ?_
  refine va_sld (A := A) hx hb hX hbl hbA hS (vp_in_nI (n := i + 1) (by omega) (by omega)) dL_law_385 ?_
  refine tp_i a1 (by rw [nI_clamp (by omega)]; exact ha1) ?_
  refine lv_aload_n hx hb dL_law_386 rfl (lv_at hl 5 rfl) ?_
  refine lv_iload hx hb dL_law_387 (lv_at hl 1 rfl) ?_
  refine lv_iconst (v := 2) hx hb dL_law_389 (by decide) ?_
  refine lv_iadd hx hb dL_law_390 ?_
  refine tp_i (nI (i + 2)) nI_p2.symm ?_
  refine va_sld (A := A) hx hb hX hbl hbA hS (vp_in_nI (n := i + 2) (by omega) (by omega)) dL_law_391 ?_
  refine tp_i a2 (by rw [nI_clamp (by omega)]; exact ha2) ?_
  obtain ⟨R4, r5, hg, hE⟩ := hE
  have hPc := (hP.perm (zl3 (G := G) (ou := ou) (x := x) (u := u) (mo := mo) (q := q) (fo := f2) (C := C1) (R := R))).appR; have hDc := (hD.perm (zl3 (G := G) (ou := ou) (x := x) (u := u) (mo := mo) (q := q) (fo := f2) (C := C1) (R := R))).appR
  refine kz_i (w2 := fun _ => lW G ou x u mo q f2 C1 R4) (va_runV (As := [.int a1, .int a2]) (rest := []) F.1 (e_piece l G mo q R a1 a2 R4 r5 hg _) (cwV 2 hts (aw_V w_1244 w_1245 w_1246 w_6 w_1247) rfl rfl rfl (by decide +kernel) ⟨by decide, by decide⟩) ⟨cS_blind, va_recv (q := (RX6, TX6, 48)) (ci := 6) (q0 := 0) hK.1 hPc rfl rfl, cS_pre hPc hDc hK⟩ rfl rfl hl.1 rfl (lv_room (Nat.le_of_ble_eq_true rfl)) dL_law_392 ⟨by show _ ≤ 601024; omega, by show _ ≤ 7293034; omega⟩) hP hD hS hA (zl3 (G := G) (ou := ou) (x := x) (u := u) (mo := mo) (q := q) (fo := f2) (C := C1) (R := R)) (fun _ => zl3b) (fun r9 u0 H locs hp hP hD hS => ?_)
  have hp := hp.symm; subst hp
  refine lv_istore hx hb dL_law_395 hl (by decide) rfl (fun ls hl => ?_)
  have hl : lv_has ls 7 [(6, .int r5), (5, .int k3), (4, .int (nI i)), (3, .ref ou), (2, .ref mo), (1, .ref x), (0, .ref b)] := hl
  refine lv_goto (tgt := 425) hx hb dL_law_397 (by decide) ?_
  obtain ⟨rfl, rfl, rfl⟩ := hE
  refine W.widen (k := cells + 2) (n := slots + 16) (by omega) (by omega) ?_
  exact kk _ _ _ (lv_sub hl [2, 3, 4, 5, 6] rfl) hP hD hS

def K_length (C : CS) (R : RS) (fo : Nat → Int64) (a1 a2 : Int32) (C' : CS) (R' : RS) (fo' : Nat → Int64) : Prop := ∃ (C1 : CS) (r2 : Int32), E_p_length C a1 C1 r2 ∧ (∃ (R3 : RS) (r4 : Int32), E_length R a1 R3 r4 ∧ (C' = C1 ∧ R' = R3 ∧ fo' = fo))
set_option maxHeartbeats 4000000 in
set_option maxRecDepth 100000 in
theorem k_length {p : Program} {l : Launch} {e : Env} {s : State} {m : MethodId} {below : List Frame} {meth : Method} {c : Code} {G : PG} {Z : ZZ} {b L : Nat} {xs : Nat → Int32} {A : Nat → Prop} (hst : l.stackTraces = false) (F : CallFix p m c cL_law 7 s #[Value.ref b] aW RL ∧ True) (hX : va_X b L xs s s.heap) (hbl : b < s.heap.size) (hK : pg_K G s) (hT : pg_T s) (hZ : zF Z A s s.heap) (hA : ∀ q, s.heap.size ≤ q → A q) (hAo : ∀ q, q < s.heap.size → ¬ A q) (hL : L ≤ 1536) {i : Nat} (hi : i + 3 ≤ L) (x mo ou : Nat) (u q : Nat → Nat) {a1 a2 : Int32} (ha1 : xs (i + 1) = a1) (ha2 : xs (i + 2) = a2) (C : CS) (R : RS) (fo : Nat → Int64) (C' : CS) (R' : RS) (fo' : Nat → Int64) (hE : K_length C R fo a1 a2 C' R' fo') {H : Heap} {locs : List Loc} {ls : Array Slot} {cells slots : Nat} (hcs : cells + 2 ≤ 601024) (hss : slots + 16 ≤ 7293034) (hl : lv_has ls 7 [(4, .int (nI i)), (3, .ref ou), (2, .ref mo), (1, .ref x), (0, .ref b)]) (hP : va_P G.1 vwCl (lW G ou x u mo q fo C R) H) (hD : va_D A (lW G ou x u mo q fo C R)) (hS : va_S A s.heap H locs) {Q : State → Prop} (kk : ∀ (H : Heap) (locs : List Loc) (ls : Array Slot), lv_has ls 7 [(4, .int (nI i)), (3, .ref ou), (2, .ref mo), (1, .ref x), (0, .ref b)] → va_P G.1 vwCl (lW G ou x u mo q fo' C' R') H → va_D A (lW G ou x u mo q fo' C' R') → va_S A s.heap H locs → W p l e room_1 s m #[Value.ref b] below meth c H locs (cells + 2) (slots + 16) Q (F0 m 425 ls [])) : W p l e room_1 s m #[Value.ref b] below meth c H locs cells slots Q (F0 m 400 ls []) := by
  have hx := F.1.1; have hb := F.1.2.1; have hml := F.1.2.2.1; have hts := F.1.2.2.2.2
  have hown : s.vm.findClass RL = some m.cls := F.1.2.2.2.1
  have hbA : ¬ A b := hAo b hbl
  have hns : ∀ q, A q → ∀ cell, s.heap[q]? = some cell → cell.vm.isStatics = false := fun q h cell hc => absurd h (hAo q (Array.getElem?_eq_some_iff.mp hc).1)
  unfold K_length at hE
  refine lv_aload_n hx hb dL_law_400 rfl (lv_at hl 3 rfl) ?_
  refine lv_aload_n hx hb dL_law_401 rfl (lv_at hl 4 rfl) ?_
  refine lv_iload hx hb dL_law_402 (lv_at hl 0 rfl) ?_
  refine lv_iconst (v := 1) hx hb dL_law_404 (by decide) ?_
  refine lv_iadd hx hb dL_law_405 ?_
  refine tp_i (nI (i + 1)) nI_p1.symm ?_
  refine va_sld (A := A) hx hb hX hbl hbA hS (vp_in_nI (n := i + 1) (by omega) (by omega)) dL_law_406 ?_
  refine tp_i a1 (by rw [nI_clamp (by omega)]; exact ha1) ?_
  obtain ⟨C1, r2, hg, hE⟩ := hE
  have hPc := (hP.perm (zl1 (G := G) (ou := ou) (x := x) (u := u) (mo := mo) (q := q) (fo := fo) (C := C) (R := R))).appR; have hDc := (hD.perm (zl1 (G := G) (ou := ou) (x := x) (u := u) (mo := mo) (q := q) (fo := fo) (C := C) (R := R))).appR
  refine kz_i (w2 := fun _ => lW G ou x u mo q fo C1 R) (va_runV (As := [.int a1]) (rest := []) F.1 (e_p_length l G x u C a1 C1 r2 hg _) (cwV 1 hts (aw_V w_253 w_254 w_255 w_1 w_256) rfl rfl rfl (by decide +kernel) ⟨by decide, by decide⟩) ⟨cS_blind, va_recv (q := (RX5, TX5, 13)) (ci := 5) (q0 := 0) hK.1 hPc rfl pW_0, cS_pre hPc hDc hK⟩ rfl rfl hl.1 rfl (lv_room (Nat.le_of_ble_eq_true rfl)) dL_law_407 ⟨by show _ ≤ 601024; omega, by show _ ≤ 7293034; omega⟩) hP hD hS hA (zl1 (G := G) (ou := ou) (x := x) (u := u) (mo := mo) (q := q) (fo := fo) (C := C) (R := R)) (fun _ => zl1b) (fun r9 u0 H locs hp hP hD hS => ?_)
  have hp := hp.symm; subst hp
  refine lv_pop hx hb dL_law_410 rfl ?_
  refine lv_aload_n hx hb dL_law_411 rfl (lv_at hl 2 rfl) ?_
  refine lv_aload_n hx hb dL_law_412 rfl (lv_at hl 4 rfl) ?_
  refine lv_iload hx hb dL_law_413 (lv_at hl 0 rfl) ?_
  refine lv_iconst (v := 1) hx hb dL_law_415 (by decide) ?_
  refine lv_iadd hx hb dL_law_416 ?_
  refine tp_i (nI (i + 1)) nI_p1.symm ?_
  refine va_sld (A := A) hx hb hX hbl hbA hS (vp_in_nI (n := i + 1) (by omega) (by omega)) dL_law_417 ?_
  refine tp_i a1 (by rw [nI_clamp (by omega)]; exact ha1) ?_
  obtain ⟨R3, r4, hg, hE⟩ := hE
  have hPc := (hP.perm (zl3 (G := G) (ou := ou) (x := x) (u := u) (mo := mo) (q := q) (fo := fo) (C := C1) (R := R))).appR; have hDc := (hD.perm (zl3 (G := G) (ou := ou) (x := x) (u := u) (mo := mo) (q := q) (fo := fo) (C := C1) (R := R))).appR
  refine kz_i (w2 := fun _ => lW G ou x u mo q fo C1 R3) (va_runV (As := [.int a1]) (rest := []) F.1 (e_length l G mo q R a1 R3 r4 hg _) (cwV 1 hts (aw_V w_1003 w_1004 w_1005 w_6 w_1006) rfl rfl rfl (by decide +kernel) ⟨by decide, by decide⟩) ⟨cS_blind, va_recv (q := (RX6, TX6, 48)) (ci := 6) (q0 := 0) hK.1 hPc rfl rfl, cS_pre hPc hDc hK⟩ rfl rfl hl.1 rfl (lv_room (Nat.le_of_ble_eq_true rfl)) dL_law_418 ⟨by show _ ≤ 601024; omega, by show _ ≤ 7293034; omega⟩) hP hD hS hA (zl3 (G := G) (ou := ou) (x := x) (u := u) (mo := mo) (q := q) (fo := fo) (C := C1) (R := R)) (fun _ => zl3b) (fun r9 u0 H locs hp hP hD hS => ?_)
  have hp := hp.symm; subst hp
  refine lv_pop hx hb dL_law_421 rfl ?_
  refine lv_goto (tgt := 425) hx hb dL_law_422 (by decide) ?_
  obtain ⟨rfl, rfl, rfl⟩ := hE
  refine W.widen (k := cells + 2) (n := slots + 16) (by omega) (by omega) ?_
  exact kk _ _ _ (lv_sub hl [0, 1, 2, 3, 4] rfl) hP hD hS

theorem nI_p3 {n : Nat} : nI (n + 3) = nI n + 3 := by
  rw [show n + 3 = n + 2 + 1 from rfl, nI_p1, nI_p2, Int32.add_assoc]
  rfl
theorem lw_cmp {L i : Nat} (hL : L ≤ 1536) (hi : i ≤ 1600) : (Int32.ofNat L - 3 : Int32) < nI i ↔ L < i + 3 := by
  rw [Int32.lt_iff_toInt_lt, nI_toInt (by omega), Int32.toInt_sub, show (Int32.ofNat L).toInt = (L : Int) from nI_toInt (n := L) (by omega), show (3 : Int32).toInt = 3 from rfl]
  rw [Int.bmod_def]
  split <;> omega
set_option maxHeartbeats 4000000 in
set_option maxRecDepth 100000 in
theorem law_loop {p : Program} {l : Launch} {e : Env} {s : State} {m : MethodId} {below : List Frame} {meth : Method} {c : Code} {G : PG} {Z : ZZ} {b L : Nat} {xs : Nat → Int32} {A : Nat → Prop} (hst : l.stackTraces = false) (F : CallFix p m c cL_law 7 s #[Value.ref b] aW RL ∧ True) (hX : va_X b L xs s s.heap) (hbl : b < s.heap.size) (hK : pg_K G s) (hT : pg_T s) (hZ : zF Z A s s.heap) (hA : ∀ q, s.heap.size ≤ q → A q) (hAo : ∀ q, q < s.heap.size → ¬ A q) (hL : L ≤ 1536) (x mo ou : Nat) (u q : Nat → Nat) (hr : meth.sig.returnType = ret) (hlocks : meth.locks = false) {Inv : CS → RS → Prop} (h_type : ∀ C R fo a1 a2, Inv C R → ∃ C' R' fo', K_type C R fo a1 a2 C' R' fo' ∧ Inv C' R') (h_clear : ∀ C R fo a1 a2, Inv C R → ∃ C' R' fo', K_clear C R fo a1 a2 C' R' fo' ∧ Inv C' R') (h_compile : ∀ C R fo a1 a2, Inv C R → ∃ C' R' fo', K_compile C R fo a1 a2 C' R' fo' ∧ Inv C' R') (h_matches : ∀ C R fo a1 a2, Inv C R → ∃ C' R' fo', K_matches C R fo a1 a2 C' R' fo' ∧ Inv C' R') (h_looking : ∀ C R fo a1 a2, Inv C R → ∃ C' R' fo', K_looking C R fo a1 a2 C' R' fo' ∧ Inv C' R') (h_find : ∀ C R fo a1 a2, Inv C R → ∃ C' R' fo', K_find C R fo a1 a2 C' R' fo' ∧ Inv C' R') (h_start : ∀ C R fo a1 a2, Inv C R → ∃ C' R' fo', K_start C R fo a1 a2 C' R' fo' ∧ Inv C' R') (h_end : ∀ C R fo a1 a2, Inv C R → ∃ C' R' fo', K_end C R fo a1 a2 C' R' fo' ∧ Inv C' R') (h_replace : ∀ C R fo a1 a2, Inv C R → ∃ C' R' fo', K_replace C R fo a1 a2 C' R' fo' ∧ Inv C' R') (h_replaced : ∀ C R fo a1 a2, Inv C R → ∃ C' R' fo', K_replaced C R fo a1 a2 C' R' fo' ∧ Inv C' R') (h_split : ∀ C R fo a1 a2, Inv C R → ∃ C' R' fo', K_split C R fo a1 a2 C' R' fo' ∧ Inv C' R') (h_piece : ∀ C R fo a1 a2, Inv C R → ∃ C' R' fo', K_piece C R fo a1 a2 C' R' fo' ∧ Inv C' R') (h_length : ∀ C R fo a1 a2, Inv C R → ∃ C' R' fo', K_length C R fo a1 a2 C' R' fo' ∧ Inv C' R') : ∀ (n i : Nat) (C : CS) (R : RS) (fo : Nat → Int64) (H : Heap) (locs : List Loc) (ls : Array Slot) (cells slots : Nat), L < i + 3 * (n + 1) → i ≤ 1600 → Inv C R → cells + 2 * n ≤ 601024 → slots + 16 * n ≤ 7293034 → lv_has ls 7 [(4, .int (nI i)), (3, .ref ou), (2, .ref mo), (1, .ref x), (0, .ref b)] → va_P G.1 vwCl (lW G ou x u mo q fo C R) H → va_D A (lW G ou x u mo q fo C R) → va_S A s.heap H locs → W p l e room_1 s m #[Value.ref b] below meth c H locs cells slots (lw_Z below #[Value.ref b] s) (F0 m 23 ls []) := by
  have hx := F.1.1; have hb := F.1.2.1; have hml := F.1.2.2.1; have hts := F.1.2.2.2.2
  have hown : s.vm.findClass RL = some m.cls := F.1.2.2.2.1
  have hbA : ¬ A b := hAo b hbl
  have hns : ∀ q, A q → ∀ cell, s.heap[q]? = some cell → cell.vm.isStatics = false := fun q h cell hc => absurd h (hAo q (Array.getElem?_eq_some_iff.mp hc).1)
  intro n
  induction n with
  | zero =>
    intro i C R fo H locs ls cells slots hn hi hI hc hs hl hP hD hS
    refine lv_iload hx hb dL_law_23 (lv_at hl 0 rfl) ?_
    refine lv_aload_n hx hb dL_law_25 rfl (lv_at hl 4 rfl) ?_
    refine va_slen (A := A) hx hb hX hbl hbA hS dL_law_26 ?_
    refine lv_iconst (v := 3) hx hb dL_law_27 (by decide) ?_
    refine lv_isub hx hb dL_law_28 ?_
    refine lv_icmp_gt (tgt := 431) hx hb dL_law_29 (by decide) (fun h9 => ?_) (fun h9 => ?_)
    · refine lv_iconst (v := 1) hx hb dL_law_431 (by decide) ?_
      refine va_forget (fun q hq => Nat.not_lt.mp (fun h => hAo _ h (hS.2.2 q hq))) ?_
      refine W.widen (k := 601024) (n := 7293034) (by omega) (by omega) ?_
      exact lw_ret hx hb hr hlocks dL_law_432
    · exact absurd ((lw_cmp hL hi).mpr (by omega)) h9
  | succ n ih =>
    intro i C R fo H locs ls cells slots hn hi hI hc hs hl hP hD hS
    refine lv_iload hx hb dL_law_23 (lv_at hl 0 rfl) ?_
    refine lv_aload_n hx hb dL_law_25 rfl (lv_at hl 4 rfl) ?_
    refine va_slen (A := A) hx hb hX hbl hbA hS dL_law_26 ?_
    refine lv_iconst (v := 3) hx hb dL_law_27 (by decide) ?_
    refine lv_isub hx hb dL_law_28 ?_
    refine lv_icmp_gt (tgt := 431) hx hb dL_law_29 (by decide) (fun h9 => ?_) (fun h9 => ?_)
    · refine lv_iconst (v := 1) hx hb dL_law_431 (by decide) ?_
      refine va_forget (fun q hq => Nat.not_lt.mp (fun h => hAo _ h (hS.2.2 q hq))) ?_
      refine W.widen (k := 601024) (n := 7293034) (by omega) (by omega) ?_
      exact lw_ret hx hb hr hlocks dL_law_432
    have hi3 : i + 3 ≤ L := Nat.not_lt.mp (fun z => h9 ((lw_cmp hL hi).mpr z))
    refine lv_aload_n hx hb dL_law_32 rfl (lv_at hl 4 rfl) ?_
    refine lv_iload hx hb dL_law_33 (lv_at hl 0 rfl) ?_
    refine va_sld (A := A) hx hb hX hbl hbA hS (vp_in_nI (n := i) (by omega) (by omega)) dL_law_35 ?_
    refine tp_i (xs i) (by rw [nI_clamp (by omega)]) ?_
    refine lv_bipush (v := 15) hx hb dL_law_36 (by decide) ?_
    refine lv_iand hx hb dL_law_38 ?_
    obtain ⟨j, hj, hjx⟩ := pk_andE (xs i) (m := 15) 4 (by decide)
    refine tp_i (nI j) hjx ?_
    have tl : ∀ (C' : CS) (R' : RS) (fo' : Nat → Int64) (H : Heap) (locs : List Loc) (ls : Array Slot), Inv C' R' → lv_has ls 7 [(4, .int (nI i)), (3, .ref ou), (2, .ref mo), (1, .ref x), (0, .ref b)] → va_P G.1 vwCl (lW G ou x u mo q fo' C' R') H → va_D A (lW G ou x u mo q fo' C' R') → va_S A s.heap H locs → W p l e room_1 s m #[Value.ref b] below meth c H locs (cells + 2) (slots + 16) (lw_Z below #[Value.ref b] s) (F0 m 425 ls []) := by
      intro C' R' fo' H locs ls hI hl hP hD hS
      refine lv_iinc (v := nI (i + 3)) (k := 0) hx hb dL_law_425 hl rfl nI_p3.symm (by decide) rfl (fun ls hl => ?_)
      have hl : lv_has ls 7 [(4, .int (nI (i + 3))), (3, .ref ou), (2, .ref mo), (1, .ref x), (0, .ref b)] := hl
      refine lv_goto (tgt := 23) hx hb dL_law_428 (by decide) ?_
      exact ih (i + 3) C' R' fo' H locs ls (cells + 2) (slots + 16) (by omega) (by omega) hI (by omega) (by omega) hl hP hD hS
    rcases (show j = 0 ∨ j = 1 ∨ j = 2 ∨ j = 3 ∨ j = 4 ∨ j = 5 ∨ j = 6 ∨ j = 7 ∨ j = 8 ∨ j = 9 ∨ j = 10 ∨ j = 11 ∨ j = 12 ∨ j = 13 ∨ j = 14 ∨ j = 15 by omega) with rfl | rfl | rfl | rfl | rfl | rfl | rfl | rfl | rfl | rfl | rfl | rfl | rfl | rfl | rfl | rfl
    · refine lv_tableIn (tgt := 104) hx hb dL_law_39 (by decide) (by decide) rfl (by decide) ?_
      obtain ⟨C', R', fo', hE, hI'⟩ := h_type C R fo (xs (i + 1)) (xs (i + 2)) hI
      exact k_type hst F hX hbl hK hT hZ hA hAo hL hi3 x mo ou u q rfl rfl C R fo C' R' fo' hE (by omega) (by omega) hl hP hD hS (fun H locs ls hl hP hD hS => tl C' R' fo' H locs ls hI' hl hP hD hS)
    · refine lv_tableIn (tgt := 143) hx hb dL_law_39 (by decide) (by decide) rfl (by decide) ?_
      obtain ⟨C', R', fo', hE, hI'⟩ := h_clear C R fo (xs (i + 1)) (xs (i + 2)) hI
      exact k_clear hst F hX hbl hK hT hZ hA hAo hL hi3 x mo ou u q rfl rfl C R fo C' R' fo' hE (by omega) (by omega) hl hP hD hS (fun H locs ls hl hP hD hS => tl C' R' fo' H locs ls hI' hl hP hD hS)
    · refine lv_tableIn (tgt := 168) hx hb dL_law_39 (by decide) (by decide) rfl (by decide) ?_
      obtain ⟨C', R', fo', hE, hI'⟩ := h_compile C R fo (xs (i + 1)) (xs (i + 2)) hI
      exact k_compile hst F hX hbl hK hT hZ hA hAo hL hi3 x mo ou u q rfl rfl C R fo C' R' fo' hE (by omega) (by omega) hl hP hD hS (fun H locs ls hl hP hD hS => tl C' R' fo' H locs ls hI' hl hP hD hS)
    · refine lv_tableIn (tgt := 184) hx hb dL_law_39 (by decide) (by decide) rfl (by decide) ?_
      obtain ⟨C', R', fo', hE, hI'⟩ := h_matches C R fo (xs (i + 1)) (xs (i + 2)) hI
      exact k_matches hst F hX hbl hK hT hZ hA hAo hL hi3 x mo ou u q rfl rfl C R fo C' R' fo' hE (by omega) (by omega) hl hP hD hS (fun H locs ls hl hP hD hS => tl C' R' fo' H locs ls hI' hl hP hD hS)
    · refine lv_tableIn (tgt := 200) hx hb dL_law_39 (by decide) (by decide) rfl (by decide) ?_
      obtain ⟨C', R', fo', hE, hI'⟩ := h_looking C R fo (xs (i + 1)) (xs (i + 2)) hI
      exact k_looking hst F hX hbl hK hT hZ hA hAo hL hi3 x mo ou u q rfl rfl C R fo C' R' fo' hE (by omega) (by omega) hl hP hD hS (fun H locs ls hl hP hD hS => tl C' R' fo' H locs ls hI' hl hP hD hS)
    · refine lv_tableIn (tgt := 216) hx hb dL_law_39 (by decide) (by decide) rfl (by decide) ?_
      obtain ⟨C', R', fo', hE, hI'⟩ := h_find C R fo (xs (i + 1)) (xs (i + 2)) hI
      exact k_find hst F hX hbl hK hT hZ hA hAo hL hi3 x mo ou u q rfl rfl C R fo C' R' fo' hE (by omega) (by omega) hl hP hD hS (fun H locs ls hl hP hD hS => tl C' R' fo' H locs ls hI' hl hP hD hS)
    · refine lv_tableIn (tgt := 244) hx hb dL_law_39 (by decide) (by decide) rfl (by decide) ?_
      obtain ⟨C', R', fo', hE, hI'⟩ := h_start C R fo (xs (i + 1)) (xs (i + 2)) hI
      exact k_start hst F hX hbl hK hT hZ hA hAo hL hi3 x mo ou u q rfl rfl C R fo C' R' fo' hE (by omega) (by omega) hl hP hD hS (fun H locs ls hl hP hD hS => tl C' R' fo' H locs ls hI' hl hP hD hS)
    · refine lv_tableIn (tgt := 272) hx hb dL_law_39 (by decide) (by decide) rfl (by decide) ?_
      obtain ⟨C', R', fo', hE, hI'⟩ := h_end C R fo (xs (i + 1)) (xs (i + 2)) hI
      exact k_end hst F hX hbl hK hT hZ hA hAo hL hi3 x mo ou u q rfl rfl C R fo C' R' fo' hE (by omega) (by omega) hl hP hD hS (fun H locs ls hl hP hD hS => tl C' R' fo' H locs ls hI' hl hP hD hS)
    · refine lv_tableIn (tgt := 300) hx hb dL_law_39 (by decide) (by decide) rfl (by decide) ?_
      obtain ⟨C', R', fo', hE, hI'⟩ := h_replace C R fo (xs (i + 1)) (xs (i + 2)) hI
      exact k_replace hst F hX hbl hK hT hZ hA hAo hL hi3 x mo ou u q rfl rfl C R fo C' R' fo' hE (by omega) (by omega) hl hP hD hS (fun H locs ls hl hP hD hS => tl C' R' fo' H locs ls hI' hl hP hD hS)
    · refine lv_tableIn (tgt := 316) hx hb dL_law_39 (by decide) (by decide) rfl (by decide) ?_
      obtain ⟨C', R', fo', hE, hI'⟩ := h_replaced C R fo (xs (i + 1)) (xs (i + 2)) hI
      exact k_replaced hst F hX hbl hK hT hZ hA hAo hL hi3 x mo ou u q rfl rfl C R fo C' R' fo' hE (by omega) (by omega) hl hP hD hS (fun H locs ls hl hP hD hS => tl C' R' fo' H locs ls hI' hl hP hD hS)
    · refine lv_tableIn (tgt := 344) hx hb dL_law_39 (by decide) (by decide) rfl (by decide) ?_
      obtain ⟨C', R', fo', hE, hI'⟩ := h_split C R fo (xs (i + 1)) (xs (i + 2)) hI
      exact k_split hst F hX hbl hK hT hZ hA hAo hL hi3 x mo ou u q rfl rfl C R fo C' R' fo' hE (by omega) (by omega) hl hP hD hS (fun H locs ls hl hP hD hS => tl C' R' fo' H locs ls hI' hl hP hD hS)
    · refine lv_tableIn (tgt := 360) hx hb dL_law_39 (by decide) (by decide) rfl (by decide) ?_
      obtain ⟨C', R', fo', hE, hI'⟩ := h_piece C R fo (xs (i + 1)) (xs (i + 2)) hI
      exact k_piece hst F hX hbl hK hT hZ hA hAo hL hi3 x mo ou u q rfl rfl C R fo C' R' fo' hE (by omega) (by omega) hl hP hD hS (fun H locs ls hl hP hD hS => tl C' R' fo' H locs ls hI' hl hP hD hS)
    · refine lv_tableIn (tgt := 400) hx hb dL_law_39 (by decide) (by decide) rfl (by decide) ?_
      obtain ⟨C', R', fo', hE, hI'⟩ := h_length C R fo (xs (i + 1)) (xs (i + 2)) hI
      exact k_length hst F hX hbl hK hT hZ hA hAo hL hi3 x mo ou u q rfl rfl C R fo C' R' fo' hE (by omega) (by omega) hl hP hD hS (fun H locs ls hl hP hD hS => tl C' R' fo' H locs ls hI' hl hP hD hS)
    · refine lv_tableOut (tgt := 425) hx hb dL_law_39 (by decide) (by decide) ?_
      refine W.widen (k := cells + 2) (n := slots + 16) (by omega) (by omega) ?_
      exact tl C R fo _ _ _ hI hl hP hD hS
    · refine lv_tableOut (tgt := 425) hx hb dL_law_39 (by decide) (by decide) ?_
      refine W.widen (k := cells + 2) (n := slots + 16) (by omega) (by omega) ?_
      exact tl C R fo _ _ _ hI hl hP hD hS
    · refine lv_tableOut (tgt := 425) hx hb dL_law_39 (by decide) (by decide) ?_
      refine W.widen (k := cells + 2) (n := slots + 16) (by omega) (by omega) ?_
      exact tl C R fo _ _ _ hI hl hP hD hS
