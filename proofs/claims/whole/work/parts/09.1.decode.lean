theorem dX12_reads_25 : decode cX12_reads 25 = .ok (.iload_n 3, 1) := by decide +kernel
theorem dX12_reads_26 : decode cX12_reads 26 = .ok (.ifCond .eq 171, 3) := by decide +kernel
theorem dX12_reads_29 : decode cX12_reads 29 = .ok (.aload_n 0, 1) := by decide +kernel
theorem dX12_reads_30 : decode cX12_reads 30 = .ok (.invokevirtual 312, 3) := by decide +kernel
theorem dX12_reads_33 : decode cX12_reads 33 = .ok (.istore 4, 2) := by decide +kernel
theorem dX12_reads_35 : decode cX12_reads 35 = .ok (.aload_n 0, 1) := by decide +kernel
theorem dX12_reads_36 : decode cX12_reads 36 = .ok (.ldc2_w 316, 3) := by decide +kernel
theorem dX12_reads_39 : decode cX12_reads 39 = .ok (.invokevirtual 318, 3) := by decide +kernel
theorem dX12_reads_42 : decode cX12_reads 42 = .ok (.istore 5, 2) := by decide +kernel
theorem dX12_reads_44 : decode cX12_reads 44 = .ok (.aload_n 0, 1) := by decide +kernel
theorem dX12_reads_45 : decode cX12_reads 45 = .ok (.bipush 40, 2) := by decide +kernel
theorem dX12_reads_47 : decode cX12_reads 47 = .ok (.invokevirtual 272, 3) := by decide +kernel
theorem dX12_reads_50 : decode cX12_reads 50 = .ok (.istore 6, 2) := by decide +kernel
theorem dX12_reads_52 : decode cX12_reads 52 = .ok (.iload 4, 2) := by decide +kernel
theorem dX12_reads_54 : decode cX12_reads 54 = .ok (.ifCond .ne 27, 3) := by decide +kernel
theorem dX12_reads_57 : decode cX12_reads 57 = .ok (.iload 5, 2) := by decide +kernel
theorem dX12_reads_59 : decode cX12_reads 59 = .ok (.ifCond .ne 22, 3) := by decide +kernel
theorem dX12_reads_62 : decode cX12_reads 62 = .ok (.iload 6, 2) := by decide +kernel
theorem dX12_reads_64 : decode cX12_reads 64 = .ok (.ifCond .ne 17, 3) := by decide +kernel
theorem dX12_reads_67 : decode cX12_reads 67 = .ok (.aload_n 0, 1) := by decide +kernel
theorem dX12_reads_68 : decode cX12_reads 68 = .ok (.getfield 258, 3) := by decide +kernel
theorem dX12_reads_71 : decode cX12_reads 71 = .ok (.iconst 2, 1) := by decide +kernel
theorem dX12_reads_72 : decode cX12_reads 72 = .ok (.if_icmp .eq 9, 3) := by decide +kernel
theorem dX12_reads_75 : decode cX12_reads 75 = .ok (.aload_n 0, 1) := by decide +kernel
theorem dX12_reads_76 : decode cX12_reads 76 = .ok (.iconst 1, 1) := by decide +kernel
theorem dX12_reads_77 : decode cX12_reads 77 = .ok (.invokevirtual 275, 3) := by decide +kernel
theorem dX12_reads_80 : decode cX12_reads 80 = .ok (.ireturn, 1) := by decide +kernel
theorem dX12_reads_81 : decode cX12_reads 81 = .ok (.iload_n 2, 1) := by decide +kernel
theorem dX12_reads_82 : decode cX12_reads 82 = .ok (.iconst 5, 1) := by decide +kernel
theorem dX12_reads_83 : decode cX12_reads 83 = .ok (.if_icmp .ne 9, 3) := by decide +kernel
theorem dX12_reads_86 : decode cX12_reads 86 = .ok (.aload_n 0, 1) := by decide +kernel
theorem dX12_reads_87 : decode cX12_reads 87 = .ok (.iconst 5, 1) := by decide +kernel
theorem dX12_reads_88 : decode cX12_reads 88 = .ok (.invokevirtual 275, 3) := by decide +kernel
theorem dX12_reads_91 : decode cX12_reads 91 = .ok (.ireturn, 1) := by decide +kernel
theorem dX12_reads_92 : decode cX12_reads 92 = .ok (.iload 5, 2) := by decide +kernel
theorem dX12_reads_94 : decode cX12_reads 94 = .ok (.ifCond .ne 8, 3) := by decide +kernel
theorem dX12_reads_97 : decode cX12_reads 97 = .ok (.iload 6, 2) := by decide +kernel
theorem dX12_reads_99 : decode cX12_reads 99 = .ok (.ifCond .eq 48, 3) := by decide +kernel
theorem dX12_reads_102 : decode cX12_reads 102 = .ok (.aload_n 0, 1) := by decide +kernel
theorem dX12_reads_103 : decode cX12_reads 103 = .ok (.iload 5, 2) := by decide +kernel
theorem dX12_reads_105 : decode cX12_reads 105 = .ok (.ifCond .eq 8, 3) := by decide +kernel
theorem dX12_reads_108 : decode cX12_reads 108 = .ok (.bipush 30, 2) := by decide +kernel
theorem dX12_reads_110 : decode cX12_reads 110 = .ok (.goto 5, 3) := by decide +kernel
theorem dX12_reads_113 : decode cX12_reads 113 = .ok (.bipush 28, 2) := by decide +kernel
theorem dX12_reads_115 : decode cX12_reads 115 = .ok (.invokevirtual 322, 3) := by decide +kernel
theorem dX12_reads_118 : decode cX12_reads 118 = .ok (.iinc 2 1, 3) := by decide +kernel
theorem dX12_reads_121 : decode cX12_reads 121 = .ok (.aload_n 0, 1) := by decide +kernel
theorem dX12_reads_122 : decode cX12_reads 122 = .ok (.getfield 140, 3) := by decide +kernel
theorem dX12_reads_125 : decode cX12_reads 125 = .ok (.iload_n 2, 1) := by decide +kernel
theorem dX12_reads_126 : decode cX12_reads 126 = .ok (.iload 5, 2) := by decide +kernel
theorem dX12_reads_128 : decode cX12_reads 128 = .ok (.ifCond .eq 7, 3) := by decide +kernel
theorem dX12_reads_131 : decode cX12_reads 131 = .ok (.iconst 1, 1) := by decide +kernel
theorem dX12_reads_132 : decode cX12_reads 132 = .ok (.goto 4, 3) := by decide +kernel
theorem dX12_reads_135 : decode cX12_reads 135 = .ok (.iconst 2, 1) := by decide +kernel
theorem dX12_reads_136 : decode cX12_reads 136 = .ok (.iastore, 1) := by decide +kernel
theorem dX12_reads_137 : decode cX12_reads 137 = .ok (.aload_n 0, 1) := by decide +kernel
theorem dX12_reads_138 : decode cX12_reads 138 = .ok (.getfield 143, 3) := by decide +kernel
theorem dX12_reads_141 : decode cX12_reads 141 = .ok (.iload_n 2, 1) := by decide +kernel
theorem dX12_reads_142 : decode cX12_reads 142 = .ok (.iconst 0, 1) := by decide +kernel
theorem dX12_reads_143 : decode cX12_reads 143 = .ok (.bastore, 1) := by decide +kernel
theorem dX12_reads_144 : decode cX12_reads 144 = .ok (.goto 46, 3) := by decide +kernel
theorem dX12_reads_147 : decode cX12_reads 147 = .ok (.aload_n 0, 1) := by decide +kernel
theorem dX12_reads_148 : decode cX12_reads 148 = .ok (.iload 4, 2) := by decide +kernel
theorem dX12_reads_150 : decode cX12_reads 150 = .ok (.ifCond .le 8, 3) := by decide +kernel
theorem dX12_reads_153 : decode cX12_reads 153 = .ok (.iload 4, 2) := by decide +kernel
theorem dX12_reads_155 : decode cX12_reads 155 = .ok (.goto 10, 3) := by decide +kernel
theorem dX12_reads_158 : decode cX12_reads 158 = .ok (.bipush 100, 2) := by decide +kernel
theorem dX12_reads_160 : decode cX12_reads 160 = .ok (.aload_n 0, 1) := by decide +kernel
theorem dX12_reads_161 : decode cX12_reads 161 = .ok (.getfield 255, 3) := by decide +kernel
theorem dX12_reads_164 : decode cX12_reads 164 = .ok (.iadd, 1) := by decide +kernel
theorem dX12_reads_165 : decode cX12_reads 165 = .ok (.invokevirtual 322, 3) := by decide +kernel
theorem dX12_reads_168 : decode cX12_reads 168 = .ok (.iconst 0, 1) := by decide +kernel
theorem dX12_reads_169 : decode cX12_reads 169 = .ok (.istore_n 3, 1) := by decide +kernel
theorem dX12_reads_170 : decode cX12_reads 170 = .ok (.iload_n 2, 1) := by decide +kernel
theorem dX12_reads_171 : decode cX12_reads 171 = .ok (.ifCond .le 19, 3) := by decide +kernel
theorem dX12_reads_174 : decode cX12_reads 174 = .ok (.aload_n 0, 1) := by decide +kernel
theorem dX12_reads_175 : decode cX12_reads 175 = .ok (.getfield 140, 3) := by decide +kernel
theorem dX12_reads_178 : decode cX12_reads 178 = .ok (.iload_n 2, 1) := by decide +kernel
theorem dX12_reads_179 : decode cX12_reads 179 = .ok (.iaload, 1) := by decide +kernel
theorem dX12_reads_180 : decode cX12_reads 180 = .ok (.iconst 1, 1) := by decide +kernel
theorem dX12_reads_181 : decode cX12_reads 181 = .ok (.if_icmp .ne 9, 3) := by decide +kernel
theorem dX12_reads_184 : decode cX12_reads 184 = .ok (.iinc 2 (-1), 3) := by decide +kernel
theorem dX12_reads_187 : decode cX12_reads 187 = .ok (.goto (-17), 3) := by decide +kernel
theorem dX12_reads_190 : decode cX12_reads 190 = .ok (.aload_n 0, 1) := by decide +kernel
theorem dX12_reads_191 : decode cX12_reads 191 = .ok (.invokevirtual 278, 3) := by decide +kernel
theorem dX12_reads_194 : decode cX12_reads 194 = .ok (.goto (-169), 3) := by decide +kernel
theorem dX12_reads_197 : decode cX12_reads 197 = .ok (.aload_n 0, 1) := by decide +kernel
theorem dX12_reads_198 : decode cX12_reads 198 = .ok (.bipush 43, 2) := by decide +kernel
theorem dX12_reads_200 : decode cX12_reads 200 = .ok (.invokevirtual 272, 3) := by decide +kernel
theorem dX12_reads_203 : decode cX12_reads 203 = .ok (.ifCond .ne 30, 3) := by decide +kernel
theorem dX12_reads_206 : decode cX12_reads 206 = .ok (.aload_n 0, 1) := by decide +kernel
theorem dX12_reads_207 : decode cX12_reads 207 = .ok (.bipush 45, 2) := by decide +kernel
theorem dX12_reads_209 : decode cX12_reads 209 = .ok (.invokevirtual 272, 3) := by decide +kernel
theorem dX12_reads_212 : decode cX12_reads 212 = .ok (.ifCond .ne 21, 3) := by decide +kernel
theorem dX12_reads_215 : decode cX12_reads 215 = .ok (.aload_n 0, 1) := by decide +kernel
theorem dX12_reads_216 : decode cX12_reads 216 = .ok (.bipush 42, 2) := by decide +kernel
theorem dX12_reads_218 : decode cX12_reads 218 = .ok (.invokevirtual 272, 3) := by decide +kernel
theorem dX12_reads_221 : decode cX12_reads 221 = .ok (.ifCond .ne 12, 3) := by decide +kernel
theorem dX12_reads_224 : decode cX12_reads 224 = .ok (.aload_n 0, 1) := by decide +kernel
theorem dX12_reads_225 : decode cX12_reads 225 = .ok (.bipush 47, 2) := by decide +kernel
theorem dX12_reads_227 : decode cX12_reads 227 = .ok (.invokevirtual 272, 3) := by decide +kernel
theorem dX12_reads_230 : decode cX12_reads 230 = .ok (.ifCond .eq 56, 3) := by decide +kernel
theorem dX12_reads_233 : decode cX12_reads 233 = .ok (.aload_n 0, 1) := by decide +kernel
theorem dX12_reads_234 : decode cX12_reads 234 = .ok (.aload_n 0, 1) := by decide +kernel
theorem dX12_reads_235 : decode cX12_reads 235 = .ok (.bipush 43, 2) := by decide +kernel
theorem dX12_reads_237 : decode cX12_reads 237 = .ok (.invokevirtual 272, 3) := by decide +kernel
theorem dX12_reads_240 : decode cX12_reads 240 = .ok (.ifCond .eq 8, 3) := by decide +kernel
theorem dX12_reads_243 : decode cX12_reads 243 = .ok (.bipush 20, 2) := by decide +kernel
theorem dX12_reads_245 : decode cX12_reads 245 = .ok (.goto 33, 3) := by decide +kernel
theorem dX12_reads_248 : decode cX12_reads 248 = .ok (.aload_n 0, 1) := by decide +kernel
theorem dX12_reads_249 : decode cX12_reads 249 = .ok (.bipush 45, 2) := by decide +kernel
theorem dX12_reads_251 : decode cX12_reads 251 = .ok (.invokevirtual 272, 3) := by decide +kernel
theorem dX12_reads_254 : decode cX12_reads 254 = .ok (.ifCond .eq 8, 3) := by decide +kernel
theorem dX12_reads_257 : decode cX12_reads 257 = .ok (.bipush 21, 2) := by decide +kernel
theorem dX12_reads_259 : decode cX12_reads 259 = .ok (.goto 19, 3) := by decide +kernel
theorem dX12_reads_262 : decode cX12_reads 262 = .ok (.aload_n 0, 1) := by decide +kernel
theorem dX12_reads_263 : decode cX12_reads 263 = .ok (.bipush 42, 2) := by decide +kernel
theorem dX12_reads_265 : decode cX12_reads 265 = .ok (.invokevirtual 272, 3) := by decide +kernel
theorem dX12_reads_268 : decode cX12_reads 268 = .ok (.ifCond .eq 8, 3) := by decide +kernel
theorem dX12_reads_271 : decode cX12_reads 271 = .ok (.bipush 22, 2) := by decide +kernel
theorem dX12_reads_273 : decode cX12_reads 273 = .ok (.goto 5, 3) := by decide +kernel
theorem dX12_reads_276 : decode cX12_reads 276 = .ok (.bipush 23, 2) := by decide +kernel
theorem dX12_reads_278 : decode cX12_reads 278 = .ok (.invokevirtual 322, 3) := by decide +kernel
theorem dX12_reads_281 : decode cX12_reads 281 = .ok (.iconst 1, 1) := by decide +kernel
theorem dX12_reads_282 : decode cX12_reads 282 = .ok (.istore_n 3, 1) := by decide +kernel
theorem dX12_reads_283 : decode cX12_reads 283 = .ok (.goto 196, 3) := by decide +kernel
theorem dX12_reads_286 : decode cX12_reads 286 = .ok (.aload_n 0, 1) := by decide +kernel
theorem dX12_reads_287 : decode cX12_reads 287 = .ok (.bipush 60, 2) := by decide +kernel
theorem dX12_reads_289 : decode cX12_reads 289 = .ok (.invokevirtual 272, 3) := by decide +kernel
theorem dX12_reads_292 : decode cX12_reads 292 = .ok (.ifCond .ne 12, 3) := by decide +kernel
theorem dX12_reads_295 : decode cX12_reads 295 = .ok (.aload_n 0, 1) := by decide +kernel
theorem dX12_reads_296 : decode cX12_reads 296 = .ok (.bipush 61, 2) := by decide +kernel
theorem dX12_reads_298 : decode cX12_reads 298 = .ok (.invokevirtual 272, 3) := by decide +kernel
theorem dX12_reads_301 : decode cX12_reads 301 = .ok (.ifCond .eq 44, 3) := by decide +kernel
theorem dX12_reads_304 : decode cX12_reads 304 = .ok (.aload_n 0, 1) := by decide +kernel
theorem dX12_reads_305 : decode cX12_reads 305 = .ok (.getfield 143, 3) := by decide +kernel
theorem dX12_reads_308 : decode cX12_reads 308 = .ok (.iload_n 2, 1) := by decide +kernel
theorem dX12_reads_309 : decode cX12_reads 309 = .ok (.baload, 1) := by decide +kernel
theorem dX12_reads_310 : decode cX12_reads 310 = .ok (.ifCond .ne 35, 3) := by decide +kernel
theorem dX12_reads_313 : decode cX12_reads 313 = .ok (.aload_n 0, 1) := by decide +kernel
theorem dX12_reads_314 : decode cX12_reads 314 = .ok (.aload_n 0, 1) := by decide +kernel
theorem dX12_reads_315 : decode cX12_reads 315 = .ok (.bipush 60, 2) := by decide +kernel
theorem dX12_reads_317 : decode cX12_reads 317 = .ok (.invokevirtual 272, 3) := by decide +kernel
theorem dX12_reads_320 : decode cX12_reads 320 = .ok (.ifCond .eq 8, 3) := by decide +kernel
theorem dX12_reads_323 : decode cX12_reads 323 = .ok (.bipush 24, 2) := by decide +kernel
theorem dX12_reads_325 : decode cX12_reads 325 = .ok (.goto 5, 3) := by decide +kernel
theorem dX12_reads_328 : decode cX12_reads 328 = .ok (.bipush 25, 2) := by decide +kernel
theorem dX12_reads_330 : decode cX12_reads 330 = .ok (.invokevirtual 322, 3) := by decide +kernel
theorem dX12_reads_333 : decode cX12_reads 333 = .ok (.aload_n 0, 1) := by decide +kernel
theorem dX12_reads_334 : decode cX12_reads 334 = .ok (.getfield 143, 3) := by decide +kernel
theorem dX12_reads_337 : decode cX12_reads 337 = .ok (.iload_n 2, 1) := by decide +kernel
theorem dX12_reads_338 : decode cX12_reads 338 = .ok (.iconst 1, 1) := by decide +kernel
theorem dX12_reads_339 : decode cX12_reads 339 = .ok (.bastore, 1) := by decide +kernel
theorem dX12_reads_340 : decode cX12_reads 340 = .ok (.iconst 1, 1) := by decide +kernel
theorem dX12_reads_341 : decode cX12_reads 341 = .ok (.istore_n 3, 1) := by decide +kernel
theorem dX12_reads_342 : decode cX12_reads 342 = .ok (.goto 137, 3) := by decide +kernel
theorem dX12_reads_345 : decode cX12_reads 345 = .ok (.aload_n 0, 1) := by decide +kernel
theorem dX12_reads_346 : decode cX12_reads 346 = .ok (.ldc2_w 326, 3) := by decide +kernel
theorem dX12_reads_349 : decode cX12_reads 349 = .ok (.invokevirtual 318, 3) := by decide +kernel
theorem dX12_reads_352 : decode cX12_reads 352 = .ok (.ifCond .ne 13, 3) := by decide +kernel
theorem dX12_reads_355 : decode cX12_reads 355 = .ok (.aload_n 0, 1) := by decide +kernel
theorem dX12_reads_356 : decode cX12_reads 356 = .ok (.ldc2_w 328, 3) := by decide +kernel
theorem dX12_reads_359 : decode cX12_reads 359 = .ok (.invokevirtual 318, 3) := by decide +kernel
theorem dX12_reads_362 : decode cX12_reads 362 = .ok (.ifCond .eq 36, 3) := by decide +kernel
theorem dX12_reads_365 : decode cX12_reads 365 = .ok (.aload_n 0, 1) := by decide +kernel
theorem dX12_reads_366 : decode cX12_reads 366 = .ok (.aload_n 0, 1) := by decide +kernel
theorem dX12_reads_367 : decode cX12_reads 367 = .ok (.ldc2_w 326, 3) := by decide +kernel
theorem dX12_reads_370 : decode cX12_reads 370 = .ok (.invokevirtual 318, 3) := by decide +kernel
theorem dX12_reads_373 : decode cX12_reads 373 = .ok (.ifCond .eq 8, 3) := by decide +kernel
theorem dX12_reads_376 : decode cX12_reads 376 = .ok (.bipush 26, 2) := by decide +kernel
theorem dX12_reads_378 : decode cX12_reads 378 = .ok (.goto 5, 3) := by decide +kernel
theorem dX12_reads_381 : decode cX12_reads 381 = .ok (.bipush 27, 2) := by decide +kernel
theorem dX12_reads_383 : decode cX12_reads 383 = .ok (.invokevirtual 322, 3) := by decide +kernel
theorem dX12_reads_386 : decode cX12_reads 386 = .ok (.aload_n 0, 1) := by decide +kernel
theorem dX12_reads_387 : decode cX12_reads 387 = .ok (.getfield 143, 3) := by decide +kernel
theorem dX12_reads_390 : decode cX12_reads 390 = .ok (.iload_n 2, 1) := by decide +kernel
theorem dX12_reads_391 : decode cX12_reads 391 = .ok (.iconst 0, 1) := by decide +kernel
theorem dX12_reads_392 : decode cX12_reads 392 = .ok (.bastore, 1) := by decide +kernel
theorem dX12_reads_393 : decode cX12_reads 393 = .ok (.iconst 1, 1) := by decide +kernel
theorem dX12_reads_394 : decode cX12_reads 394 = .ok (.istore_n 3, 1) := by decide +kernel
theorem dX12_reads_395 : decode cX12_reads 395 = .ok (.goto 84, 3) := by decide +kernel
theorem dX12_reads_398 : decode cX12_reads 398 = .ok (.aload_n 0, 1) := by decide +kernel
theorem dX12_reads_399 : decode cX12_reads 399 = .ok (.bipush 41, 2) := by decide +kernel
theorem dX12_reads_401 : decode cX12_reads 401 = .ok (.invokevirtual 272, 3) := by decide +kernel
theorem dX12_reads_404 : decode cX12_reads 404 = .ok (.ifCond .eq 36, 3) := by decide +kernel
theorem dX12_reads_407 : decode cX12_reads 407 = .ok (.iload_n 2, 1) := by decide +kernel
theorem dX12_reads_408 : decode cX12_reads 408 = .ok (.ifCond .le 32, 3) := by decide +kernel
theorem dX12_reads_411 : decode cX12_reads 411 = .ok (.aload_n 0, 1) := by decide +kernel
theorem dX12_reads_412 : decode cX12_reads 412 = .ok (.bipush 29, 2) := by decide +kernel
theorem dX12_reads_414 : decode cX12_reads 414 = .ok (.invokevirtual 322, 3) := by decide +kernel
theorem dX12_reads_417 : decode cX12_reads 417 = .ok (.iinc 2 (-1), 3) := by decide +kernel
theorem dX12_reads_420 : decode cX12_reads 420 = .ok (.iload_n 2, 1) := by decide +kernel
theorem dX12_reads_421 : decode cX12_reads 421 = .ok (.ifCond .le 58, 3) := by decide +kernel
theorem dX12_reads_424 : decode cX12_reads 424 = .ok (.aload_n 0, 1) := by decide +kernel
theorem dX12_reads_425 : decode cX12_reads 425 = .ok (.getfield 140, 3) := by decide +kernel
theorem dX12_reads_428 : decode cX12_reads 428 = .ok (.iload_n 2, 1) := by decide +kernel
theorem dX12_reads_429 : decode cX12_reads 429 = .ok (.iaload, 1) := by decide +kernel
theorem dX12_reads_430 : decode cX12_reads 430 = .ok (.iconst 1, 1) := by decide +kernel
theorem dX12_reads_431 : decode cX12_reads 431 = .ok (.if_icmp .ne 48, 3) := by decide +kernel
theorem dX12_reads_434 : decode cX12_reads 434 = .ok (.iinc 2 (-1), 3) := by decide +kernel
theorem dX12_reads_437 : decode cX12_reads 437 = .ok (.goto (-17), 3) := by decide +kernel
theorem dX12_reads_440 : decode cX12_reads 440 = .ok (.aload_n 0, 1) := by decide +kernel
theorem dX12_reads_441 : decode cX12_reads 441 = .ok (.bipush 59, 2) := by decide +kernel
theorem dX12_reads_443 : decode cX12_reads 443 = .ok (.invokevirtual 272, 3) := by decide +kernel
theorem dX12_reads_446 : decode cX12_reads 446 = .ok (.ifCond .eq 27, 3) := by decide +kernel
theorem dX12_reads_449 : decode cX12_reads 449 = .ok (.iload_n 2, 1) := by decide +kernel
theorem dX12_reads_450 : decode cX12_reads 450 = .ok (.ifCond .ne 23, 3) := by decide +kernel
theorem dX12_reads_453 : decode cX12_reads 453 = .ok (.aload_n 0, 1) := by decide +kernel
theorem dX12_reads_454 : decode cX12_reads 454 = .ok (.getfield 125, 3) := by decide +kernel
theorem dX12_reads_457 : decode cX12_reads 457 = .ok (.sipush 275, 3) := by decide +kernel
theorem dX12_reads_460 : decode cX12_reads 460 = .ok (.iload_n 1, 1) := by decide +kernel
theorem dX12_reads_461 : decode cX12_reads 461 = .ok (.iadd, 1) := by decide +kernel
theorem dX12_reads_462 : decode cX12_reads 462 = .ok (.aload_n 0, 1) := by decide +kernel
theorem dX12_reads_463 : decode cX12_reads 463 = .ok (.getfield 281, 3) := by decide +kernel
theorem dX12_reads_466 : decode cX12_reads 466 = .ok (.iastore, 1) := by decide +kernel
theorem dX12_reads_467 : decode cX12_reads 467 = .ok (.aload_n 0, 1) := by decide +kernel
theorem dX12_reads_468 : decode cX12_reads 468 = .ok (.invokevirtual 278, 3) := by decide +kernel
theorem dX12_reads_471 : decode cX12_reads 471 = .ok (.iconst 1, 1) := by decide +kernel
theorem dX12_reads_472 : decode cX12_reads 472 = .ok (.ireturn, 1) := by decide +kernel
theorem dX12_reads_473 : decode cX12_reads 473 = .ok (.aload_n 0, 1) := by decide +kernel
theorem dX12_reads_474 : decode cX12_reads 474 = .ok (.iconst 1, 1) := by decide +kernel
theorem dX12_reads_475 : decode cX12_reads 475 = .ok (.invokevirtual 275, 3) := by decide +kernel
theorem dX12_reads_478 : decode cX12_reads 478 = .ok (.ireturn, 1) := by decide +kernel
theorem dX12_reads_479 : decode cX12_reads 479 = .ok (.aload_n 0, 1) := by decide +kernel
theorem dX12_reads_480 : decode cX12_reads 480 = .ok (.invokevirtual 278, 3) := by decide +kernel
theorem dX12_reads_483 : decode cX12_reads 483 = .ok (.goto (-458), 3) := by decide +kernel
theorem dX12_readsLine_0 : decode cX12_readsLine 0 = .ok (.aload_n 0, 1) := by decide +kernel
theorem dX12_readsLine_1 : decode cX12_readsLine 1 = .ok (.ldc2_w 330, 3) := by decide +kernel
theorem dX12_readsLine_4 : decode cX12_readsLine 4 = .ok (.invokevirtual 318, 3) := by decide +kernel
theorem dX12_readsLine_7 : decode cX12_readsLine 7 = .ok (.ifCond .eq 7, 3) := by decide +kernel
theorem dX12_readsLine_10 : decode cX12_readsLine 10 = .ok (.iconst 0, 1) := by decide +kernel
theorem dX12_readsLine_11 : decode cX12_readsLine 11 = .ok (.goto 74, 3) := by decide +kernel
theorem dX12_readsLine_14 : decode cX12_readsLine 14 = .ok (.aload_n 0, 1) := by decide +kernel
theorem dX12_readsLine_15 : decode cX12_readsLine 15 = .ok (.ldc2_w 332, 3) := by decide +kernel
theorem dX12_readsLine_18 : decode cX12_readsLine 18 = .ok (.invokevirtual 318, 3) := by decide +kernel
theorem dX12_readsLine_21 : decode cX12_readsLine 21 = .ok (.ifCond .eq 7, 3) := by decide +kernel
theorem dX12_readsLine_24 : decode cX12_readsLine 24 = .ok (.iconst 1, 1) := by decide +kernel
theorem dX12_readsLine_25 : decode cX12_readsLine 25 = .ok (.goto 60, 3) := by decide +kernel
theorem dX12_readsLine_28 : decode cX12_readsLine 28 = .ok (.aload_n 0, 1) := by decide +kernel
theorem dX12_readsLine_29 : decode cX12_readsLine 29 = .ok (.ldc2_w 334, 3) := by decide +kernel
theorem dX12_readsLine_32 : decode cX12_readsLine 32 = .ok (.invokevirtual 318, 3) := by decide +kernel
theorem dX12_readsLine_35 : decode cX12_readsLine 35 = .ok (.ifCond .eq 7, 3) := by decide +kernel
theorem dX12_readsLine_38 : decode cX12_readsLine 38 = .ok (.iconst 2, 1) := by decide +kernel
theorem dX12_readsLine_39 : decode cX12_readsLine 39 = .ok (.goto 46, 3) := by decide +kernel
theorem dX12_readsLine_42 : decode cX12_readsLine 42 = .ok (.aload_n 0, 1) := by decide +kernel
theorem dX12_readsLine_43 : decode cX12_readsLine 43 = .ok (.ldc2_w 336, 3) := by decide +kernel
theorem dX12_readsLine_46 : decode cX12_readsLine 46 = .ok (.invokevirtual 318, 3) := by decide +kernel
theorem dX12_readsLine_49 : decode cX12_readsLine 49 = .ok (.ifCond .eq 7, 3) := by decide +kernel
theorem dX12_readsLine_52 : decode cX12_readsLine 52 = .ok (.iconst 3, 1) := by decide +kernel
theorem dX12_readsLine_53 : decode cX12_readsLine 53 = .ok (.goto 32, 3) := by decide +kernel
theorem dX12_readsLine_56 : decode cX12_readsLine 56 = .ok (.aload_n 0, 1) := by decide +kernel
theorem dX12_readsLine_57 : decode cX12_readsLine 57 = .ok (.ldc2_w 338, 3) := by decide +kernel
theorem dX12_readsLine_60 : decode cX12_readsLine 60 = .ok (.invokevirtual 318, 3) := by decide +kernel
theorem dX12_readsLine_63 : decode cX12_readsLine 63 = .ok (.ifCond .eq 7, 3) := by decide +kernel
theorem dX12_readsLine_66 : decode cX12_readsLine 66 = .ok (.iconst 4, 1) := by decide +kernel
theorem dX12_readsLine_67 : decode cX12_readsLine 67 = .ok (.goto 18, 3) := by decide +kernel
theorem dX12_readsLine_70 : decode cX12_readsLine 70 = .ok (.aload_n 0, 1) := by decide +kernel
theorem dX12_readsLine_71 : decode cX12_readsLine 71 = .ok (.ldc2_w 340, 3) := by decide +kernel
theorem dX12_readsLine_74 : decode cX12_readsLine 74 = .ok (.invokevirtual 318, 3) := by decide +kernel
theorem dX12_readsLine_77 : decode cX12_readsLine 77 = .ok (.ifCond .eq 7, 3) := by decide +kernel
theorem dX12_readsLine_80 : decode cX12_readsLine 80 = .ok (.iconst 5, 1) := by decide +kernel
theorem dX12_readsLine_81 : decode cX12_readsLine 81 = .ok (.goto 4, 3) := by decide +kernel
theorem dX12_readsLine_84 : decode cX12_readsLine 84 = .ok (.iconst (-1), 1) := by decide +kernel
theorem dX12_readsLine_85 : decode cX12_readsLine 85 = .ok (.istore_n 1, 1) := by decide +kernel
theorem dX12_readsLine_86 : decode cX12_readsLine 86 = .ok (.iload_n 1, 1) := by decide +kernel
theorem dX12_readsLine_87 : decode cX12_readsLine 87 = .ok (.ifCond .ge 9, 3) := by decide +kernel
theorem dX12_readsLine_90 : decode cX12_readsLine 90 = .ok (.aload_n 0, 1) := by decide +kernel
theorem dX12_readsLine_91 : decode cX12_readsLine 91 = .ok (.iconst 1, 1) := by decide +kernel
theorem dX12_readsLine_92 : decode cX12_readsLine 92 = .ok (.invokevirtual 275, 3) := by decide +kernel
theorem dX12_readsLine_95 : decode cX12_readsLine 95 = .ok (.ireturn, 1) := by decide +kernel
theorem dX12_readsLine_96 : decode cX12_readsLine 96 = .ok (.iload_n 1, 1) := by decide +kernel
theorem dX12_readsLine_97 : decode cX12_readsLine 97 = .ok (.iconst 3, 1) := by decide +kernel
theorem dX12_readsLine_98 : decode cX12_readsLine 98 = .ok (.if_icmp .ge 16, 3) := by decide +kernel
theorem dX12_readsLine_101 : decode cX12_readsLine 101 = .ok (.aload_n 0, 1) := by decide +kernel
theorem dX12_readsLine_102 : decode cX12_readsLine 102 = .ok (.getfield 122, 3) := by decide +kernel
theorem dX12_readsLine_105 : decode cX12_readsLine 105 = .ok (.sipush 275, 3) := by decide +kernel
theorem dX12_readsLine_108 : decode cX12_readsLine 108 = .ok (.iload_n 1, 1) := by decide +kernel
theorem dX12_readsLine_109 : decode cX12_readsLine 109 = .ok (.iadd, 1) := by decide +kernel
theorem dX12_readsLine_110 : decode cX12_readsLine 110 = .ok (.iaload, 1) := by decide +kernel
theorem dX12_readsLine_111 : decode cX12_readsLine 111 = .ok (.ifCond .ge 33, 3) := by decide +kernel
theorem dX12_readsLine_114 : decode cX12_readsLine 114 = .ok (.iload_n 1, 1) := by decide +kernel
theorem dX12_readsLine_115 : decode cX12_readsLine 115 = .ok (.iconst 4, 1) := by decide +kernel
theorem dX12_readsLine_116 : decode cX12_readsLine 116 = .ok (.if_icmp .ne 13, 3) := by decide +kernel
theorem dX12_readsLine_119 : decode cX12_readsLine 119 = .ok (.aload_n 0, 1) := by decide +kernel
theorem dX12_readsLine_120 : decode cX12_readsLine 120 = .ok (.getfield 131, 3) := by decide +kernel
theorem dX12_readsLine_123 : decode cX12_readsLine 123 = .ok (.bipush 25, 2) := by decide +kernel
theorem dX12_readsLine_125 : decode cX12_readsLine 125 = .ok (.iaload, 1) := by decide +kernel
theorem dX12_readsLine_126 : decode cX12_readsLine 126 = .ok (.ifCond .ge 18, 3) := by decide +kernel
theorem dX12_readsLine_129 : decode cX12_readsLine 129 = .ok (.iload_n 1, 1) := by decide +kernel
theorem dX12_readsLine_130 : decode cX12_readsLine 130 = .ok (.iconst 5, 1) := by decide +kernel
theorem dX12_readsLine_131 : decode cX12_readsLine 131 = .ok (.if_icmp .ne 19, 3) := by decide +kernel
theorem dX12_readsLine_134 : decode cX12_readsLine 134 = .ok (.aload_n 0, 1) := by decide +kernel
theorem dX12_readsLine_135 : decode cX12_readsLine 135 = .ok (.getfield 134, 3) := by decide +kernel
theorem dX12_readsLine_138 : decode cX12_readsLine 138 = .ok (.bipush 25, 2) := by decide +kernel
theorem dX12_readsLine_140 : decode cX12_readsLine 140 = .ok (.iaload, 1) := by decide +kernel
theorem dX12_readsLine_141 : decode cX12_readsLine 141 = .ok (.ifCond .lt 9, 3) := by decide +kernel
theorem dX12_readsLine_144 : decode cX12_readsLine 144 = .ok (.aload_n 0, 1) := by decide +kernel
theorem dX12_readsLine_145 : decode cX12_readsLine 145 = .ok (.iconst 3, 1) := by decide +kernel
theorem dX12_readsLine_146 : decode cX12_readsLine 146 = .ok (.invokevirtual 275, 3) := by decide +kernel
theorem dX12_readsLine_149 : decode cX12_readsLine 149 = .ok (.ireturn, 1) := by decide +kernel
theorem dX12_readsLine_150 : decode cX12_readsLine 150 = .ok (.iload_n 1, 1) := by decide +kernel
theorem dX12_readsLine_151 : decode cX12_readsLine 151 = .ok (.iconst 3, 1) := by decide +kernel
theorem dX12_readsLine_152 : decode cX12_readsLine 152 = .ok (.if_icmp .ne 21, 3) := by decide +kernel
theorem dX12_readsLine_155 : decode cX12_readsLine 155 = .ok (.aload_n 0, 1) := by decide +kernel
theorem dX12_readsLine_156 : decode cX12_readsLine 156 = .ok (.getfield 128, 3) := by decide +kernel
theorem dX12_readsLine_159 : decode cX12_readsLine 159 = .ok (.bipush 25, 2) := by decide +kernel
theorem dX12_readsLine_161 : decode cX12_readsLine 161 = .ok (.iaload, 1) := by decide +kernel
theorem dX12_readsLine_162 : decode cX12_readsLine 162 = .ok (.bipush 8, 2) := by decide +kernel
theorem dX12_readsLine_164 : decode cX12_readsLine 164 = .ok (.if_icmp .ne 9, 3) := by decide +kernel
theorem dX12_readsLine_167 : decode cX12_readsLine 167 = .ok (.aload_n 0, 1) := by decide +kernel
theorem dX12_readsLine_168 : decode cX12_readsLine 168 = .ok (.iconst 5, 1) := by decide +kernel
theorem dX12_readsLine_169 : decode cX12_readsLine 169 = .ok (.invokevirtual 275, 3) := by decide +kernel
theorem dX12_readsLine_172 : decode cX12_readsLine 172 = .ok (.ireturn, 1) := by decide +kernel
theorem dX12_readsLine_173 : decode cX12_readsLine 173 = .ok (.aload_n 0, 1) := by decide +kernel
theorem dX12_readsLine_174 : decode cX12_readsLine 174 = .ok (.invokevirtual 278, 3) := by decide +kernel
theorem dX12_readsLine_177 : decode cX12_readsLine 177 = .ok (.iload_n 1, 1) := by decide +kernel
theorem dX12_readsLine_178 : decode cX12_readsLine 178 = .ok (.iconst 3, 1) := by decide +kernel
theorem dX12_readsLine_179 : decode cX12_readsLine 179 = .ok (.if_icmp .ge 9, 3) := by decide +kernel
theorem dX12_readsLine_182 : decode cX12_readsLine 182 = .ok (.aload_n 0, 1) := by decide +kernel
theorem dX12_readsLine_183 : decode cX12_readsLine 183 = .ok (.iload_n 1, 1) := by decide +kernel
theorem dX12_readsLine_184 : decode cX12_readsLine 184 = .ok (.invokevirtual 342, 3) := by decide +kernel
theorem dX12_readsLine_187 : decode cX12_readsLine 187 = .ok (.ireturn, 1) := by decide +kernel
theorem dX12_readsLine_188 : decode cX12_readsLine 188 = .ok (.iload_n 1, 1) := by decide +kernel
theorem dX12_readsLine_189 : decode cX12_readsLine 189 = .ok (.iconst 3, 1) := by decide +kernel
theorem dX12_readsLine_190 : decode cX12_readsLine 190 = .ok (.if_icmp .ne 54, 3) := by decide +kernel
theorem dX12_readsLine_193 : decode cX12_readsLine 193 = .ok (.aload_n 0, 1) := by decide +kernel
theorem dX12_readsLine_194 : decode cX12_readsLine 194 = .ok (.ldc2_w 345, 3) := by decide +kernel
theorem dX12_readsLine_197 : decode cX12_readsLine 197 = .ok (.invokevirtual 318, 3) := by decide +kernel
theorem dX12_readsLine_200 : decode cX12_readsLine 200 = .ok (.ifCond .ne 9, 3) := by decide +kernel
theorem dX12_readsLine_203 : decode cX12_readsLine 203 = .ok (.aload_n 0, 1) := by decide +kernel
theorem dX12_readsLine_204 : decode cX12_readsLine 204 = .ok (.iconst 1, 1) := by decide +kernel
theorem dX12_readsLine_205 : decode cX12_readsLine 205 = .ok (.invokevirtual 275, 3) := by decide +kernel
theorem dX12_readsLine_208 : decode cX12_readsLine 208 = .ok (.ireturn, 1) := by decide +kernel
theorem dX12_readsLine_209 : decode cX12_readsLine 209 = .ok (.aload_n 0, 1) := by decide +kernel
theorem dX12_readsLine_210 : decode cX12_readsLine 210 = .ok (.invokevirtual 278, 3) := by decide +kernel
theorem dX12_readsLine_213 : decode cX12_readsLine 213 = .ok (.aload_n 0, 1) := by decide +kernel
theorem dX12_readsLine_214 : decode cX12_readsLine 214 = .ok (.iconst 3, 1) := by decide +kernel
theorem dX12_readsLine_215 : decode cX12_readsLine 215 = .ok (.aload_n 0, 1) := by decide +kernel
theorem dX12_readsLine_216 : decode cX12_readsLine 216 = .ok (.getfield 128, 3) := by decide +kernel
theorem dX12_readsLine_219 : decode cX12_readsLine 219 = .ok (.bipush 25, 2) := by decide +kernel
theorem dX12_readsLine_221 : decode cX12_readsLine 221 = .ok (.iaload, 1) := by decide +kernel
theorem dX12_readsLine_222 : decode cX12_readsLine 222 = .ok (.iadd, 1) := by decide +kernel
theorem dX12_readsLine_223 : decode cX12_readsLine 223 = .ok (.invokevirtual 342, 3) := by decide +kernel
theorem dX12_readsLine_226 : decode cX12_readsLine 226 = .ok (.ifCond .ne 5, 3) := by decide +kernel
theorem dX12_readsLine_229 : decode cX12_readsLine 229 = .ok (.iconst 0, 1) := by decide +kernel
theorem dX12_readsLine_230 : decode cX12_readsLine 230 = .ok (.ireturn, 1) := by decide +kernel
theorem dX12_readsLine_231 : decode cX12_readsLine 231 = .ok (.aload_n 0, 1) := by decide +kernel
theorem dX12_readsLine_232 : decode cX12_readsLine 232 = .ok (.getfield 128, 3) := by decide +kernel
theorem dX12_readsLine_235 : decode cX12_readsLine 235 = .ok (.bipush 25, 2) := by decide +kernel
theorem dX12_readsLine_237 : decode cX12_readsLine 237 = .ok (.dup2, 1) := by decide +kernel
theorem dX12_readsLine_238 : decode cX12_readsLine 238 = .ok (.iaload, 1) := by decide +kernel
theorem dX12_readsLine_239 : decode cX12_readsLine 239 = .ok (.iconst 1, 1) := by decide +kernel
theorem dX12_readsLine_240 : decode cX12_readsLine 240 = .ok (.iadd, 1) := by decide +kernel
theorem dX12_readsLine_241 : decode cX12_readsLine 241 = .ok (.iastore, 1) := by decide +kernel
theorem dX12_readsLine_242 : decode cX12_readsLine 242 = .ok (.iconst 1, 1) := by decide +kernel
theorem dX12_readsLine_243 : decode cX12_readsLine 243 = .ok (.ireturn, 1) := by decide +kernel
theorem dX12_readsLine_244 : decode cX12_readsLine 244 = .ok (.iload_n 1, 1) := by decide +kernel
theorem dX12_readsLine_245 : decode cX12_readsLine 245 = .ok (.iconst 4, 1) := by decide +kernel
theorem dX12_readsLine_246 : decode cX12_readsLine 246 = .ok (.if_icmp .ne 68, 3) := by decide +kernel
theorem dX12_readsLine_249 : decode cX12_readsLine 249 = .ok (.aload_n 0, 1) := by decide +kernel
theorem dX12_readsLine_250 : decode cX12_readsLine 250 = .ok (.ldc2_w 284, 3) := by decide +kernel
theorem dX12_readsLine_253 : decode cX12_readsLine 253 = .ok (.invokevirtual 318, 3) := by decide +kernel
theorem dX12_readsLine_256 : decode cX12_readsLine 256 = .ok (.ifCond .eq 7, 3) := by decide +kernel
theorem dX12_readsLine_259 : decode cX12_readsLine 259 = .ok (.iconst 0, 1) := by decide +kernel
theorem dX12_readsLine_260 : decode cX12_readsLine 260 = .ok (.goto 32, 3) := by decide +kernel
theorem dX12_readsLine_263 : decode cX12_readsLine 263 = .ok (.aload_n 0, 1) := by decide +kernel
theorem dX12_readsLine_264 : decode cX12_readsLine 264 = .ok (.ldc2_w 286, 3) := by decide +kernel
theorem dX12_readsLine_267 : decode cX12_readsLine 267 = .ok (.invokevirtual 318, 3) := by decide +kernel
theorem dX12_readsLine_270 : decode cX12_readsLine 270 = .ok (.ifCond .eq 7, 3) := by decide +kernel
theorem dX12_readsLine_273 : decode cX12_readsLine 273 = .ok (.iconst 1, 1) := by decide +kernel
theorem dX12_readsLine_274 : decode cX12_readsLine 274 = .ok (.goto 18, 3) := by decide +kernel
theorem dX12_readsLine_277 : decode cX12_readsLine 277 = .ok (.aload_n 0, 1) := by decide +kernel
theorem dX12_readsLine_278 : decode cX12_readsLine 278 = .ok (.ldc2_w 347, 3) := by decide +kernel
theorem dX12_readsLine_281 : decode cX12_readsLine 281 = .ok (.invokevirtual 318, 3) := by decide +kernel
theorem dX12_readsLine_284 : decode cX12_readsLine 284 = .ok (.ifCond .eq 7, 3) := by decide +kernel
theorem dX12_readsLine_287 : decode cX12_readsLine 287 = .ok (.iconst 2, 1) := by decide +kernel
theorem dX12_readsLine_288 : decode cX12_readsLine 288 = .ok (.goto 4, 3) := by decide +kernel
theorem dX12_readsLine_291 : decode cX12_readsLine 291 = .ok (.iconst (-1), 1) := by decide +kernel
theorem dX12_readsLine_292 : decode cX12_readsLine 292 = .ok (.istore_n 2, 1) := by decide +kernel
theorem dX12_readsLine_293 : decode cX12_readsLine 293 = .ok (.iload_n 2, 1) := by decide +kernel
theorem dX12_readsLine_294 : decode cX12_readsLine 294 = .ok (.ifCond .ge 9, 3) := by decide +kernel
theorem dX12_readsLine_297 : decode cX12_readsLine 297 = .ok (.aload_n 0, 1) := by decide +kernel
theorem dX12_readsLine_298 : decode cX12_readsLine 298 = .ok (.iconst 1, 1) := by decide +kernel
theorem dX12_readsLine_299 : decode cX12_readsLine 299 = .ok (.invokevirtual 275, 3) := by decide +kernel
theorem dX12_readsLine_302 : decode cX12_readsLine 302 = .ok (.ireturn, 1) := by decide +kernel
theorem dX12_readsLine_303 : decode cX12_readsLine 303 = .ok (.aload_n 0, 1) := by decide +kernel
theorem dX12_readsLine_304 : decode cX12_readsLine 304 = .ok (.getfield 131, 3) := by decide +kernel
theorem dX12_readsLine_307 : decode cX12_readsLine 307 = .ok (.bipush 25, 2) := by decide +kernel
theorem dX12_readsLine_309 : decode cX12_readsLine 309 = .ok (.iload_n 2, 1) := by decide +kernel
theorem dX12_readsLine_310 : decode cX12_readsLine 310 = .ok (.iastore, 1) := by decide +kernel
theorem dX12_readsLine_311 : decode cX12_readsLine 311 = .ok (.goto 43, 3) := by decide +kernel
theorem dX12_readsLine_314 : decode cX12_readsLine 314 = .ok (.aload_n 0, 1) := by decide +kernel
theorem dX12_readsLine_315 : decode cX12_readsLine 315 = .ok (.getfield 258, 3) := by decide +kernel
theorem dX12_readsLine_318 : decode cX12_readsLine 318 = .ok (.iconst 2, 1) := by decide +kernel
theorem dX12_readsLine_319 : decode cX12_readsLine 319 = .ok (.if_icmp .eq 9, 3) := by decide +kernel
theorem dX12_readsLine_322 : decode cX12_readsLine 322 = .ok (.aload_n 0, 1) := by decide +kernel
theorem dX12_readsLine_323 : decode cX12_readsLine 323 = .ok (.iconst 1, 1) := by decide +kernel
theorem dX12_readsLine_324 : decode cX12_readsLine 324 = .ok (.invokevirtual 275, 3) := by decide +kernel
theorem dX12_readsLine_327 : decode cX12_readsLine 327 = .ok (.ireturn, 1) := by decide +kernel
theorem dX12_readsLine_328 : decode cX12_readsLine 328 = .ok (.aload_n 0, 1) := by decide +kernel
theorem dX12_readsLine_329 : decode cX12_readsLine 329 = .ok (.getfield 255, 3) := by decide +kernel
theorem dX12_readsLine_332 : decode cX12_readsLine 332 = .ok (.bipush 50, 2) := by decide +kernel
theorem dX12_readsLine_334 : decode cX12_readsLine 334 = .ok (.if_icmp .le 9, 3) := by decide +kernel
theorem dX12_readsLine_337 : decode cX12_readsLine 337 = .ok (.aload_n 0, 1) := by decide +kernel
theorem dX12_readsLine_338 : decode cX12_readsLine 338 = .ok (.iconst 4, 1) := by decide +kernel
theorem dX12_readsLine_339 : decode cX12_readsLine 339 = .ok (.invokevirtual 275, 3) := by decide +kernel
theorem dX12_readsLine_342 : decode cX12_readsLine 342 = .ok (.ireturn, 1) := by decide +kernel
theorem dX12_readsLine_343 : decode cX12_readsLine 343 = .ok (.aload_n 0, 1) := by decide +kernel
theorem dX12_readsLine_344 : decode cX12_readsLine 344 = .ok (.getfield 134, 3) := by decide +kernel
theorem dX12_readsLine_347 : decode cX12_readsLine 347 = .ok (.bipush 25, 2) := by decide +kernel
theorem dX12_readsLine_349 : decode cX12_readsLine 349 = .ok (.aload_n 0, 1) := by decide +kernel
theorem dX12_readsLine_350 : decode cX12_readsLine 350 = .ok (.getfield 255, 3) := by decide +kernel
theorem dX12_readsLine_353 : decode cX12_readsLine 353 = .ok (.iastore, 1) := by decide +kernel
theorem dX12_readsLine_354 : decode cX12_readsLine 354 = .ok (.aload_n 0, 1) := by decide +kernel
theorem dX12_readsLine_355 : decode cX12_readsLine 355 = .ok (.invokevirtual 278, 3) := by decide +kernel
theorem dX12_readsLine_358 : decode cX12_readsLine 358 = .ok (.aload_n 0, 1) := by decide +kernel
theorem dX12_readsLine_359 : decode cX12_readsLine 359 = .ok (.invokevirtual 349, 3) := by decide +kernel
theorem dX12_readsLine_362 : decode cX12_readsLine 362 = .ok (.ireturn, 1) := by decide +kernel
theorem dX12_copies_0 : decode cX12_copies 0 = .ok (.sipush 1000, 3) := by decide +kernel
theorem dX12_copies_3 : decode cX12_copies 3 = .ok (.iload_n 2, 1) := by decide +kernel
theorem dX12_copies_4 : decode cX12_copies 4 = .ok (.iload_n 1, 1) := by decide +kernel
theorem dX12_copies_5 : decode cX12_copies 5 = .ok (.isub, 1) := by decide +kernel
theorem dX12_copies_6 : decode cX12_copies 6 = .ok (.imul, 1) := by decide +kernel
theorem dX12_copies_7 : decode cX12_copies 7 = .ok (.istore_n 3, 1) := by decide +kernel
theorem dX12_copies_8 : decode cX12_copies 8 = .ok (.iconst 0, 1) := by decide +kernel
theorem dX12_copies_9 : decode cX12_copies 9 = .ok (.istore 4, 2) := by decide +kernel
theorem dX12_copies_11 : decode cX12_copies 11 = .ok (.iload 4, 2) := by decide +kernel
theorem dX12_copies_13 : decode cX12_copies 13 = .ok (.bipush 11, 2) := by decide +kernel
theorem dX12_copies_15 : decode cX12_copies 15 = .ok (.if_icmp .ge 74, 3) := by decide +kernel
theorem dX12_copies_18 : decode cX12_copies 18 = .ok (.aload_n 0, 1) := by decide +kernel
theorem dX12_copies_19 : decode cX12_copies 19 = .ok (.getfield 122, 3) := by decide +kernel
theorem dX12_copies_22 : decode cX12_copies 22 = .ok (.bipush 11, 2) := by decide +kernel
theorem dX12_copies_24 : decode cX12_copies 24 = .ok (.iload_n 1, 1) := by decide +kernel
theorem dX12_copies_25 : decode cX12_copies 25 = .ok (.imul, 1) := by decide +kernel
theorem dX12_copies_26 : decode cX12_copies 26 = .ok (.iload 4, 2) := by decide +kernel
theorem dX12_copies_28 : decode cX12_copies 28 = .ok (.iadd, 1) := by decide +kernel
theorem dX12_copies_29 : decode cX12_copies 29 = .ok (.iaload, 1) := by decide +kernel
theorem dX12_copies_30 : decode cX12_copies 30 = .ok (.istore 5, 2) := by decide +kernel
theorem dX12_copies_32 : decode cX12_copies 32 = .ok (.aload_n 0, 1) := by decide +kernel
theorem dX12_copies_33 : decode cX12_copies 33 = .ok (.getfield 122, 3) := by decide +kernel
theorem dX12_copies_36 : decode cX12_copies 36 = .ok (.bipush 11, 2) := by decide +kernel
theorem dX12_copies_38 : decode cX12_copies 38 = .ok (.iload_n 2, 1) := by decide +kernel
theorem dX12_copies_39 : decode cX12_copies 39 = .ok (.imul, 1) := by decide +kernel
theorem dX12_copies_40 : decode cX12_copies 40 = .ok (.iload 4, 2) := by decide +kernel
theorem dX12_copies_42 : decode cX12_copies 42 = .ok (.iadd, 1) := by decide +kernel
theorem dX12_copies_43 : decode cX12_copies 43 = .ok (.iload 5, 2) := by decide +kernel
theorem dX12_copies_45 : decode cX12_copies 45 = .ok (.ifCond .ge 7, 3) := by decide +kernel
theorem dX12_copies_48 : decode cX12_copies 48 = .ok (.iconst (-1), 1) := by decide +kernel
theorem dX12_copies_49 : decode cX12_copies 49 = .ok (.goto 7, 3) := by decide +kernel
theorem dX12_copies_52 : decode cX12_copies 52 = .ok (.iload 5, 2) := by decide +kernel
theorem dX12_copies_54 : decode cX12_copies 54 = .ok (.iload_n 3, 1) := by decide +kernel
theorem dX12_copies_55 : decode cX12_copies 55 = .ok (.iadd, 1) := by decide +kernel
theorem dX12_copies_56 : decode cX12_copies 56 = .ok (.iastore, 1) := by decide +kernel
theorem dX12_copies_57 : decode cX12_copies 57 = .ok (.aload_n 0, 1) := by decide +kernel
theorem dX12_copies_58 : decode cX12_copies 58 = .ok (.getfield 125, 3) := by decide +kernel
theorem dX12_copies_61 : decode cX12_copies 61 = .ok (.bipush 11, 2) := by decide +kernel
theorem dX12_copies_63 : decode cX12_copies 63 = .ok (.iload_n 2, 1) := by decide +kernel
theorem dX12_copies_64 : decode cX12_copies 64 = .ok (.imul, 1) := by decide +kernel
theorem dX12_copies_65 : decode cX12_copies 65 = .ok (.iload 4, 2) := by decide +kernel
theorem dX12_copies_67 : decode cX12_copies 67 = .ok (.iadd, 1) := by decide +kernel
theorem dX12_copies_68 : decode cX12_copies 68 = .ok (.aload_n 0, 1) := by decide +kernel
theorem dX12_copies_69 : decode cX12_copies 69 = .ok (.getfield 125, 3) := by decide +kernel
theorem dX12_copies_72 : decode cX12_copies 72 = .ok (.bipush 11, 2) := by decide +kernel
theorem dX12_copies_74 : decode cX12_copies 74 = .ok (.iload_n 1, 1) := by decide +kernel
theorem dX12_copies_75 : decode cX12_copies 75 = .ok (.imul, 1) := by decide +kernel
theorem dX12_copies_76 : decode cX12_copies 76 = .ok (.iload 4, 2) := by decide +kernel
theorem dX12_copies_78 : decode cX12_copies 78 = .ok (.iadd, 1) := by decide +kernel
theorem dX12_copies_79 : decode cX12_copies 79 = .ok (.iaload, 1) := by decide +kernel
theorem dX12_copies_80 : decode cX12_copies 80 = .ok (.iload_n 3, 1) := by decide +kernel
theorem dX12_copies_81 : decode cX12_copies 81 = .ok (.iadd, 1) := by decide +kernel
theorem dX12_copies_82 : decode cX12_copies 82 = .ok (.iastore, 1) := by decide +kernel
theorem dX12_copies_83 : decode cX12_copies 83 = .ok (.iinc 4 1, 3) := by decide +kernel
theorem dX12_copies_86 : decode cX12_copies 86 = .ok (.goto (-75), 3) := by decide +kernel
theorem dX12_copies_89 : decode cX12_copies 89 = .ok (.aload_n 0, 1) := by decide +kernel
theorem dX12_copies_90 : decode cX12_copies 90 = .ok (.getfield 128, 3) := by decide +kernel
theorem dX12_copies_93 : decode cX12_copies 93 = .ok (.iload_n 2, 1) := by decide +kernel
theorem dX12_copies_94 : decode cX12_copies 94 = .ok (.aload_n 0, 1) := by decide +kernel
theorem dX12_copies_95 : decode cX12_copies 95 = .ok (.getfield 128, 3) := by decide +kernel
theorem dX12_copies_98 : decode cX12_copies 98 = .ok (.iload_n 1, 1) := by decide +kernel
theorem dX12_copies_99 : decode cX12_copies 99 = .ok (.iaload, 1) := by decide +kernel
theorem dX12_copies_100 : decode cX12_copies 100 = .ok (.iastore, 1) := by decide +kernel
theorem dX12_copies_101 : decode cX12_copies 101 = .ok (.aload_n 0, 1) := by decide +kernel
theorem dX12_copies_102 : decode cX12_copies 102 = .ok (.getfield 131, 3) := by decide +kernel
theorem dX12_copies_105 : decode cX12_copies 105 = .ok (.iload_n 2, 1) := by decide +kernel
theorem dX12_copies_106 : decode cX12_copies 106 = .ok (.aload_n 0, 1) := by decide +kernel
theorem dX12_copies_107 : decode cX12_copies 107 = .ok (.getfield 131, 3) := by decide +kernel
theorem dX12_copies_110 : decode cX12_copies 110 = .ok (.iload_n 1, 1) := by decide +kernel
theorem dX12_copies_111 : decode cX12_copies 111 = .ok (.iaload, 1) := by decide +kernel
theorem dX12_copies_112 : decode cX12_copies 112 = .ok (.iastore, 1) := by decide +kernel
theorem dX12_copies_113 : decode cX12_copies 113 = .ok (.aload_n 0, 1) := by decide +kernel
theorem dX12_copies_114 : decode cX12_copies 114 = .ok (.getfield 134, 3) := by decide +kernel
theorem dX12_copies_117 : decode cX12_copies 117 = .ok (.iload_n 2, 1) := by decide +kernel
theorem dX12_copies_118 : decode cX12_copies 118 = .ok (.aload_n 0, 1) := by decide +kernel
theorem dX12_copies_119 : decode cX12_copies 119 = .ok (.getfield 134, 3) := by decide +kernel
theorem dX12_copies_122 : decode cX12_copies 122 = .ok (.iload_n 1, 1) := by decide +kernel
theorem dX12_copies_123 : decode cX12_copies 123 = .ok (.iaload, 1) := by decide +kernel
theorem dX12_copies_124 : decode cX12_copies 124 = .ok (.iastore, 1) := by decide +kernel
theorem dX12_copies_125 : decode cX12_copies 125 = .ok (.iconst 0, 1) := by decide +kernel
theorem dX12_copies_126 : decode cX12_copies 126 = .ok (.istore 4, 2) := by decide +kernel
theorem dX12_copies_128 : decode cX12_copies 128 = .ok (.iload 4, 2) := by decide +kernel
theorem dX12_copies_130 : decode cX12_copies 130 = .ok (.sipush 1000, 3) := by decide +kernel
theorem dX12_copies_133 : decode cX12_copies 133 = .ok (.if_icmp .ge 35, 3) := by decide +kernel
theorem dX12_copies_136 : decode cX12_copies 136 = .ok (.aload_n 0, 1) := by decide +kernel
theorem dX12_copies_137 : decode cX12_copies 137 = .ok (.getfield 137, 3) := by decide +kernel
theorem dX12_copies_140 : decode cX12_copies 140 = .ok (.sipush 1000, 3) := by decide +kernel
theorem dX12_copies_143 : decode cX12_copies 143 = .ok (.iload_n 2, 1) := by decide +kernel
theorem dX12_copies_144 : decode cX12_copies 144 = .ok (.imul, 1) := by decide +kernel
theorem dX12_copies_145 : decode cX12_copies 145 = .ok (.iload 4, 2) := by decide +kernel
theorem dX12_copies_147 : decode cX12_copies 147 = .ok (.iadd, 1) := by decide +kernel
theorem dX12_copies_148 : decode cX12_copies 148 = .ok (.aload_n 0, 1) := by decide +kernel
theorem dX12_copies_149 : decode cX12_copies 149 = .ok (.getfield 137, 3) := by decide +kernel
theorem dX12_copies_152 : decode cX12_copies 152 = .ok (.sipush 1000, 3) := by decide +kernel
theorem dX12_copies_155 : decode cX12_copies 155 = .ok (.iload_n 1, 1) := by decide +kernel
theorem dX12_copies_156 : decode cX12_copies 156 = .ok (.imul, 1) := by decide +kernel
theorem dX12_copies_157 : decode cX12_copies 157 = .ok (.iload 4, 2) := by decide +kernel
theorem dX12_copies_159 : decode cX12_copies 159 = .ok (.iadd, 1) := by decide +kernel
theorem dX12_copies_160 : decode cX12_copies 160 = .ok (.iaload, 1) := by decide +kernel
theorem dX12_copies_161 : decode cX12_copies 161 = .ok (.iastore, 1) := by decide +kernel
theorem dX12_copies_162 : decode cX12_copies 162 = .ok (.iinc 4 1, 3) := by decide +kernel
theorem dX12_copies_165 : decode cX12_copies 165 = .ok (.goto (-37), 3) := by decide +kernel
theorem dX12_copies_168 : decode cX12_copies 168 = .ok (.return_, 1) := by decide +kernel
theorem dX12_pact_0 : decode cX12_pact 0 = .ok (.aload_n 0, 1) := by decide +kernel
theorem dX12_pact_1 : decode cX12_pact 1 = .ok (.iconst 0, 1) := by decide +kernel
theorem dX12_pact_2 : decode cX12_pact 2 = .ok (.putfield 206, 3) := by decide +kernel
theorem dX12_pact_5 : decode cX12_pact 5 = .ok (.aload_n 0, 1) := by decide +kernel
theorem dX12_pact_6 : decode cX12_pact 6 = .ok (.aload_n 0, 1) := by decide +kernel
theorem dX12_pact_7 : decode cX12_pact 7 = .ok (.getfield 239, 3) := by decide +kernel
theorem dX12_pact_10 : decode cX12_pact 10 = .ok (.putfield 242, 3) := by decide +kernel
theorem dX12_pact_13 : decode cX12_pact 13 = .ok (.aload_n 0, 1) := by decide +kernel
theorem dX12_pact_14 : decode cX12_pact 14 = .ok (.iconst 0, 1) := by decide +kernel
theorem dX12_pact_15 : decode cX12_pact 15 = .ok (.putfield 239, 3) := by decide +kernel
theorem dX12_pact_18 : decode cX12_pact 18 = .ok (.iconst 0, 1) := by decide +kernel
theorem dX12_pact_19 : decode cX12_pact 19 = .ok (.istore_n 1, 1) := by decide +kernel
theorem dX12_pact_20 : decode cX12_pact 20 = .ok (.iload_n 1, 1) := by decide +kernel
theorem dX12_pact_21 : decode cX12_pact 21 = .ok (.bipush 11, 2) := by decide +kernel
theorem dX12_pact_23 : decode cX12_pact 23 = .ok (.if_icmp .ge 20, 3) := by decide +kernel
theorem dX12_pact_26 : decode cX12_pact 26 = .ok (.aload_n 0, 1) := by decide +kernel
theorem dX12_pact_27 : decode cX12_pact 27 = .ok (.getfield 122, 3) := by decide +kernel
theorem dX12_pact_30 : decode cX12_pact 30 = .ok (.sipush 275, 3) := by decide +kernel
theorem dX12_pact_33 : decode cX12_pact 33 = .ok (.iload_n 1, 1) := by decide +kernel
theorem dX12_pact_34 : decode cX12_pact 34 = .ok (.iadd, 1) := by decide +kernel
theorem dX12_pact_35 : decode cX12_pact 35 = .ok (.iconst (-1), 1) := by decide +kernel
theorem dX12_pact_36 : decode cX12_pact 36 = .ok (.iastore, 1) := by decide +kernel
theorem dX12_pact_37 : decode cX12_pact 37 = .ok (.iinc 1 1, 3) := by decide +kernel
theorem dX12_pact_40 : decode cX12_pact 40 = .ok (.goto (-20), 3) := by decide +kernel
theorem dX12_pact_43 : decode cX12_pact 43 = .ok (.aload_n 0, 1) := by decide +kernel
theorem dX12_pact_44 : decode cX12_pact 44 = .ok (.getfield 128, 3) := by decide +kernel
theorem dX12_pact_47 : decode cX12_pact 47 = .ok (.bipush 25, 2) := by decide +kernel
theorem dX12_pact_49 : decode cX12_pact 49 = .ok (.iconst 0, 1) := by decide +kernel
theorem dX12_pact_50 : decode cX12_pact 50 = .ok (.iastore, 1) := by decide +kernel
theorem dX12_pact_51 : decode cX12_pact 51 = .ok (.aload_n 0, 1) := by decide +kernel
theorem dX12_pact_52 : decode cX12_pact 52 = .ok (.getfield 131, 3) := by decide +kernel
theorem dX12_pact_55 : decode cX12_pact 55 = .ok (.bipush 25, 2) := by decide +kernel
theorem dX12_pact_57 : decode cX12_pact 57 = .ok (.iconst (-1), 1) := by decide +kernel
theorem dX12_pact_58 : decode cX12_pact 58 = .ok (.iastore, 1) := by decide +kernel
theorem dX12_pact_59 : decode cX12_pact 59 = .ok (.aload_n 0, 1) := by decide +kernel
theorem dX12_pact_60 : decode cX12_pact 60 = .ok (.getfield 134, 3) := by decide +kernel
theorem dX12_pact_63 : decode cX12_pact 63 = .ok (.bipush 25, 2) := by decide +kernel
theorem dX12_pact_65 : decode cX12_pact 65 = .ok (.iconst (-1), 1) := by decide +kernel
theorem dX12_pact_66 : decode cX12_pact 66 = .ok (.iastore, 1) := by decide +kernel
theorem dX12_pact_67 : decode cX12_pact 67 = .ok (.aload_n 0, 1) := by decide +kernel
theorem dX12_pact_68 : decode cX12_pact 68 = .ok (.sipush 25000, 3) := by decide +kernel
theorem dX12_pact_71 : decode cX12_pact 71 = .ok (.putfield 281, 3) := by decide +kernel
theorem dX12_pact_74 : decode cX12_pact 74 = .ok (.aload_n 0, 1) := by decide +kernel
theorem dX12_pact_75 : decode cX12_pact 75 = .ok (.iconst 0, 1) := by decide +kernel
theorem dX12_pact_76 : decode cX12_pact 76 = .ok (.putfield 245, 3) := by decide +kernel
theorem dX12_pact_79 : decode cX12_pact 79 = .ok (.aload_n 0, 1) := by decide +kernel
theorem dX12_pact_80 : decode cX12_pact 80 = .ok (.invokevirtual 278, 3) := by decide +kernel
theorem dX12_pact_83 : decode cX12_pact 83 = .ok (.aload_n 0, 1) := by decide +kernel
theorem dX12_pact_84 : decode cX12_pact 84 = .ok (.getfield 258, 3) := by decide +kernel
theorem dX12_pact_87 : decode cX12_pact 87 = .ok (.ifCond .eq 15, 3) := by decide +kernel
theorem dX12_pact_90 : decode cX12_pact 90 = .ok (.aload_n 0, 1) := by decide +kernel
theorem dX12_pact_91 : decode cX12_pact 91 = .ok (.invokevirtual 353, 3) := by decide +kernel
theorem dX12_pact_94 : decode cX12_pact 94 = .ok (.ifCond .ne (-11), 3) := by decide +kernel
theorem dX12_pact_97 : decode cX12_pact 97 = .ok (.aload_n 0, 1) := by decide +kernel
theorem dX12_pact_98 : decode cX12_pact 98 = .ok (.getfield 269, 3) := by decide +kernel
theorem dX12_pact_101 : decode cX12_pact 101 = .ok (.ireturn, 1) := by decide +kernel
theorem dX12_pact_102 : decode cX12_pact 102 = .ok (.aload_n 0, 1) := by decide +kernel
theorem dX12_pact_103 : decode cX12_pact 103 = .ok (.bipush 25, 2) := by decide +kernel
theorem dX12_pact_105 : decode cX12_pact 105 = .ok (.bipush 24, 2) := by decide +kernel
theorem dX12_pact_107 : decode cX12_pact 107 = .ok (.invokevirtual 356, 3) := by decide +kernel
theorem dX12_pact_110 : decode cX12_pact 110 = .ok (.aload_n 0, 1) := by decide +kernel
theorem dX12_pact_111 : decode cX12_pact 111 = .ok (.getfield 34, 3) := by decide +kernel
theorem dX12_pact_114 : decode cX12_pact 114 = .ok (.iconst 0, 1) := by decide +kernel
theorem dX12_pact_115 : decode cX12_pact 115 = .ok (.iconst 1, 1) := by decide +kernel
theorem dX12_pact_116 : decode cX12_pact 116 = .ok (.iastore, 1) := by decide +kernel
theorem dX12_pact_117 : decode cX12_pact 117 = .ok (.iconst 0, 1) := by decide +kernel
theorem dX12_pact_118 : decode cX12_pact 118 = .ok (.ireturn, 1) := by decide +kernel
theorem dX12_law_0 : decode cX12_law 0 = .ok (.aload_n 0, 1) := by decide +kernel
theorem dX12_law_1 : decode cX12_law 1 = .ok (.iconst 0, 1) := by decide +kernel
theorem dX12_law_2 : decode cX12_law 2 = .ok (.putfield 206, 3) := by decide +kernel
theorem dX12_law_5 : decode cX12_law 5 = .ok (.aload_n 0, 1) := by decide +kernel
theorem dX12_law_6 : decode cX12_law 6 = .ok (.aload_n 0, 1) := by decide +kernel
theorem dX12_law_7 : decode cX12_law 7 = .ok (.getfield 239, 3) := by decide +kernel
theorem dX12_law_10 : decode cX12_law 10 = .ok (.putfield 242, 3) := by decide +kernel
theorem dX12_law_13 : decode cX12_law 13 = .ok (.aload_n 0, 1) := by decide +kernel
theorem dX12_law_14 : decode cX12_law 14 = .ok (.iconst 0, 1) := by decide +kernel
theorem dX12_law_15 : decode cX12_law 15 = .ok (.putfield 239, 3) := by decide +kernel
theorem dX12_law_18 : decode cX12_law 18 = .ok (.iconst 0, 1) := by decide +kernel
theorem dX12_law_19 : decode cX12_law 19 = .ok (.istore_n 1, 1) := by decide +kernel
theorem dX12_law_20 : decode cX12_law 20 = .ok (.iconst (-1), 1) := by decide +kernel
theorem dX12_law_21 : decode cX12_law 21 = .ok (.istore_n 2, 1) := by decide +kernel
theorem dX12_law_22 : decode cX12_law 22 = .ok (.aload_n 0, 1) := by decide +kernel
theorem dX12_law_23 : decode cX12_law 23 = .ok (.iconst 0, 1) := by decide +kernel
theorem dX12_law_24 : decode cX12_law 24 = .ok (.putfield 245, 3) := by decide +kernel
theorem dX12_law_27 : decode cX12_law 27 = .ok (.aload_n 0, 1) := by decide +kernel
theorem dX12_law_28 : decode cX12_law 28 = .ok (.invokevirtual 278, 3) := by decide +kernel
theorem dX12_law_31 : decode cX12_law 31 = .ok (.aload_n 0, 1) := by decide +kernel
theorem dX12_law_32 : decode cX12_law 32 = .ok (.getfield 258, 3) := by decide +kernel
theorem dX12_law_35 : decode cX12_law 35 = .ok (.ifCond .eq 257, 3) := by decide +kernel
theorem dX12_law_38 : decode cX12_law 38 = .ok (.aload_n 0, 1) := by decide +kernel
theorem dX12_law_39 : decode cX12_law 39 = .ok (.ldc2_w 360, 3) := by decide +kernel
theorem dX12_law_42 : decode cX12_law 42 = .ok (.invokevirtual 318, 3) := by decide +kernel
theorem dX12_law_45 : decode cX12_law 45 = .ok (.istore_n 3, 1) := by decide +kernel
theorem dX12_law_46 : decode cX12_law 46 = .ok (.iload_n 3, 1) := by decide +kernel
theorem dX12_law_47 : decode cX12_law 47 = .ok (.ifCond .ne 24, 3) := by decide +kernel
theorem dX12_law_50 : decode cX12_law 50 = .ok (.aload_n 0, 1) := by decide +kernel
theorem dX12_law_51 : decode cX12_law 51 = .ok (.ldc2_w 362, 3) := by decide +kernel
theorem dX12_law_54 : decode cX12_law 54 = .ok (.invokevirtual 318, 3) := by decide +kernel
theorem dX12_law_57 : decode cX12_law 57 = .ok (.ifCond .ne 14, 3) := by decide +kernel
theorem dX12_law_60 : decode cX12_law 60 = .ok (.aload_n 0, 1) := by decide +kernel
theorem dX12_law_61 : decode cX12_law 61 = .ok (.iconst 1, 1) := by decide +kernel
theorem dX12_law_62 : decode cX12_law 62 = .ok (.invokevirtual 275, 3) := by decide +kernel
theorem dX12_law_65 : decode cX12_law 65 = .ok (.pop, 1) := by decide +kernel
theorem dX12_law_66 : decode cX12_law 66 = .ok (.aload_n 0, 1) := by decide +kernel
theorem dX12_law_67 : decode cX12_law 67 = .ok (.getfield 269, 3) := by decide +kernel
theorem dX12_law_70 : decode cX12_law 70 = .ok (.ireturn, 1) := by decide +kernel
theorem dX12_law_71 : decode cX12_law 71 = .ok (.iload_n 3, 1) := by decide +kernel
theorem dX12_law_72 : decode cX12_law 72 = .ok (.ifCond .ne 18, 3) := by decide +kernel
theorem dX12_law_75 : decode cX12_law 75 = .ok (.iload_n 2, 1) := by decide +kernel
theorem dX12_law_76 : decode cX12_law 76 = .ok (.ifCond .lt 14, 3) := by decide +kernel
theorem dX12_law_79 : decode cX12_law 79 = .ok (.aload_n 0, 1) := by decide +kernel
theorem dX12_law_80 : decode cX12_law 80 = .ok (.iconst 3, 1) := by decide +kernel
theorem dX12_law_81 : decode cX12_law 81 = .ok (.invokevirtual 275, 3) := by decide +kernel
theorem dX12_law_84 : decode cX12_law 84 = .ok (.pop, 1) := by decide +kernel
theorem dX12_law_85 : decode cX12_law 85 = .ok (.aload_n 0, 1) := by decide +kernel
theorem dX12_law_86 : decode cX12_law 86 = .ok (.getfield 269, 3) := by decide +kernel
theorem dX12_law_89 : decode cX12_law 89 = .ok (.ireturn, 1) := by decide +kernel
theorem dX12_law_90 : decode cX12_law 90 = .ok (.aload_n 0, 1) := by decide +kernel
theorem dX12_law_91 : decode cX12_law 91 = .ok (.invokevirtual 278, 3) := by decide +kernel
theorem dX12_law_94 : decode cX12_law 94 = .ok (.iload_n 3, 1) := by decide +kernel
theorem dX12_law_95 : decode cX12_law 95 = .ok (.ifCond .eq 133, 3) := by decide +kernel
theorem dX12_law_98 : decode cX12_law 98 = .ok (.aload_n 0, 1) := by decide +kernel
theorem dX12_law_99 : decode cX12_law 99 = .ok (.ldc2_w 330, 3) := by decide +kernel
theorem dX12_law_102 : decode cX12_law 102 = .ok (.invokevirtual 318, 3) := by decide +kernel
theorem dX12_law_105 : decode cX12_law 105 = .ok (.ifCond .eq 7, 3) := by decide +kernel
theorem dX12_law_108 : decode cX12_law 108 = .ok (.iconst 1, 1) := by decide +kernel
theorem dX12_law_109 : decode cX12_law 109 = .ok (.goto 77, 3) := by decide +kernel
theorem dX12_law_112 : decode cX12_law 112 = .ok (.aload_n 0, 1) := by decide +kernel
theorem dX12_law_113 : decode cX12_law 113 = .ok (.ldc2_w 332, 3) := by decide +kernel
theorem dX12_law_116 : decode cX12_law 116 = .ok (.invokevirtual 318, 3) := by decide +kernel
theorem dX12_law_119 : decode cX12_law 119 = .ok (.ifCond .eq 7, 3) := by decide +kernel
theorem dX12_law_122 : decode cX12_law 122 = .ok (.iconst 2, 1) := by decide +kernel
theorem dX12_law_123 : decode cX12_law 123 = .ok (.goto 63, 3) := by decide +kernel
theorem dX12_law_126 : decode cX12_law 126 = .ok (.aload_n 0, 1) := by decide +kernel
theorem dX12_law_127 : decode cX12_law 127 = .ok (.ldc2_w 334, 3) := by decide +kernel
theorem dX12_law_130 : decode cX12_law 130 = .ok (.invokevirtual 318, 3) := by decide +kernel
theorem dX12_law_133 : decode cX12_law 133 = .ok (.ifCond .eq 7, 3) := by decide +kernel
theorem dX12_law_136 : decode cX12_law 136 = .ok (.iconst 4, 1) := by decide +kernel
theorem dX12_law_137 : decode cX12_law 137 = .ok (.goto 49, 3) := by decide +kernel
theorem dX12_law_140 : decode cX12_law 140 = .ok (.aload_n 0, 1) := by decide +kernel
theorem dX12_law_141 : decode cX12_law 141 = .ok (.ldc2_w 336, 3) := by decide +kernel
theorem dX12_law_144 : decode cX12_law 144 = .ok (.invokevirtual 318, 3) := by decide +kernel
theorem dX12_law_147 : decode cX12_law 147 = .ok (.ifCond .eq 8, 3) := by decide +kernel
theorem dX12_law_150 : decode cX12_law 150 = .ok (.bipush 8, 2) := by decide +kernel
theorem dX12_law_152 : decode cX12_law 152 = .ok (.goto 34, 3) := by decide +kernel
theorem dX12_law_155 : decode cX12_law 155 = .ok (.aload_n 0, 1) := by decide +kernel
theorem dX12_law_156 : decode cX12_law 156 = .ok (.ldc2_w 338, 3) := by decide +kernel
theorem dX12_law_159 : decode cX12_law 159 = .ok (.invokevirtual 318, 3) := by decide +kernel
theorem dX12_law_162 : decode cX12_law 162 = .ok (.ifCond .eq 8, 3) := by decide +kernel
theorem dX12_law_165 : decode cX12_law 165 = .ok (.bipush 16, 2) := by decide +kernel
theorem dX12_law_167 : decode cX12_law 167 = .ok (.goto 19, 3) := by decide +kernel
theorem dX12_law_170 : decode cX12_law 170 = .ok (.aload_n 0, 1) := by decide +kernel
theorem dX12_law_171 : decode cX12_law 171 = .ok (.ldc2_w 340, 3) := by decide +kernel
theorem dX12_law_174 : decode cX12_law 174 = .ok (.invokevirtual 318, 3) := by decide +kernel
theorem dX12_law_177 : decode cX12_law 177 = .ok (.ifCond .eq 8, 3) := by decide +kernel
theorem dX12_law_180 : decode cX12_law 180 = .ok (.bipush 32, 2) := by decide +kernel
theorem dX12_law_182 : decode cX12_law 182 = .ok (.goto 4, 3) := by decide +kernel
theorem dX12_law_185 : decode cX12_law 185 = .ok (.iconst 0, 1) := by decide +kernel
theorem dX12_law_186 : decode cX12_law 186 = .ok (.istore 4, 2) := by decide +kernel
theorem dX12_law_188 : decode cX12_law 188 = .ok (.iload 4, 2) := by decide +kernel
theorem dX12_law_190 : decode cX12_law 190 = .ok (.ifCond .eq 10, 3) := by decide +kernel
theorem dX12_law_193 : decode cX12_law 193 = .ok (.iload_n 1, 1) := by decide +kernel
theorem dX12_law_194 : decode cX12_law 194 = .ok (.iload 4, 2) := by decide +kernel
theorem dX12_law_196 : decode cX12_law 196 = .ok (.iand, 1) := by decide +kernel
theorem dX12_law_197 : decode cX12_law 197 = .ok (.ifCond .eq 23, 3) := by decide +kernel
theorem dX12_law_200 : decode cX12_law 200 = .ok (.aload_n 0, 1) := by decide +kernel
theorem dX12_law_201 : decode cX12_law 201 = .ok (.iload 4, 2) := by decide +kernel
theorem dX12_law_203 : decode cX12_law 203 = .ok (.ifCond .ne 7, 3) := by decide +kernel
theorem dX12_law_206 : decode cX12_law 206 = .ok (.iconst 1, 1) := by decide +kernel
theorem dX12_law_207 : decode cX12_law 207 = .ok (.goto 4, 3) := by decide +kernel
theorem dX12_law_210 : decode cX12_law 210 = .ok (.iconst 3, 1) := by decide +kernel
theorem dX12_law_211 : decode cX12_law 211 = .ok (.invokevirtual 275, 3) := by decide +kernel
theorem dX12_law_214 : decode cX12_law 214 = .ok (.pop, 1) := by decide +kernel
theorem dX12_law_215 : decode cX12_law 215 = .ok (.aload_n 0, 1) := by decide +kernel
theorem dX12_law_216 : decode cX12_law 216 = .ok (.getfield 269, 3) := by decide +kernel
theorem dX12_law_219 : decode cX12_law 219 = .ok (.ireturn, 1) := by decide +kernel
theorem dX12_law_220 : decode cX12_law 220 = .ok (.iload_n 1, 1) := by decide +kernel
theorem dX12_law_221 : decode cX12_law 221 = .ok (.iload 4, 2) := by decide +kernel
theorem dX12_law_223 : decode cX12_law 223 = .ok (.ior, 1) := by decide +kernel
theorem dX12_law_224 : decode cX12_law 224 = .ok (.istore_n 1, 1) := by decide +kernel
theorem dX12_law_225 : decode cX12_law 225 = .ok (.goto 48, 3) := by decide +kernel
theorem dX12_law_228 : decode cX12_law 228 = .ok (.aload_n 0, 1) := by decide +kernel
theorem dX12_law_229 : decode cX12_law 229 = .ok (.getfield 258, 3) := by decide +kernel
theorem dX12_law_232 : decode cX12_law 232 = .ok (.iconst 2, 1) := by decide +kernel
theorem dX12_law_233 : decode cX12_law 233 = .ok (.if_icmp .ne 12, 3) := by decide +kernel
theorem dX12_law_236 : decode cX12_law 236 = .ok (.aload_n 0, 1) := by decide +kernel
theorem dX12_law_237 : decode cX12_law 237 = .ok (.getfield 255, 3) := by decide +kernel
theorem dX12_law_240 : decode cX12_law 240 = .ok (.bipush 99, 2) := by decide +kernel
theorem dX12_law_242 : decode cX12_law 242 = .ok (.if_icmp .le 26, 3) := by decide +kernel
theorem dX12_law_245 : decode cX12_law 245 = .ok (.aload_n 0, 1) := by decide +kernel
theorem dX12_law_246 : decode cX12_law 246 = .ok (.aload_n 0, 1) := by decide +kernel
theorem dX12_law_247 : decode cX12_law 247 = .ok (.getfield 258, 3) := by decide +kernel
theorem dX12_law_250 : decode cX12_law 250 = .ok (.iconst 2, 1) := by decide +kernel
theorem dX12_law_251 : decode cX12_law 251 = .ok (.if_icmp .eq 7, 3) := by decide +kernel
theorem dX12_law_254 : decode cX12_law 254 = .ok (.iconst 1, 1) := by decide +kernel
theorem dX12_law_255 : decode cX12_law 255 = .ok (.goto 4, 3) := by decide +kernel
theorem dX12_law_258 : decode cX12_law 258 = .ok (.iconst 4, 1) := by decide +kernel
theorem dX12_law_259 : decode cX12_law 259 = .ok (.invokevirtual 275, 3) := by decide +kernel
theorem dX12_law_262 : decode cX12_law 262 = .ok (.pop, 1) := by decide +kernel
theorem dX12_law_263 : decode cX12_law 263 = .ok (.aload_n 0, 1) := by decide +kernel
theorem dX12_law_264 : decode cX12_law 264 = .ok (.getfield 269, 3) := by decide +kernel
theorem dX12_law_267 : decode cX12_law 267 = .ok (.ireturn, 1) := by decide +kernel
theorem dX12_law_268 : decode cX12_law 268 = .ok (.aload_n 0, 1) := by decide +kernel
theorem dX12_law_269 : decode cX12_law 269 = .ok (.getfield 255, 3) := by decide +kernel
theorem dX12_law_272 : decode cX12_law 272 = .ok (.istore_n 2, 1) := by decide +kernel
theorem dX12_law_273 : decode cX12_law 273 = .ok (.aload_n 0, 1) := by decide +kernel
theorem dX12_law_274 : decode cX12_law 274 = .ok (.invokevirtual 278, 3) := by decide +kernel
theorem dX12_law_277 : decode cX12_law 277 = .ok (.aload_n 0, 1) := by decide +kernel
theorem dX12_law_278 : decode cX12_law 278 = .ok (.invokevirtual 349, 3) := by decide +kernel
theorem dX12_law_281 : decode cX12_law 281 = .ok (.ifCond .ne 8, 3) := by decide +kernel
theorem dX12_law_284 : decode cX12_law 284 = .ok (.aload_n 0, 1) := by decide +kernel
theorem dX12_law_285 : decode cX12_law 285 = .ok (.getfield 269, 3) := by decide +kernel
theorem dX12_law_288 : decode cX12_law 288 = .ok (.ireturn, 1) := by decide +kernel
theorem dX12_law_289 : decode cX12_law 289 = .ok (.goto (-258), 3) := by decide +kernel
theorem dX12_law_292 : decode cX12_law 292 = .ok (.aload_n 0, 1) := by decide +kernel
theorem dX12_law_293 : decode cX12_law 293 = .ok (.iload_n 1, 1) := by decide +kernel
theorem dX12_law_294 : decode cX12_law 294 = .ok (.putfield 364, 3) := by decide +kernel
theorem dX12_law_297 : decode cX12_law 297 = .ok (.aload_n 0, 1) := by decide +kernel
theorem dX12_law_298 : decode cX12_law 298 = .ok (.iconst 0, 1) := by decide +kernel
theorem dX12_law_299 : decode cX12_law 299 = .ok (.iload_n 2, 1) := by decide +kernel
theorem dX12_law_300 : decode cX12_law 300 = .ok (.invokestatic 228, 3) := by decide +kernel
theorem dX12_law_303 : decode cX12_law 303 = .ok (.putfield 367, 3) := by decide +kernel
theorem dX12_law_306 : decode cX12_law 306 = .ok (.aload_n 0, 1) := by decide +kernel
theorem dX12_law_307 : decode cX12_law 307 = .ok (.getfield 37, 3) := by decide +kernel
theorem dX12_law_310 : decode cX12_law 310 = .ok (.iconst 0, 1) := by decide +kernel
theorem dX12_law_311 : decode cX12_law 311 = .ok (.iconst 1, 1) := by decide +kernel
theorem dX12_law_312 : decode cX12_law 312 = .ok (.iastore, 1) := by decide +kernel
theorem dX12_law_313 : decode cX12_law 313 = .ok (.iconst 0, 1) := by decide +kernel
theorem dX12_law_314 : decode cX12_law 314 = .ok (.ireturn, 1) := by decide +kernel
theorem dX12_opens_0 : decode cX12_opens 0 = .ok (.aload_n 0, 1) := by decide +kernel
theorem dX12_opens_1 : decode cX12_opens 1 = .ok (.getfield 149, 3) := by decide +kernel
theorem dX12_opens_4 : decode cX12_opens 4 = .ok (.iload_n 1, 1) := by decide +kernel
theorem dX12_opens_5 : decode cX12_opens 5 = .ok (.iconst 0, 1) := by decide +kernel
theorem dX12_opens_6 : decode cX12_opens 6 = .ok (.iastore, 1) := by decide +kernel
theorem dX12_opens_7 : decode cX12_opens 7 = .ok (.aload_n 0, 1) := by decide +kernel
theorem dX12_opens_8 : decode cX12_opens 8 = .ok (.getfield 155, 3) := by decide +kernel
theorem dX12_opens_11 : decode cX12_opens 11 = .ok (.iload_n 1, 1) := by decide +kernel
theorem dX12_opens_12 : decode cX12_opens 12 = .ok (.iconst 0, 1) := by decide +kernel
theorem dX12_opens_13 : decode cX12_opens 13 = .ok (.iastore, 1) := by decide +kernel
theorem dX12_opens_14 : decode cX12_opens 14 = .ok (.aload_n 0, 1) := by decide +kernel
theorem dX12_opens_15 : decode cX12_opens 15 = .ok (.getfield 158, 3) := by decide +kernel
theorem dX12_opens_18 : decode cX12_opens 18 = .ok (.iload_n 1, 1) := by decide +kernel
theorem dX12_opens_19 : decode cX12_opens 19 = .ok (.iconst 0, 1) := by decide +kernel
theorem dX12_opens_20 : decode cX12_opens 20 = .ok (.iastore, 1) := by decide +kernel
theorem dX12_opens_21 : decode cX12_opens 21 = .ok (.aload_n 0, 1) := by decide +kernel
theorem dX12_opens_22 : decode cX12_opens 22 = .ok (.getfield 161, 3) := by decide +kernel
theorem dX12_opens_25 : decode cX12_opens 25 = .ok (.iload_n 1, 1) := by decide +kernel
theorem dX12_opens_26 : decode cX12_opens 26 = .ok (.bipush 20, 2) := by decide +kernel
theorem dX12_opens_28 : decode cX12_opens 28 = .ok (.iastore, 1) := by decide +kernel
theorem dX12_opens_29 : decode cX12_opens 29 = .ok (.aload_n 0, 1) := by decide +kernel
theorem dX12_opens_30 : decode cX12_opens 30 = .ok (.getfield 167, 3) := by decide +kernel
theorem dX12_opens_33 : decode cX12_opens 33 = .ok (.iload_n 1, 1) := by decide +kernel
theorem dX12_opens_34 : decode cX12_opens 34 = .ok (.iconst 0, 1) := by decide +kernel
theorem dX12_opens_35 : decode cX12_opens 35 = .ok (.iastore, 1) := by decide +kernel
theorem dX12_opens_36 : decode cX12_opens 36 = .ok (.return_, 1) := by decide +kernel
theorem dX12_sums_0 : decode cX12_sums 0 = .ok (.aload_n 0, 1) := by decide +kernel
theorem dX12_sums_1 : decode cX12_sums 1 = .ok (.getfield 158, 3) := by decide +kernel
theorem dX12_sums_4 : decode cX12_sums 4 = .ok (.iload_n 1, 1) := by decide +kernel
theorem dX12_sums_5 : decode cX12_sums 5 = .ok (.aload_n 0, 1) := by decide +kernel
theorem dX12_sums_6 : decode cX12_sums 6 = .ok (.getfield 161, 3) := by decide +kernel
theorem dX12_sums_9 : decode cX12_sums 9 = .ok (.iload_n 1, 1) := by decide +kernel
theorem dX12_sums_10 : decode cX12_sums 10 = .ok (.iaload, 1) := by decide +kernel
theorem dX12_sums_11 : decode cX12_sums 11 = .ok (.bipush 21, 2) := by decide +kernel
theorem dX12_sums_13 : decode cX12_sums 13 = .ok (.if_icmp .ne 19, 3) := by decide +kernel
theorem dX12_sums_16 : decode cX12_sums 16 = .ok (.aload_n 0, 1) := by decide +kernel
theorem dX12_sums_17 : decode cX12_sums 17 = .ok (.getfield 158, 3) := by decide +kernel
theorem dX12_sums_20 : decode cX12_sums 20 = .ok (.iload_n 1, 1) := by decide +kernel
theorem dX12_sums_21 : decode cX12_sums 21 = .ok (.iaload, 1) := by decide +kernel
theorem dX12_sums_22 : decode cX12_sums 22 = .ok (.aload_n 0, 1) := by decide +kernel
theorem dX12_sums_23 : decode cX12_sums 23 = .ok (.getfield 164, 3) := by decide +kernel
theorem dX12_sums_26 : decode cX12_sums 26 = .ok (.iload_n 1, 1) := by decide +kernel
theorem dX12_sums_27 : decode cX12_sums 27 = .ok (.iaload, 1) := by decide +kernel
theorem dX12_sums_28 : decode cX12_sums 28 = .ok (.isub, 1) := by decide +kernel
theorem dX12_sums_29 : decode cX12_sums 29 = .ok (.goto 16, 3) := by decide +kernel
theorem dX12_sums_32 : decode cX12_sums 32 = .ok (.aload_n 0, 1) := by decide +kernel
theorem dX12_sums_33 : decode cX12_sums 33 = .ok (.getfield 158, 3) := by decide +kernel
theorem dX12_sums_36 : decode cX12_sums 36 = .ok (.iload_n 1, 1) := by decide +kernel
theorem dX12_sums_37 : decode cX12_sums 37 = .ok (.iaload, 1) := by decide +kernel
theorem dX12_sums_38 : decode cX12_sums 38 = .ok (.aload_n 0, 1) := by decide +kernel
theorem dX12_sums_39 : decode cX12_sums 39 = .ok (.getfield 164, 3) := by decide +kernel
theorem dX12_sums_42 : decode cX12_sums 42 = .ok (.iload_n 1, 1) := by decide +kernel
theorem dX12_sums_43 : decode cX12_sums 43 = .ok (.iaload, 1) := by decide +kernel
theorem dX12_sums_44 : decode cX12_sums 44 = .ok (.iadd, 1) := by decide +kernel
theorem dX12_sums_45 : decode cX12_sums 45 = .ok (.iastore, 1) := by decide +kernel
theorem dX12_sums_46 : decode cX12_sums 46 = .ok (.aload_n 0, 1) := by decide +kernel
theorem dX12_sums_47 : decode cX12_sums 47 = .ok (.getfield 167, 3) := by decide +kernel
theorem dX12_sums_50 : decode cX12_sums 50 = .ok (.iload_n 1, 1) := by decide +kernel
theorem dX12_sums_51 : decode cX12_sums 51 = .ok (.iconst 0, 1) := by decide +kernel
theorem dX12_sums_52 : decode cX12_sums 52 = .ok (.iastore, 1) := by decide +kernel
theorem dX12_sums_53 : decode cX12_sums 53 = .ok (.return_, 1) := by decide +kernel
theorem dX12_tests_0 : decode cX12_tests 0 = .ok (.aload_n 0, 1) := by decide +kernel
theorem dX12_tests_1 : decode cX12_tests 1 = .ok (.iload_n 1, 1) := by decide +kernel
theorem dX12_tests_2 : decode cX12_tests 2 = .ok (.invokevirtual 370, 3) := by decide +kernel
theorem dX12_tests_5 : decode cX12_tests 5 = .ok (.aload_n 0, 1) := by decide +kernel
theorem dX12_tests_6 : decode cX12_tests 6 = .ok (.getfield 158, 3) := by decide +kernel
theorem dX12_tests_9 : decode cX12_tests 9 = .ok (.iload_n 1, 1) := by decide +kernel
theorem dX12_tests_10 : decode cX12_tests 10 = .ok (.iaload, 1) := by decide +kernel
theorem dX12_tests_11 : decode cX12_tests 11 = .ok (.istore_n 2, 1) := by decide +kernel
theorem dX12_tests_12 : decode cX12_tests 12 = .ok (.aload_n 0, 1) := by decide +kernel
theorem dX12_tests_13 : decode cX12_tests 13 = .ok (.getfield 155, 3) := by decide +kernel
theorem dX12_tests_16 : decode cX12_tests 16 = .ok (.iload_n 1, 1) := by decide +kernel
theorem dX12_tests_17 : decode cX12_tests 17 = .ok (.iaload, 1) := by decide +kernel
theorem dX12_tests_18 : decode cX12_tests 18 = .ok (.bipush 24, 2) := by decide +kernel
theorem dX12_tests_20 : decode cX12_tests 20 = .ok (.if_icmp .ne 24, 3) := by decide +kernel
theorem dX12_tests_23 : decode cX12_tests 23 = .ok (.aload_n 0, 1) := by decide +kernel
theorem dX12_tests_24 : decode cX12_tests 24 = .ok (.getfield 152, 3) := by decide +kernel
theorem dX12_tests_27 : decode cX12_tests 27 = .ok (.iload_n 1, 1) := by decide +kernel
theorem dX12_tests_28 : decode cX12_tests 28 = .ok (.iaload, 1) := by decide +kernel
theorem dX12_tests_29 : decode cX12_tests 29 = .ok (.aload_n 0, 1) := by decide +kernel
theorem dX12_tests_30 : decode cX12_tests 30 = .ok (.getfield 158, 3) := by decide +kernel
theorem dX12_tests_33 : decode cX12_tests 33 = .ok (.iload_n 1, 1) := by decide +kernel
theorem dX12_tests_34 : decode cX12_tests 34 = .ok (.iaload, 1) := by decide +kernel
theorem dX12_tests_35 : decode cX12_tests 35 = .ok (.if_icmp .ge 7, 3) := by decide +kernel
theorem dX12_tests_38 : decode cX12_tests 38 = .ok (.iconst 1, 1) := by decide +kernel
theorem dX12_tests_39 : decode cX12_tests 39 = .ok (.goto 4, 3) := by decide +kernel
theorem dX12_tests_42 : decode cX12_tests 42 = .ok (.iconst 0, 1) := by decide +kernel
theorem dX12_tests_43 : decode cX12_tests 43 = .ok (.istore_n 2, 1) := by decide +kernel
theorem dX12_tests_44 : decode cX12_tests 44 = .ok (.aload_n 0, 1) := by decide +kernel
theorem dX12_tests_45 : decode cX12_tests 45 = .ok (.getfield 155, 3) := by decide +kernel
theorem dX12_tests_48 : decode cX12_tests 48 = .ok (.iload_n 1, 1) := by decide +kernel
theorem dX12_tests_49 : decode cX12_tests 49 = .ok (.iaload, 1) := by decide +kernel
theorem dX12_tests_50 : decode cX12_tests 50 = .ok (.bipush 25, 2) := by decide +kernel
theorem dX12_tests_52 : decode cX12_tests 52 = .ok (.if_icmp .ne 24, 3) := by decide +kernel
theorem dX12_tests_55 : decode cX12_tests 55 = .ok (.aload_n 0, 1) := by decide +kernel
theorem dX12_tests_56 : decode cX12_tests 56 = .ok (.getfield 152, 3) := by decide +kernel
theorem dX12_tests_59 : decode cX12_tests 59 = .ok (.iload_n 1, 1) := by decide +kernel
theorem dX12_tests_60 : decode cX12_tests 60 = .ok (.iaload, 1) := by decide +kernel
theorem dX12_tests_61 : decode cX12_tests 61 = .ok (.aload_n 0, 1) := by decide +kernel
theorem dX12_tests_62 : decode cX12_tests 62 = .ok (.getfield 158, 3) := by decide +kernel
theorem dX12_tests_65 : decode cX12_tests 65 = .ok (.iload_n 1, 1) := by decide +kernel
theorem dX12_tests_66 : decode cX12_tests 66 = .ok (.iaload, 1) := by decide +kernel
theorem dX12_tests_67 : decode cX12_tests 67 = .ok (.if_icmp .ne 7, 3) := by decide +kernel
theorem dX12_tests_70 : decode cX12_tests 70 = .ok (.iconst 1, 1) := by decide +kernel
theorem dX12_tests_71 : decode cX12_tests 71 = .ok (.goto 4, 3) := by decide +kernel
theorem dX12_tests_74 : decode cX12_tests 74 = .ok (.iconst 0, 1) := by decide +kernel
theorem dX12_tests_75 : decode cX12_tests 75 = .ok (.istore_n 2, 1) := by decide +kernel
theorem dX12_tests_76 : decode cX12_tests 76 = .ok (.aload_n 0, 1) := by decide +kernel
theorem dX12_tests_77 : decode cX12_tests 77 = .ok (.getfield 149, 3) := by decide +kernel
theorem dX12_tests_80 : decode cX12_tests 80 = .ok (.iload_n 1, 1) := by decide +kernel
theorem dX12_tests_81 : decode cX12_tests 81 = .ok (.iaload, 1) := by decide +kernel
theorem dX12_tests_82 : decode cX12_tests 82 = .ok (.bipush 26, 2) := by decide +kernel
theorem dX12_tests_84 : decode cX12_tests 84 = .ok (.if_icmp .ne 22, 3) := by decide +kernel
theorem dX12_tests_87 : decode cX12_tests 87 = .ok (.aload_n 0, 1) := by decide +kernel
theorem dX12_tests_88 : decode cX12_tests 88 = .ok (.getfield 146, 3) := by decide +kernel
theorem dX12_tests_91 : decode cX12_tests 91 = .ok (.iload_n 1, 1) := by decide +kernel
theorem dX12_tests_92 : decode cX12_tests 92 = .ok (.iaload, 1) := by decide +kernel
theorem dX12_tests_93 : decode cX12_tests 93 = .ok (.ifCond .eq 11, 3) := by decide +kernel
theorem dX12_tests_96 : decode cX12_tests 96 = .ok (.iload_n 2, 1) := by decide +kernel
theorem dX12_tests_97 : decode cX12_tests 97 = .ok (.ifCond .eq 7, 3) := by decide +kernel
theorem dX12_tests_100 : decode cX12_tests 100 = .ok (.iconst 1, 1) := by decide +kernel
theorem dX12_tests_101 : decode cX12_tests 101 = .ok (.goto 4, 3) := by decide +kernel
theorem dX12_tests_104 : decode cX12_tests 104 = .ok (.iconst 0, 1) := by decide +kernel
theorem dX12_tests_105 : decode cX12_tests 105 = .ok (.istore_n 2, 1) := by decide +kernel
theorem dX12_tests_106 : decode cX12_tests 106 = .ok (.aload_n 0, 1) := by decide +kernel
theorem dX12_tests_107 : decode cX12_tests 107 = .ok (.getfield 149, 3) := by decide +kernel
theorem dX12_tests_110 : decode cX12_tests 110 = .ok (.iload_n 1, 1) := by decide +kernel
theorem dX12_tests_111 : decode cX12_tests 111 = .ok (.iaload, 1) := by decide +kernel
theorem dX12_tests_112 : decode cX12_tests 112 = .ok (.bipush 27, 2) := by decide +kernel
theorem dX12_tests_114 : decode cX12_tests 114 = .ok (.if_icmp .ne 22, 3) := by decide +kernel
theorem dX12_tests_117 : decode cX12_tests 117 = .ok (.aload_n 0, 1) := by decide +kernel
theorem dX12_tests_118 : decode cX12_tests 118 = .ok (.getfield 146, 3) := by decide +kernel
theorem dX12_tests_121 : decode cX12_tests 121 = .ok (.iload_n 1, 1) := by decide +kernel
theorem dX12_tests_122 : decode cX12_tests 122 = .ok (.iaload, 1) := by decide +kernel
theorem dX12_tests_123 : decode cX12_tests 123 = .ok (.ifCond .ne 7, 3) := by decide +kernel
theorem dX12_tests_126 : decode cX12_tests 126 = .ok (.iload_n 2, 1) := by decide +kernel
theorem dX12_tests_127 : decode cX12_tests 127 = .ok (.ifCond .eq 7, 3) := by decide +kernel
theorem dX12_tests_130 : decode cX12_tests 130 = .ok (.iconst 1, 1) := by decide +kernel
theorem dX12_tests_131 : decode cX12_tests 131 = .ok (.goto 4, 3) := by decide +kernel
theorem dX12_tests_134 : decode cX12_tests 134 = .ok (.iconst 0, 1) := by decide +kernel
theorem dX12_tests_135 : decode cX12_tests 135 = .ok (.istore_n 2, 1) := by decide +kernel
theorem dX12_tests_136 : decode cX12_tests 136 = .ok (.aload_n 0, 1) := by decide +kernel
theorem dX12_tests_137 : decode cX12_tests 137 = .ok (.getfield 146, 3) := by decide +kernel
theorem dX12_tests_140 : decode cX12_tests 140 = .ok (.iload_n 1, 1) := by decide +kernel
theorem dX12_tests_141 : decode cX12_tests 141 = .ok (.iload_n 2, 1) := by decide +kernel
theorem dX12_tests_142 : decode cX12_tests 142 = .ok (.iastore, 1) := by decide +kernel
theorem dX12_tests_143 : decode cX12_tests 143 = .ok (.aload_n 0, 1) := by decide +kernel
theorem dX12_tests_144 : decode cX12_tests 144 = .ok (.getfield 155, 3) := by decide +kernel
theorem dX12_tests_147 : decode cX12_tests 147 = .ok (.iload_n 1, 1) := by decide +kernel
theorem dX12_tests_148 : decode cX12_tests 148 = .ok (.iconst 0, 1) := by decide +kernel
theorem dX12_tests_149 : decode cX12_tests 149 = .ok (.iastore, 1) := by decide +kernel
theorem dX12_tests_150 : decode cX12_tests 150 = .ok (.aload_n 0, 1) := by decide +kernel
theorem dX12_tests_151 : decode cX12_tests 151 = .ok (.getfield 158, 3) := by decide +kernel
theorem dX12_tests_154 : decode cX12_tests 154 = .ok (.iload_n 1, 1) := by decide +kernel
theorem dX12_tests_155 : decode cX12_tests 155 = .ok (.iconst 0, 1) := by decide +kernel
theorem dX12_tests_156 : decode cX12_tests 156 = .ok (.iastore, 1) := by decide +kernel
theorem dX12_tests_157 : decode cX12_tests 157 = .ok (.aload_n 0, 1) := by decide +kernel
theorem dX12_tests_158 : decode cX12_tests 158 = .ok (.getfield 161, 3) := by decide +kernel
theorem dX12_tests_161 : decode cX12_tests 161 = .ok (.iload_n 1, 1) := by decide +kernel
theorem dX12_tests_162 : decode cX12_tests 162 = .ok (.bipush 20, 2) := by decide +kernel
theorem dX12_tests_164 : decode cX12_tests 164 = .ok (.iastore, 1) := by decide +kernel
theorem dX12_tests_165 : decode cX12_tests 165 = .ok (.return_, 1) := by decide +kernel
theorem dX12_fact_0 : decode cX12_fact 0 = .ok (.aload_n 0, 1) := by decide +kernel
theorem dX12_fact_1 : decode cX12_fact 1 = .ok (.getfield 7, 3) := by decide +kernel
theorem dX12_fact_4 : decode cX12_fact 4 = .ok (.iload_n 1, 1) := by decide +kernel
theorem dX12_fact_5 : decode cX12_fact 5 = .ok (.iaload, 1) := by decide +kernel
theorem dX12_fact_6 : decode cX12_fact 6 = .ok (.bipush 30, 2) := by decide +kernel
theorem dX12_fact_8 : decode cX12_fact 8 = .ok (.idiv, 1) := by decide +kernel
theorem dX12_fact_9 : decode cX12_fact 9 = .ok (.istore_n 3, 1) := by decide +kernel
theorem dX12_fact_10 : decode cX12_fact 10 = .ok (.aload_n 0, 1) := by decide +kernel
theorem dX12_fact_11 : decode cX12_fact 11 = .ok (.getfield 373, 3) := by decide +kernel
theorem dX12_fact_14 : decode cX12_fact 14 = .ok (.ifCond .lt 7, 3) := by decide +kernel
theorem dX12_fact_17 : decode cX12_fact 17 = .ok (.iconst 1, 1) := by decide +kernel
theorem dX12_fact_18 : decode cX12_fact 18 = .ok (.goto 4, 3) := by decide +kernel
theorem dX12_fact_21 : decode cX12_fact 21 = .ok (.iconst 0, 1) := by decide +kernel
theorem dX12_fact_22 : decode cX12_fact 22 = .ok (.istore 4, 2) := by decide +kernel
theorem dX12_fact_24 : decode cX12_fact 24 = .ok (.sipush 240, 3) := by decide +kernel
theorem dX12_fact_27 : decode cX12_fact 27 = .ok (.iload_n 1, 1) := by decide +kernel
theorem dX12_fact_28 : decode cX12_fact 28 = .ok (.imul, 1) := by decide +kernel
theorem dX12_fact_29 : decode cX12_fact 29 = .ok (.bipush 10, 2) := by decide +kernel
theorem dX12_fact_31 : decode cX12_fact 31 = .ok (.iload_n 3, 1) := by decide +kernel
theorem dX12_fact_32 : decode cX12_fact 32 = .ok (.iconst 1, 1) := by decide +kernel
theorem dX12_fact_33 : decode cX12_fact 33 = .ok (.isub, 1) := by decide +kernel
theorem dX12_fact_34 : decode cX12_fact 34 = .ok (.imul, 1) := by decide +kernel
theorem dX12_fact_35 : decode cX12_fact 35 = .ok (.iadd, 1) := by decide +kernel
theorem dX12_fact_36 : decode cX12_fact 36 = .ok (.aload_n 0, 1) := by decide +kernel
theorem dX12_fact_37 : decode cX12_fact 37 = .ok (.getfield 373, 3) := by decide +kernel
theorem dX12_fact_40 : decode cX12_fact 40 = .ok (.iadd, 1) := by decide +kernel
theorem dX12_fact_41 : decode cX12_fact 41 = .ok (.istore 5, 2) := by decide +kernel
theorem dX12_fact_43 : decode cX12_fact 43 = .ok (.iload_n 2, 1) := by decide +kernel
theorem dX12_fact_44 : decode cX12_fact 44 = .ok (.tableswitch 322 1 13 #[68, 87, 106, 125, 149, 170, 195, 200, 207, 214, 221, 263, 320], 68) := by decide +kernel
theorem dX12_fact_112 : decode cX12_fact 112 = .ok (.iload 4, 2) := by decide +kernel
theorem dX12_fact_114 : decode cX12_fact 114 = .ok (.ifCond .eq 15, 3) := by decide +kernel
theorem dX12_fact_117 : decode cX12_fact 117 = .ok (.aload_n 0, 1) := by decide +kernel
theorem dX12_fact_118 : decode cX12_fact 118 = .ok (.getfield 95, 3) := by decide +kernel
theorem dX12_fact_121 : decode cX12_fact 121 = .ok (.aload_n 0, 1) := by decide +kernel
theorem dX12_fact_122 : decode cX12_fact 122 = .ok (.getfield 373, 3) := by decide +kernel
theorem dX12_fact_125 : decode cX12_fact 125 = .ok (.iaload, 1) := by decide +kernel
theorem dX12_fact_126 : decode cX12_fact 126 = .ok (.goto 4, 3) := by decide +kernel
theorem dX12_fact_129 : decode cX12_fact 129 = .ok (.iconst 0, 1) := by decide +kernel
theorem dX12_fact_130 : decode cX12_fact 130 = .ok (.ireturn, 1) := by decide +kernel
theorem dX12_fact_131 : decode cX12_fact 131 = .ok (.iload 4, 2) := by decide +kernel
theorem dX12_fact_133 : decode cX12_fact 133 = .ok (.ifCond .eq 15, 3) := by decide +kernel
theorem dX12_fact_136 : decode cX12_fact 136 = .ok (.aload_n 0, 1) := by decide +kernel
theorem dX12_fact_137 : decode cX12_fact 137 = .ok (.getfield 92, 3) := by decide +kernel
theorem dX12_fact_140 : decode cX12_fact 140 = .ok (.aload_n 0, 1) := by decide +kernel
theorem dX12_fact_141 : decode cX12_fact 141 = .ok (.getfield 373, 3) := by decide +kernel
theorem dX12_fact_144 : decode cX12_fact 144 = .ok (.iaload, 1) := by decide +kernel
theorem dX12_fact_145 : decode cX12_fact 145 = .ok (.goto 4, 3) := by decide +kernel
theorem dX12_fact_148 : decode cX12_fact 148 = .ok (.iconst 0, 1) := by decide +kernel
theorem dX12_fact_149 : decode cX12_fact 149 = .ok (.ireturn, 1) := by decide +kernel
theorem dX12_fact_150 : decode cX12_fact 150 = .ok (.iload 4, 2) := by decide +kernel
theorem dX12_fact_152 : decode cX12_fact 152 = .ok (.ifCond .eq 15, 3) := by decide +kernel
theorem dX12_fact_155 : decode cX12_fact 155 = .ok (.aload_n 0, 1) := by decide +kernel
theorem dX12_fact_156 : decode cX12_fact 156 = .ok (.getfield 98, 3) := by decide +kernel
theorem dX12_fact_159 : decode cX12_fact 159 = .ok (.aload_n 0, 1) := by decide +kernel
theorem dX12_fact_160 : decode cX12_fact 160 = .ok (.getfield 373, 3) := by decide +kernel
theorem dX12_fact_163 : decode cX12_fact 163 = .ok (.iaload, 1) := by decide +kernel
theorem dX12_fact_164 : decode cX12_fact 164 = .ok (.goto 4, 3) := by decide +kernel
theorem dX12_fact_167 : decode cX12_fact 167 = .ok (.iconst 0, 1) := by decide +kernel
theorem dX12_fact_168 : decode cX12_fact 168 = .ok (.ireturn, 1) := by decide +kernel
theorem dX12_fact_169 : decode cX12_fact 169 = .ok (.iload 4, 2) := by decide +kernel
theorem dX12_fact_171 : decode cX12_fact 171 = .ok (.ifCond .eq 20, 3) := by decide +kernel
theorem dX12_fact_174 : decode cX12_fact 174 = .ok (.aload_n 0, 1) := by decide +kernel
theorem dX12_fact_175 : decode cX12_fact 175 = .ok (.getfield 52, 3) := by decide +kernel
theorem dX12_fact_178 : decode cX12_fact 178 = .ok (.bipush 10, 2) := by decide +kernel
theorem dX12_fact_180 : decode cX12_fact 180 = .ok (.iload_n 1, 1) := by decide +kernel
theorem dX12_fact_181 : decode cX12_fact 181 = .ok (.imul, 1) := by decide +kernel
theorem dX12_fact_182 : decode cX12_fact 182 = .ok (.aload_n 0, 1) := by decide +kernel
theorem dX12_fact_183 : decode cX12_fact 183 = .ok (.getfield 373, 3) := by decide +kernel
theorem dX12_fact_186 : decode cX12_fact 186 = .ok (.iadd, 1) := by decide +kernel
theorem dX12_fact_187 : decode cX12_fact 187 = .ok (.iaload, 1) := by decide +kernel
theorem dX12_fact_188 : decode cX12_fact 188 = .ok (.goto 4, 3) := by decide +kernel
theorem dX12_fact_191 : decode cX12_fact 191 = .ok (.iconst 0, 1) := by decide +kernel
theorem dX12_fact_192 : decode cX12_fact 192 = .ok (.ireturn, 1) := by decide +kernel
theorem dX12_fact_193 : decode cX12_fact 193 = .ok (.iload 4, 2) := by decide +kernel
theorem dX12_fact_195 : decode cX12_fact 195 = .ok (.ifCond .eq 17, 3) := by decide +kernel
theorem dX12_fact_198 : decode cX12_fact 198 = .ok (.iload_n 3, 1) := by decide +kernel
theorem dX12_fact_199 : decode cX12_fact 199 = .ok (.ifCond .le 13, 3) := by decide +kernel
theorem dX12_fact_202 : decode cX12_fact 202 = .ok (.aload_n 0, 1) := by decide +kernel
theorem dX12_fact_203 : decode cX12_fact 203 = .ok (.getfield 83, 3) := by decide +kernel
theorem dX12_fact_206 : decode cX12_fact 206 = .ok (.iload 5, 2) := by decide +kernel
theorem dX12_fact_208 : decode cX12_fact 208 = .ok (.iaload, 1) := by decide +kernel
theorem dX12_fact_209 : decode cX12_fact 209 = .ok (.goto 4, 3) := by decide +kernel
theorem dX12_fact_212 : decode cX12_fact 212 = .ok (.iconst 0, 1) := by decide +kernel
theorem dX12_fact_213 : decode cX12_fact 213 = .ok (.ireturn, 1) := by decide +kernel
theorem dX12_fact_214 : decode cX12_fact 214 = .ok (.iload 4, 2) := by decide +kernel
theorem dX12_fact_216 : decode cX12_fact 216 = .ok (.ifCond .eq 21, 3) := by decide +kernel
theorem dX12_fact_219 : decode cX12_fact 219 = .ok (.iload_n 3, 1) := by decide +kernel
theorem dX12_fact_220 : decode cX12_fact 220 = .ok (.ifCond .le 17, 3) := by decide +kernel
theorem dX12_fact_223 : decode cX12_fact 223 = .ok (.iconst 0, 1) := by decide +kernel
theorem dX12_fact_224 : decode cX12_fact 224 = .ok (.aload_n 0, 1) := by decide +kernel
theorem dX12_fact_225 : decode cX12_fact 225 = .ok (.getfield 86, 3) := by decide +kernel
theorem dX12_fact_228 : decode cX12_fact 228 = .ok (.iload 5, 2) := by decide +kernel
theorem dX12_fact_230 : decode cX12_fact 230 = .ok (.iaload, 1) := by decide +kernel
theorem dX12_fact_231 : decode cX12_fact 231 = .ok (.invokestatic 228, 3) := by decide +kernel
theorem dX12_fact_234 : decode cX12_fact 234 = .ok (.goto 4, 3) := by decide +kernel
theorem dX12_fact_237 : decode cX12_fact 237 = .ok (.iconst 0, 1) := by decide +kernel
theorem dX12_fact_238 : decode cX12_fact 238 = .ok (.ireturn, 1) := by decide +kernel
theorem dX12_fact_239 : decode cX12_fact 239 = .ok (.aload_n 0, 1) := by decide +kernel
theorem dX12_fact_240 : decode cX12_fact 240 = .ok (.getfield 376, 3) := by decide +kernel
theorem dX12_fact_243 : decode cX12_fact 243 = .ok (.ireturn, 1) := by decide +kernel
theorem dX12_fact_244 : decode cX12_fact 244 = .ok (.aload_n 0, 1) := by decide +kernel
theorem dX12_fact_245 : decode cX12_fact 245 = .ok (.iload_n 1, 1) := by decide +kernel
theorem dX12_fact_246 : decode cX12_fact 246 = .ok (.iconst 0, 1) := by decide +kernel
theorem dX12_fact_247 : decode cX12_fact 247 = .ok (.invokevirtual 234, 3) := by decide +kernel
theorem dX12_fact_250 : decode cX12_fact 250 = .ok (.ireturn, 1) := by decide +kernel
theorem dX12_fact_251 : decode cX12_fact 251 = .ok (.aload_n 0, 1) := by decide +kernel
theorem dX12_fact_252 : decode cX12_fact 252 = .ok (.getfield 19, 3) := by decide +kernel
theorem dX12_fact_255 : decode cX12_fact 255 = .ok (.iload_n 1, 1) := by decide +kernel
theorem dX12_fact_256 : decode cX12_fact 256 = .ok (.iaload, 1) := by decide +kernel
theorem dX12_fact_257 : decode cX12_fact 257 = .ok (.ireturn, 1) := by decide +kernel
theorem dX12_fact_258 : decode cX12_fact 258 = .ok (.aload_n 0, 1) := by decide +kernel
theorem dX12_fact_259 : decode cX12_fact 259 = .ok (.getfield 22, 3) := by decide +kernel
theorem dX12_fact_262 : decode cX12_fact 262 = .ok (.iload_n 1, 1) := by decide +kernel
theorem dX12_fact_263 : decode cX12_fact 263 = .ok (.iaload, 1) := by decide +kernel
theorem dX12_fact_264 : decode cX12_fact 264 = .ok (.ireturn, 1) := by decide +kernel
theorem dX12_fact_265 : decode cX12_fact 265 = .ok (.iconst 0, 1) := by decide +kernel
theorem dX12_fact_266 : decode cX12_fact 266 = .ok (.istore 6, 2) := by decide +kernel
theorem dX12_fact_268 : decode cX12_fact 268 = .ok (.iconst 0, 1) := by decide +kernel
theorem dX12_fact_269 : decode cX12_fact 269 = .ok (.istore 7, 2) := by decide +kernel
theorem dX12_fact_271 : decode cX12_fact 271 = .ok (.iload 7, 2) := by decide +kernel
theorem dX12_fact_273 : decode cX12_fact 273 = .ok (.aload_n 0, 1) := by decide +kernel
theorem dX12_fact_274 : decode cX12_fact 274 = .ok (.getfield 221, 3) := by decide +kernel
theorem dX12_fact_277 : decode cX12_fact 277 = .ok (.if_icmp .ge 27, 3) := by decide +kernel
theorem dX12_fact_280 : decode cX12_fact 280 = .ok (.aload_n 0, 1) := by decide +kernel
theorem dX12_fact_281 : decode cX12_fact 281 = .ok (.getfield 68, 3) := by decide +kernel
theorem dX12_fact_284 : decode cX12_fact 284 = .ok (.bipush 8, 2) := by decide +kernel
theorem dX12_fact_286 : decode cX12_fact 286 = .ok (.iload_n 1, 1) := by decide +kernel
theorem dX12_fact_287 : decode cX12_fact 287 = .ok (.imul, 1) := by decide +kernel
theorem dX12_fact_288 : decode cX12_fact 288 = .ok (.iload 7, 2) := by decide +kernel
theorem dX12_fact_290 : decode cX12_fact 290 = .ok (.iadd, 1) := by decide +kernel
theorem dX12_fact_291 : decode cX12_fact 291 = .ok (.iaload, 1) := by decide +kernel
theorem dX12_fact_292 : decode cX12_fact 292 = .ok (.ifCond .ne 6, 3) := by decide +kernel
theorem dX12_fact_295 : decode cX12_fact 295 = .ok (.iinc 6 1, 3) := by decide +kernel
theorem dX12_fact_298 : decode cX12_fact 298 = .ok (.iinc 7 1, 3) := by decide +kernel
theorem dX12_fact_301 : decode cX12_fact 301 = .ok (.goto (-30), 3) := by decide +kernel
theorem dX12_fact_304 : decode cX12_fact 304 = .ok (.iload 6, 2) := by decide +kernel
theorem dX12_fact_306 : decode cX12_fact 306 = .ok (.ireturn, 1) := by decide +kernel
theorem dX12_fact_307 : decode cX12_fact 307 = .ok (.iconst 0, 1) := by decide +kernel
theorem dX12_fact_308 : decode cX12_fact 308 = .ok (.istore 6, 2) := by decide +kernel
theorem dX12_fact_310 : decode cX12_fact 310 = .ok (.iconst 1, 1) := by decide +kernel
theorem dX12_fact_311 : decode cX12_fact 311 = .ok (.aload_n 0, 1) := by decide +kernel
theorem dX12_fact_312 : decode cX12_fact 312 = .ok (.getfield 7, 3) := by decide +kernel
theorem dX12_fact_315 : decode cX12_fact 315 = .ok (.iload_n 1, 1) := by decide +kernel
theorem dX12_fact_316 : decode cX12_fact 316 = .ok (.iaload, 1) := by decide +kernel
theorem dX12_fact_317 : decode cX12_fact 317 = .ok (.bipush 29, 2) := by decide +kernel
theorem dX12_fact_319 : decode cX12_fact 319 = .ok (.isub, 1) := by decide +kernel
theorem dX12_fact_320 : decode cX12_fact 320 = .ok (.invokestatic 228, 3) := by decide +kernel
theorem dX12_fact_323 : decode cX12_fact 323 = .ok (.istore 7, 2) := by decide +kernel
theorem dX12_fact_325 : decode cX12_fact 325 = .ok (.iload 7, 2) := by decide +kernel
theorem dX12_fact_327 : decode cX12_fact 327 = .ok (.aload_n 0, 1) := by decide +kernel
theorem dX12_fact_328 : decode cX12_fact 328 = .ok (.getfield 7, 3) := by decide +kernel
theorem dX12_fact_331 : decode cX12_fact 331 = .ok (.iload_n 1, 1) := by decide +kernel
theorem dX12_fact_332 : decode cX12_fact 332 = .ok (.iaload, 1) := by decide +kernel
theorem dX12_fact_333 : decode cX12_fact 333 = .ok (.if_icmp .gt 28, 3) := by decide +kernel
theorem dX12_fact_336 : decode cX12_fact 336 = .ok (.aload_n 0, 1) := by decide +kernel
theorem dX12_fact_337 : decode cX12_fact 337 = .ok (.getfield 89, 3) := by decide +kernel
theorem dX12_fact_340 : decode cX12_fact 340 = .ok (.sipush 721, 3) := by decide +kernel
theorem dX12_fact_343 : decode cX12_fact 343 = .ok (.iload_n 1, 1) := by decide +kernel
theorem dX12_fact_344 : decode cX12_fact 344 = .ok (.imul, 1) := by decide +kernel
theorem dX12_fact_345 : decode cX12_fact 345 = .ok (.iload 7, 2) := by decide +kernel
theorem dX12_fact_347 : decode cX12_fact 347 = .ok (.iadd, 1) := by decide +kernel
theorem dX12_fact_348 : decode cX12_fact 348 = .ok (.baload, 1) := by decide +kernel
theorem dX12_fact_349 : decode cX12_fact 349 = .ok (.ifCond .eq 6, 3) := by decide +kernel
theorem dX12_fact_352 : decode cX12_fact 352 = .ok (.iinc 6 1, 3) := by decide +kernel
theorem dX12_fact_355 : decode cX12_fact 355 = .ok (.iinc 7 1, 3) := by decide +kernel
theorem dX12_fact_358 : decode cX12_fact 358 = .ok (.goto (-33), 3) := by decide +kernel
theorem dX12_fact_361 : decode cX12_fact 361 = .ok (.iload 6, 2) := by decide +kernel
theorem dX12_fact_363 : decode cX12_fact 363 = .ok (.ireturn, 1) := by decide +kernel
theorem dX12_fact_364 : decode cX12_fact 364 = .ok (.iload_n 3, 1) := by decide +kernel
theorem dX12_fact_365 : decode cX12_fact 365 = .ok (.ireturn, 1) := by decide +kernel
theorem dX12_fact_366 : decode cX12_fact 366 = .ok (.iconst 0, 1) := by decide +kernel
theorem dX12_fact_367 : decode cX12_fact 367 = .ok (.istore 6, 2) := by decide +kernel
theorem dX12_fact_369 : decode cX12_fact 369 = .ok (.iconst 0, 1) := by decide +kernel
theorem dX12_fact_370 : decode cX12_fact 370 = .ok (.istore 7, 2) := by decide +kernel
theorem dX12_fact_372 : decode cX12_fact 372 = .ok (.iload 7, 2) := by decide +kernel
theorem dX12_fact_374 : decode cX12_fact 374 = .ok (.aload_n 0, 1) := by decide +kernel
theorem dX12_fact_375 : decode cX12_fact 375 = .ok (.getfield 210, 3) := by decide +kernel
theorem dX12_fact_378 : decode cX12_fact 378 = .ok (.if_icmp .ge 27, 3) := by decide +kernel
theorem dX12_fact_381 : decode cX12_fact 381 = .ok (.aload_n 0, 1) := by decide +kernel
theorem dX12_fact_382 : decode cX12_fact 382 = .ok (.getfield 64, 3) := by decide +kernel
theorem dX12_fact_385 : decode cX12_fact 385 = .ok (.bipush 10, 2) := by decide +kernel
theorem dX12_fact_387 : decode cX12_fact 387 = .ok (.iload_n 1, 1) := by decide +kernel
theorem dX12_fact_388 : decode cX12_fact 388 = .ok (.imul, 1) := by decide +kernel
theorem dX12_fact_389 : decode cX12_fact 389 = .ok (.iload 7, 2) := by decide +kernel
theorem dX12_fact_391 : decode cX12_fact 391 = .ok (.iadd, 1) := by decide +kernel
theorem dX12_fact_392 : decode cX12_fact 392 = .ok (.baload, 1) := by decide +kernel
theorem dX12_fact_393 : decode cX12_fact 393 = .ok (.ifCond .eq 6, 3) := by decide +kernel
theorem dX12_fact_396 : decode cX12_fact 396 = .ok (.iinc 6 1, 3) := by decide +kernel
theorem dX12_fact_399 : decode cX12_fact 399 = .ok (.iinc 7 1, 3) := by decide +kernel
theorem dX12_fact_402 : decode cX12_fact 402 = .ok (.goto (-30), 3) := by decide +kernel
theorem dX12_fact_405 : decode cX12_fact 405 = .ok (.iload 6, 2) := by decide +kernel
theorem dX12_fact_407 : decode cX12_fact 407 = .ok (.ireturn, 1) := by decide +kernel
theorem dX12_worth_0 : decode cX12_worth 0 = .ok (.iconst 0, 1) := by decide +kernel
theorem dX12_worth_1 : decode cX12_worth 1 = .ok (.istore 4, 2) := by decide +kernel
theorem dX12_worth_3 : decode cX12_worth 3 = .ok (.aload_n 0, 1) := by decide +kernel
theorem dX12_worth_4 : decode cX12_worth 4 = .ok (.iconst 0, 1) := by decide +kernel
theorem dX12_worth_5 : decode cX12_worth 5 = .ok (.invokevirtual 379, 3) := by decide +kernel
theorem dX12_worth_8 : decode cX12_worth 8 = .ok (.aload_n 0, 1) := by decide +kernel
theorem dX12_worth_9 : decode cX12_worth 9 = .ok (.getfield 122, 3) := by decide +kernel
theorem dX12_worth_12 : decode cX12_worth 12 = .ok (.bipush 11, 2) := by decide +kernel
theorem dX12_worth_14 : decode cX12_worth 14 = .ok (.iload_n 2, 1) := by decide +kernel
theorem dX12_worth_15 : decode cX12_worth 15 = .ok (.imul, 1) := by decide +kernel
theorem dX12_worth_16 : decode cX12_worth 16 = .ok (.iload_n 3, 1) := by decide +kernel
theorem dX12_worth_17 : decode cX12_worth 17 = .ok (.iadd, 1) := by decide +kernel
theorem dX12_worth_18 : decode cX12_worth 18 = .ok (.iaload, 1) := by decide +kernel
theorem dX12_worth_19 : decode cX12_worth 19 = .ok (.istore 5, 2) := by decide +kernel
theorem dX12_worth_21 : decode cX12_worth 21 = .ok (.iload 5, 2) := by decide +kernel
theorem dX12_worth_23 : decode cX12_worth 23 = .ok (.aload_n 0, 1) := by decide +kernel
theorem dX12_worth_24 : decode cX12_worth 24 = .ok (.getfield 125, 3) := by decide +kernel
theorem dX12_worth_27 : decode cX12_worth 27 = .ok (.bipush 11, 2) := by decide +kernel
theorem dX12_worth_29 : decode cX12_worth 29 = .ok (.iload_n 2, 1) := by decide +kernel
theorem dX12_worth_30 : decode cX12_worth 30 = .ok (.imul, 1) := by decide +kernel
theorem dX12_worth_31 : decode cX12_worth 31 = .ok (.iload_n 3, 1) := by decide +kernel
theorem dX12_worth_32 : decode cX12_worth 32 = .ok (.iadd, 1) := by decide +kernel
theorem dX12_worth_33 : decode cX12_worth 33 = .ok (.iaload, 1) := by decide +kernel
theorem dX12_worth_34 : decode cX12_worth 34 = .ok (.if_icmp .ge 378, 3) := by decide +kernel
theorem dX12_worth_37 : decode cX12_worth 37 = .ok (.aload_n 0, 1) := by decide +kernel
theorem dX12_worth_38 : decode cX12_worth 38 = .ok (.getfield 137, 3) := by decide +kernel
theorem dX12_worth_41 : decode cX12_worth 41 = .ok (.iload 5, 2) := by decide +kernel
theorem dX12_worth_43 : decode cX12_worth 43 = .ok (.iaload, 1) := by decide +kernel
theorem dX12_worth_44 : decode cX12_worth 44 = .ok (.istore 6, 2) := by decide +kernel
theorem dX12_worth_46 : decode cX12_worth 46 = .ok (.iload 6, 2) := by decide +kernel
theorem dX12_worth_48 : decode cX12_worth 48 = .ok (.bipush 28, 2) := by decide +kernel
theorem dX12_worth_50 : decode cX12_worth 50 = .ok (.if_icmp .eq 10, 3) := by decide +kernel
theorem dX12_worth_53 : decode cX12_worth 53 = .ok (.iload 6, 2) := by decide +kernel
theorem dX12_worth_55 : decode cX12_worth 55 = .ok (.bipush 30, 2) := by decide +kernel
theorem dX12_worth_57 : decode cX12_worth 57 = .ok (.if_icmp .ne 34, 3) := by decide +kernel
theorem dX12_worth_60 : decode cX12_worth 60 = .ok (.iinc 4 1, 3) := by decide +kernel
theorem dX12_worth_63 : decode cX12_worth 63 = .ok (.aload_n 0, 1) := by decide +kernel
theorem dX12_worth_64 : decode cX12_worth 64 = .ok (.getfield 170, 3) := by decide +kernel
theorem dX12_worth_67 : decode cX12_worth 67 = .ok (.iload 4, 2) := by decide +kernel
theorem dX12_worth_69 : decode cX12_worth 69 = .ok (.iload 6, 2) := by decide +kernel
theorem dX12_worth_71 : decode cX12_worth 71 = .ok (.bipush 30, 2) := by decide +kernel
theorem dX12_worth_73 : decode cX12_worth 73 = .ok (.if_icmp .ne 7, 3) := by decide +kernel
theorem dX12_worth_76 : decode cX12_worth 76 = .ok (.iconst 1, 1) := by decide +kernel
theorem dX12_worth_77 : decode cX12_worth 77 = .ok (.goto 4, 3) := by decide +kernel
theorem dX12_worth_80 : decode cX12_worth 80 = .ok (.iconst 0, 1) := by decide +kernel
theorem dX12_worth_81 : decode cX12_worth 81 = .ok (.iastore, 1) := by decide +kernel
theorem dX12_worth_82 : decode cX12_worth 82 = .ok (.aload_n 0, 1) := by decide +kernel
theorem dX12_worth_83 : decode cX12_worth 83 = .ok (.iload 4, 2) := by decide +kernel
theorem dX12_worth_85 : decode cX12_worth 85 = .ok (.invokevirtual 379, 3) := by decide +kernel
theorem dX12_worth_88 : decode cX12_worth 88 = .ok (.goto 318, 3) := by decide +kernel
theorem dX12_worth_91 : decode cX12_worth 91 = .ok (.iload 6, 2) := by decide +kernel
theorem dX12_worth_93 : decode cX12_worth 93 = .ok (.bipush 20, 2) := by decide +kernel
theorem dX12_worth_95 : decode cX12_worth 95 = .ok (.if_icmp .eq 10, 3) := by decide +kernel
theorem dX12_worth_98 : decode cX12_worth 98 = .ok (.iload 6, 2) := by decide +kernel
theorem dX12_worth_100 : decode cX12_worth 100 = .ok (.bipush 21, 2) := by decide +kernel
theorem dX12_worth_102 : decode cX12_worth 102 = .ok (.if_icmp .ne 21, 3) := by decide +kernel
theorem dX12_worth_105 : decode cX12_worth 105 = .ok (.aload_n 0, 1) := by decide +kernel
theorem dX12_worth_106 : decode cX12_worth 106 = .ok (.iload 4, 2) := by decide +kernel
theorem dX12_worth_108 : decode cX12_worth 108 = .ok (.invokevirtual 370, 3) := by decide +kernel
theorem dX12_worth_111 : decode cX12_worth 111 = .ok (.aload_n 0, 1) := by decide +kernel
theorem dX12_worth_112 : decode cX12_worth 112 = .ok (.getfield 161, 3) := by decide +kernel
theorem dX12_worth_115 : decode cX12_worth 115 = .ok (.iload 4, 2) := by decide +kernel
theorem dX12_worth_117 : decode cX12_worth 117 = .ok (.iload 6, 2) := by decide +kernel
theorem dX12_worth_119 : decode cX12_worth 119 = .ok (.iastore, 1) := by decide +kernel
theorem dX12_worth_120 : decode cX12_worth 120 = .ok (.goto 286, 3) := by decide +kernel
theorem dX12_worth_123 : decode cX12_worth 123 = .ok (.iload 6, 2) := by decide +kernel
theorem dX12_worth_125 : decode cX12_worth 125 = .ok (.bipush 22, 2) := by decide +kernel
theorem dX12_worth_127 : decode cX12_worth 127 = .ok (.if_icmp .eq 10, 3) := by decide +kernel
theorem dX12_worth_130 : decode cX12_worth 130 = .ok (.iload 6, 2) := by decide +kernel
theorem dX12_worth_132 : decode cX12_worth 132 = .ok (.bipush 23, 2) := by decide +kernel
theorem dX12_worth_134 : decode cX12_worth 134 = .ok (.if_icmp .ne 15, 3) := by decide +kernel
theorem dX12_worth_137 : decode cX12_worth 137 = .ok (.aload_n 0, 1) := by decide +kernel
theorem dX12_worth_138 : decode cX12_worth 138 = .ok (.getfield 167, 3) := by decide +kernel
theorem dX12_worth_141 : decode cX12_worth 141 = .ok (.iload 4, 2) := by decide +kernel
theorem dX12_worth_143 : decode cX12_worth 143 = .ok (.iload 6, 2) := by decide +kernel
theorem dX12_worth_145 : decode cX12_worth 145 = .ok (.iastore, 1) := by decide +kernel
theorem dX12_worth_146 : decode cX12_worth 146 = .ok (.goto 260, 3) := by decide +kernel
theorem dX12_worth_149 : decode cX12_worth 149 = .ok (.iload 6, 2) := by decide +kernel
theorem dX12_worth_151 : decode cX12_worth 151 = .ok (.bipush 24, 2) := by decide +kernel
theorem dX12_worth_153 : decode cX12_worth 153 = .ok (.if_icmp .eq 10, 3) := by decide +kernel
theorem dX12_worth_156 : decode cX12_worth 156 = .ok (.iload 6, 2) := by decide +kernel
theorem dX12_worth_158 : decode cX12_worth 158 = .ok (.bipush 25, 2) := by decide +kernel
theorem dX12_worth_160 : decode cX12_worth 160 = .ok (.if_icmp .ne 52, 3) := by decide +kernel
theorem dX12_worth_163 : decode cX12_worth 163 = .ok (.aload_n 0, 1) := by decide +kernel
theorem dX12_worth_164 : decode cX12_worth 164 = .ok (.iload 4, 2) := by decide +kernel
theorem dX12_worth_166 : decode cX12_worth 166 = .ok (.invokevirtual 370, 3) := by decide +kernel
theorem dX12_worth_169 : decode cX12_worth 169 = .ok (.aload_n 0, 1) := by decide +kernel
theorem dX12_worth_170 : decode cX12_worth 170 = .ok (.getfield 152, 3) := by decide +kernel
theorem dX12_worth_173 : decode cX12_worth 173 = .ok (.iload 4, 2) := by decide +kernel
theorem dX12_worth_175 : decode cX12_worth 175 = .ok (.aload_n 0, 1) := by decide +kernel
theorem dX12_worth_176 : decode cX12_worth 176 = .ok (.getfield 158, 3) := by decide +kernel
theorem dX12_worth_179 : decode cX12_worth 179 = .ok (.iload 4, 2) := by decide +kernel
theorem dX12_worth_181 : decode cX12_worth 181 = .ok (.iaload, 1) := by decide +kernel
theorem dX12_worth_182 : decode cX12_worth 182 = .ok (.iastore, 1) := by decide +kernel
theorem dX12_worth_183 : decode cX12_worth 183 = .ok (.aload_n 0, 1) := by decide +kernel
theorem dX12_worth_184 : decode cX12_worth 184 = .ok (.getfield 155, 3) := by decide +kernel
theorem dX12_worth_187 : decode cX12_worth 187 = .ok (.iload 4, 2) := by decide +kernel
theorem dX12_worth_189 : decode cX12_worth 189 = .ok (.iload 6, 2) := by decide +kernel
theorem dX12_worth_191 : decode cX12_worth 191 = .ok (.iastore, 1) := by decide +kernel
theorem dX12_worth_192 : decode cX12_worth 192 = .ok (.aload_n 0, 1) := by decide +kernel
theorem dX12_worth_193 : decode cX12_worth 193 = .ok (.getfield 158, 3) := by decide +kernel
theorem dX12_worth_196 : decode cX12_worth 196 = .ok (.iload 4, 2) := by decide +kernel
theorem dX12_worth_198 : decode cX12_worth 198 = .ok (.iconst 0, 1) := by decide +kernel
theorem dX12_worth_199 : decode cX12_worth 199 = .ok (.iastore, 1) := by decide +kernel
theorem dX12_worth_200 : decode cX12_worth 200 = .ok (.aload_n 0, 1) := by decide +kernel
theorem dX12_worth_201 : decode cX12_worth 201 = .ok (.getfield 161, 3) := by decide +kernel
theorem dX12_worth_204 : decode cX12_worth 204 = .ok (.iload 4, 2) := by decide +kernel
theorem dX12_worth_206 : decode cX12_worth 206 = .ok (.bipush 20, 2) := by decide +kernel
theorem dX12_worth_208 : decode cX12_worth 208 = .ok (.iastore, 1) := by decide +kernel
theorem dX12_worth_209 : decode cX12_worth 209 = .ok (.goto 197, 3) := by decide +kernel
theorem dX12_worth_212 : decode cX12_worth 212 = .ok (.iload 6, 2) := by decide +kernel
theorem dX12_worth_214 : decode cX12_worth 214 = .ok (.bipush 26, 2) := by decide +kernel
theorem dX12_worth_216 : decode cX12_worth 216 = .ok (.if_icmp .eq 10, 3) := by decide +kernel
theorem dX12_worth_219 : decode cX12_worth 219 = .ok (.iload 6, 2) := by decide +kernel
theorem dX12_worth_221 : decode cX12_worth 221 = .ok (.bipush 27, 2) := by decide +kernel
theorem dX12_worth_223 : decode cX12_worth 223 = .ok (.if_icmp .ne 21, 3) := by decide +kernel
theorem dX12_worth_226 : decode cX12_worth 226 = .ok (.aload_n 0, 1) := by decide +kernel
theorem dX12_worth_227 : decode cX12_worth 227 = .ok (.iload 4, 2) := by decide +kernel
theorem dX12_worth_229 : decode cX12_worth 229 = .ok (.invokevirtual 382, 3) := by decide +kernel
theorem dX12_worth_232 : decode cX12_worth 232 = .ok (.aload_n 0, 1) := by decide +kernel
theorem dX12_worth_233 : decode cX12_worth 233 = .ok (.getfield 149, 3) := by decide +kernel
theorem dX12_worth_236 : decode cX12_worth 236 = .ok (.iload 4, 2) := by decide +kernel
theorem dX12_worth_238 : decode cX12_worth 238 = .ok (.iload 6, 2) := by decide +kernel
theorem dX12_worth_240 : decode cX12_worth 240 = .ok (.iastore, 1) := by decide +kernel
theorem dX12_worth_241 : decode cX12_worth 241 = .ok (.goto 165, 3) := by decide +kernel
theorem dX12_worth_244 : decode cX12_worth 244 = .ok (.iload 6, 2) := by decide +kernel
theorem dX12_worth_246 : decode cX12_worth 246 = .ok (.bipush 100, 2) := by decide +kernel
theorem dX12_worth_248 : decode cX12_worth 248 = .ok (.if_icmp .lt 11, 3) := by decide +kernel
theorem dX12_worth_251 : decode cX12_worth 251 = .ok (.iload 6, 2) := by decide +kernel
theorem dX12_worth_253 : decode cX12_worth 253 = .ok (.bipush 100, 2) := by decide +kernel
theorem dX12_worth_255 : decode cX12_worth 255 = .ok (.isub, 1) := by decide +kernel
theorem dX12_worth_256 : decode cX12_worth 256 = .ok (.goto 4, 3) := by decide +kernel
theorem dX12_worth_259 : decode cX12_worth 259 = .ok (.iconst 0, 1) := by decide +kernel
theorem dX12_worth_260 : decode cX12_worth 260 = .ok (.istore 7, 2) := by decide +kernel
theorem dX12_worth_262 : decode cX12_worth 262 = .ok (.iload 6, 2) := by decide +kernel
theorem dX12_worth_264 : decode cX12_worth 264 = .ok (.bipush 29, 2) := by decide +kernel
theorem dX12_worth_266 : decode cX12_worth 266 = .ok (.if_icmp .ne 24, 3) := by decide +kernel
theorem dX12_worth_269 : decode cX12_worth 269 = .ok (.aload_n 0, 1) := by decide +kernel
theorem dX12_worth_270 : decode cX12_worth 270 = .ok (.iload 4, 2) := by decide +kernel
theorem dX12_worth_272 : decode cX12_worth 272 = .ok (.invokevirtual 382, 3) := by decide +kernel
theorem dX12_worth_275 : decode cX12_worth 275 = .ok (.aload_n 0, 1) := by decide +kernel
theorem dX12_worth_276 : decode cX12_worth 276 = .ok (.getfield 146, 3) := by decide +kernel
theorem dX12_worth_279 : decode cX12_worth 279 = .ok (.iload 4, 2) := by decide +kernel
theorem dX12_worth_281 : decode cX12_worth 281 = .ok (.iaload, 1) := by decide +kernel
theorem dX12_worth_282 : decode cX12_worth 282 = .ok (.istore 7, 2) := by decide +kernel
theorem dX12_worth_284 : decode cX12_worth 284 = .ok (.iinc 4 (-1), 3) := by decide +kernel
theorem dX12_worth_287 : decode cX12_worth 287 = .ok (.goto 19, 3) := by decide +kernel
theorem dX12_worth_290 : decode cX12_worth 290 = .ok (.iload 6, 2) := by decide +kernel
theorem dX12_worth_292 : decode cX12_worth 292 = .ok (.bipush 20, 2) := by decide +kernel
theorem dX12_worth_294 : decode cX12_worth 294 = .ok (.if_icmp .ge 12, 3) := by decide +kernel
theorem dX12_worth_297 : decode cX12_worth 297 = .ok (.aload_n 0, 1) := by decide +kernel
theorem dX12_worth_298 : decode cX12_worth 298 = .ok (.iload_n 1, 1) := by decide +kernel
theorem dX12_worth_299 : decode cX12_worth 299 = .ok (.iload 6, 2) := by decide +kernel
theorem dX12_worth_301 : decode cX12_worth 301 = .ok (.invokevirtual 385, 3) := by decide +kernel
theorem dX12_worth_304 : decode cX12_worth 304 = .ok (.istore 7, 2) := by decide +kernel
theorem dX12_worth_306 : decode cX12_worth 306 = .ok (.iload 4, 2) := by decide +kernel
theorem dX12_worth_308 : decode cX12_worth 308 = .ok (.ifCond .le 32, 3) := by decide +kernel
theorem dX12_worth_311 : decode cX12_worth 311 = .ok (.aload_n 0, 1) := by decide +kernel
theorem dX12_worth_312 : decode cX12_worth 312 = .ok (.getfield 170, 3) := by decide +kernel
theorem dX12_worth_315 : decode cX12_worth 315 = .ok (.iload 4, 2) := by decide +kernel
theorem dX12_worth_317 : decode cX12_worth 317 = .ok (.iaload, 1) := by decide +kernel
theorem dX12_worth_318 : decode cX12_worth 318 = .ok (.iconst 1, 1) := by decide +kernel
theorem dX12_worth_319 : decode cX12_worth 319 = .ok (.if_icmp .ne 21, 3) := by decide +kernel
theorem dX12_worth_322 : decode cX12_worth 322 = .ok (.iload 7, 2) := by decide +kernel
theorem dX12_worth_324 : decode cX12_worth 324 = .ok (.ifCond .ne 7, 3) := by decide +kernel
theorem dX12_worth_327 : decode cX12_worth 327 = .ok (.iconst 1, 1) := by decide +kernel
theorem dX12_worth_328 : decode cX12_worth 328 = .ok (.goto 4, 3) := by decide +kernel
theorem dX12_worth_331 : decode cX12_worth 331 = .ok (.iconst 0, 1) := by decide +kernel
theorem dX12_worth_332 : decode cX12_worth 332 = .ok (.istore 7, 2) := by decide +kernel
theorem dX12_worth_334 : decode cX12_worth 334 = .ok (.iinc 4 (-1), 3) := by decide +kernel
theorem dX12_worth_337 : decode cX12_worth 337 = .ok (.goto (-31), 3) := by decide +kernel
theorem dX12_worth_340 : decode cX12_worth 340 = .ok (.aload_n 0, 1) := by decide +kernel
theorem dX12_worth_341 : decode cX12_worth 341 = .ok (.getfield 164, 3) := by decide +kernel
theorem dX12_worth_344 : decode cX12_worth 344 = .ok (.iload 4, 2) := by decide +kernel
theorem dX12_worth_346 : decode cX12_worth 346 = .ok (.aload_n 0, 1) := by decide +kernel
theorem dX12_worth_347 : decode cX12_worth 347 = .ok (.getfield 167, 3) := by decide +kernel
theorem dX12_worth_350 : decode cX12_worth 350 = .ok (.iload 4, 2) := by decide +kernel
theorem dX12_worth_352 : decode cX12_worth 352 = .ok (.iaload, 1) := by decide +kernel
theorem dX12_worth_353 : decode cX12_worth 353 = .ok (.ifCond .ne 8, 3) := by decide +kernel
theorem dX12_worth_356 : decode cX12_worth 356 = .ok (.iload 7, 2) := by decide +kernel
theorem dX12_worth_358 : decode cX12_worth 358 = .ok (.goto 47, 3) := by decide +kernel
theorem dX12_worth_361 : decode cX12_worth 361 = .ok (.aload_n 0, 1) := by decide +kernel
theorem dX12_worth_362 : decode cX12_worth 362 = .ok (.getfield 167, 3) := by decide +kernel
theorem dX12_worth_365 : decode cX12_worth 365 = .ok (.iload 4, 2) := by decide +kernel
theorem dX12_worth_367 : decode cX12_worth 367 = .ok (.iaload, 1) := by decide +kernel
theorem dX12_worth_368 : decode cX12_worth 368 = .ok (.bipush 22, 2) := by decide +kernel
theorem dX12_worth_370 : decode cX12_worth 370 = .ok (.if_icmp .ne 16, 3) := by decide +kernel
theorem dX12_worth_373 : decode cX12_worth 373 = .ok (.aload_n 0, 1) := by decide +kernel
theorem dX12_worth_374 : decode cX12_worth 374 = .ok (.getfield 164, 3) := by decide +kernel
theorem dX12_worth_377 : decode cX12_worth 377 = .ok (.iload 4, 2) := by decide +kernel
theorem dX12_worth_379 : decode cX12_worth 379 = .ok (.iaload, 1) := by decide +kernel
theorem dX12_worth_380 : decode cX12_worth 380 = .ok (.iload 7, 2) := by decide +kernel
theorem dX12_worth_382 : decode cX12_worth 382 = .ok (.imul, 1) := by decide +kernel
theorem dX12_worth_383 : decode cX12_worth 383 = .ok (.goto 22, 3) := by decide +kernel
theorem dX12_worth_386 : decode cX12_worth 386 = .ok (.iload 7, 2) := by decide +kernel
theorem dX12_worth_388 : decode cX12_worth 388 = .ok (.ifCond .ne 7, 3) := by decide +kernel
theorem dX12_worth_391 : decode cX12_worth 391 = .ok (.iconst 0, 1) := by decide +kernel
theorem dX12_worth_392 : decode cX12_worth 392 = .ok (.goto 13, 3) := by decide +kernel
theorem dX12_worth_395 : decode cX12_worth 395 = .ok (.aload_n 0, 1) := by decide +kernel
theorem dX12_worth_396 : decode cX12_worth 396 = .ok (.getfield 164, 3) := by decide +kernel
theorem dX12_worth_399 : decode cX12_worth 399 = .ok (.iload 4, 2) := by decide +kernel
theorem dX12_worth_401 : decode cX12_worth 401 = .ok (.iaload, 1) := by decide +kernel
theorem dX12_worth_402 : decode cX12_worth 402 = .ok (.iload 7, 2) := by decide +kernel
theorem dX12_worth_404 : decode cX12_worth 404 = .ok (.idiv, 1) := by decide +kernel
theorem dX12_worth_405 : decode cX12_worth 405 = .ok (.iastore, 1) := by decide +kernel
theorem dX12_worth_406 : decode cX12_worth 406 = .ok (.iinc 5 1, 3) := by decide +kernel
theorem dX12_worth_409 : decode cX12_worth 409 = .ok (.goto (-388), 3) := by decide +kernel
theorem dX12_worth_412 : decode cX12_worth 412 = .ok (.aload_n 0, 1) := by decide +kernel
theorem dX12_worth_413 : decode cX12_worth 413 = .ok (.iconst 0, 1) := by decide +kernel
theorem dX12_worth_414 : decode cX12_worth 414 = .ok (.invokevirtual 382, 3) := by decide +kernel
theorem dX12_worth_417 : decode cX12_worth 417 = .ok (.aload_n 0, 1) := by decide +kernel
theorem dX12_worth_418 : decode cX12_worth 418 = .ok (.getfield 146, 3) := by decide +kernel
theorem dX12_worth_421 : decode cX12_worth 421 = .ok (.iconst 0, 1) := by decide +kernel
theorem dX12_worth_422 : decode cX12_worth 422 = .ok (.iaload, 1) := by decide +kernel
theorem dX12_worth_423 : decode cX12_worth 423 = .ok (.ireturn, 1) := by decide +kernel
theorem dX12_worthWithin_0 : decode cX12_worthWithin 0 = .ok (.iconst 0, 1) := by decide +kernel
theorem dX12_worthWithin_1 : decode cX12_worthWithin 1 = .ok (.sipush 9999, 3) := by decide +kernel
theorem dX12_worthWithin_4 : decode cX12_worthWithin 4 = .ok (.aload_n 0, 1) := by decide +kernel
theorem dX12_worthWithin_5 : decode cX12_worthWithin 5 = .ok (.iload_n 1, 1) := by decide +kernel
theorem dX12_worthWithin_6 : decode cX12_worthWithin 6 = .ok (.iload_n 2, 1) := by decide +kernel
theorem dX12_worthWithin_7 : decode cX12_worthWithin 7 = .ok (.iload_n 3, 1) := by decide +kernel
theorem dX12_worthWithin_8 : decode cX12_worthWithin 8 = .ok (.invokevirtual 388, 3) := by decide +kernel
theorem dX12_worthWithin_11 : decode cX12_worthWithin 11 = .ok (.invokestatic 392, 3) := by decide +kernel
theorem dX12_worthWithin_14 : decode cX12_worthWithin 14 = .ok (.invokestatic 228, 3) := by decide +kernel
theorem dX12_worthWithin_17 : decode cX12_worthWithin 17 = .ok (.ireturn, 1) := by decide +kernel
theorem dX12_isTold_0 : decode cX12_isTold 0 = .ok (.aload_n 0, 1) := by decide +kernel
theorem dX12_isTold_1 : decode cX12_isTold 1 = .ok (.getfield 122, 3) := by decide +kernel
theorem dX12_isTold_4 : decode cX12_isTold 4 = .ok (.bipush 11, 2) := by decide +kernel
theorem dX12_isTold_6 : decode cX12_isTold 6 = .ok (.aload_n 0, 1) := by decide +kernel
theorem dX12_isTold_7 : decode cX12_isTold 7 = .ok (.getfield 28, 3) := by decide +kernel
theorem dX12_isTold_10 : decode cX12_isTold 10 = .ok (.iload_n 1, 1) := by decide +kernel
theorem dX12_isTold_11 : decode cX12_isTold 11 = .ok (.iaload, 1) := by decide +kernel
theorem dX12_isTold_12 : decode cX12_isTold 12 = .ok (.imul, 1) := by decide +kernel
theorem dX12_isTold_13 : decode cX12_isTold 13 = .ok (.iload_n 2, 1) := by decide +kernel
theorem dX12_isTold_14 : decode cX12_isTold 14 = .ok (.iadd, 1) := by decide +kernel
theorem dX12_isTold_15 : decode cX12_isTold 15 = .ok (.iaload, 1) := by decide +kernel
theorem dX12_isTold_16 : decode cX12_isTold 16 = .ok (.ifCond .lt 18, 3) := by decide +kernel
theorem dX12_isTold_19 : decode cX12_isTold 19 = .ok (.aload_n 0, 1) := by decide +kernel
theorem dX12_isTold_20 : decode cX12_isTold 20 = .ok (.getfield 40, 3) := by decide +kernel
theorem dX12_isTold_23 : decode cX12_isTold 23 = .ok (.iload_n 1, 1) := by decide +kernel
theorem dX12_isTold_24 : decode cX12_isTold 24 = .ok (.iaload, 1) := by decide +kernel
theorem dX12_isTold_25 : decode cX12_isTold 25 = .ok (.iload_n 3, 1) := by decide +kernel
theorem dX12_isTold_26 : decode cX12_isTold 26 = .ok (.iand, 1) := by decide +kernel
theorem dX12_isTold_27 : decode cX12_isTold 27 = .ok (.ifCond .ne 7, 3) := by decide +kernel
theorem dX12_isTold_30 : decode cX12_isTold 30 = .ok (.iconst 1, 1) := by decide +kernel
theorem dX12_isTold_31 : decode cX12_isTold 31 = .ok (.goto 4, 3) := by decide +kernel
theorem dX12_isTold_34 : decode cX12_isTold 34 = .ok (.iconst 0, 1) := by decide +kernel
theorem dX12_isTold_35 : decode cX12_isTold 35 = .ok (.ireturn, 1) := by decide +kernel
theorem dX12_begins_0 : decode cX12_begins 0 = .ok (.aload_n 0, 1) := by decide +kernel
theorem dX12_begins_1 : decode cX12_begins 1 = .ok (.getfield 34, 3) := by decide +kernel
theorem dX12_begins_4 : decode cX12_begins 4 = .ok (.iload_n 1, 1) := by decide +kernel
theorem dX12_begins_5 : decode cX12_begins 5 = .ok (.iaload, 1) := by decide +kernel
theorem dX12_begins_6 : decode cX12_begins 6 = .ok (.iconst 1, 1) := by decide +kernel
theorem dX12_begins_7 : decode cX12_begins 7 = .ok (.if_icmp .ne 46, 3) := by decide +kernel
theorem dX12_begins_10 : decode cX12_begins 10 = .ok (.aload_n 0, 1) := by decide +kernel
theorem dX12_begins_11 : decode cX12_begins 11 = .ok (.getfield 34, 3) := by decide +kernel
theorem dX12_begins_14 : decode cX12_begins 14 = .ok (.iload_n 1, 1) := by decide +kernel
theorem dX12_begins_15 : decode cX12_begins 15 = .ok (.iconst 0, 1) := by decide +kernel
theorem dX12_begins_16 : decode cX12_begins 16 = .ok (.iastore, 1) := by decide +kernel
theorem dX12_begins_17 : decode cX12_begins 17 = .ok (.aload_n 0, 1) := by decide +kernel
theorem dX12_begins_18 : decode cX12_begins 18 = .ok (.getfield 28, 3) := by decide +kernel
theorem dX12_begins_21 : decode cX12_begins 21 = .ok (.iload_n 1, 1) := by decide +kernel
theorem dX12_begins_22 : decode cX12_begins 22 = .ok (.bipush 24, 2) := by decide +kernel
theorem dX12_begins_24 : decode cX12_begins 24 = .ok (.iastore, 1) := by decide +kernel
theorem dX12_begins_25 : decode cX12_begins 25 = .ok (.iload_n 1, 1) := by decide +kernel
theorem dX12_begins_26 : decode cX12_begins 26 = .ok (.ifCond .ne 27, 3) := by decide +kernel
theorem dX12_begins_29 : decode cX12_begins 29 = .ok (.aload_n 0, 1) := by decide +kernel
theorem dX12_begins_30 : decode cX12_begins 30 = .ok (.getfield 7, 3) := by decide +kernel
theorem dX12_begins_33 : decode cX12_begins 33 = .ok (.iconst 0, 1) := by decide +kernel
theorem dX12_begins_34 : decode cX12_begins 34 = .ok (.iaload, 1) := by decide +kernel
theorem dX12_begins_35 : decode cX12_begins 35 = .ok (.bipush 30, 2) := by decide +kernel
theorem dX12_begins_37 : decode cX12_begins 37 = .ok (.idiv, 1) := by decide +kernel
theorem dX12_begins_38 : decode cX12_begins 38 = .ok (.istore_n 3, 1) := by decide +kernel
theorem dX12_begins_39 : decode cX12_begins 39 = .ok (.aload_n 0, 1) := by decide +kernel
theorem dX12_begins_40 : decode cX12_begins 40 = .ok (.bipush 24, 2) := by decide +kernel
theorem dX12_begins_42 : decode cX12_begins 42 = .ok (.iload_n 3, 1) := by decide +kernel
theorem dX12_begins_43 : decode cX12_begins 43 = .ok (.invokevirtual 356, 3) := by decide +kernel
theorem dX12_begins_46 : decode cX12_begins 46 = .ok (.aload_n 0, 1) := by decide +kernel
theorem dX12_begins_47 : decode cX12_begins 47 = .ok (.getfield 28, 3) := by decide +kernel
theorem dX12_begins_50 : decode cX12_begins 50 = .ok (.iconst 0, 1) := by decide +kernel
theorem dX12_begins_51 : decode cX12_begins 51 = .ok (.iload_n 3, 1) := by decide +kernel
theorem dX12_begins_52 : decode cX12_begins 52 = .ok (.iastore, 1) := by decide +kernel
theorem dX12_begins_53 : decode cX12_begins 53 = .ok (.aload_n 0, 1) := by decide +kernel
theorem dX12_begins_54 : decode cX12_begins 54 = .ok (.iconst (-1), 1) := by decide +kernel
theorem dX12_begins_55 : decode cX12_begins 55 = .ok (.putfield 373, 3) := by decide +kernel
theorem dX12_begins_58 : decode cX12_begins 58 = .ok (.aload_n 0, 1) := by decide +kernel
theorem dX12_begins_59 : decode cX12_begins 59 = .ok (.iconst 0, 1) := by decide +kernel
theorem dX12_begins_60 : decode cX12_begins 60 = .ok (.putfield 376, 3) := by decide +kernel
theorem dX12_begins_63 : decode cX12_begins 63 = .ok (.iconst 0, 1) := by decide +kernel
theorem dX12_begins_64 : decode cX12_begins 64 = .ok (.istore_n 3, 1) := by decide +kernel
theorem dX12_begins_65 : decode cX12_begins 65 = .ok (.aload_n 0, 1) := by decide +kernel
theorem dX12_begins_66 : decode cX12_begins 66 = .ok (.getfield 28, 3) := by decide +kernel
theorem dX12_begins_69 : decode cX12_begins 69 = .ok (.iload_n 1, 1) := by decide +kernel
theorem dX12_begins_70 : decode cX12_begins 70 = .ok (.iaload, 1) := by decide +kernel
theorem dX12_begins_71 : decode cX12_begins 71 = .ok (.ifCond .lt 60, 3) := by decide +kernel
theorem dX12_begins_74 : decode cX12_begins 74 = .ok (.aload_n 0, 1) := by decide +kernel
theorem dX12_begins_75 : decode cX12_begins 75 = .ok (.getfield 40, 3) := by decide +kernel
theorem dX12_begins_78 : decode cX12_begins 78 = .ok (.iload_n 1, 1) := by decide +kernel
theorem dX12_begins_79 : decode cX12_begins 79 = .ok (.iaload, 1) := by decide +kernel
theorem dX12_begins_80 : decode cX12_begins 80 = .ok (.bipush 8, 2) := by decide +kernel
theorem dX12_begins_82 : decode cX12_begins 82 = .ok (.iand, 1) := by decide +kernel
theorem dX12_begins_83 : decode cX12_begins 83 = .ok (.ifCond .ne 48, 3) := by decide +kernel
theorem dX12_begins_86 : decode cX12_begins 86 = .ok (.iconst 0, 1) := by decide +kernel
theorem dX12_begins_87 : decode cX12_begins 87 = .ok (.istore 4, 2) := by decide +kernel
theorem dX12_begins_89 : decode cX12_begins 89 = .ok (.iload 4, 2) := by decide +kernel
theorem dX12_begins_91 : decode cX12_begins 91 = .ok (.aload_n 0, 1) := by decide +kernel
theorem dX12_begins_92 : decode cX12_begins 92 = .ok (.getfield 128, 3) := by decide +kernel
theorem dX12_begins_95 : decode cX12_begins 95 = .ok (.aload_n 0, 1) := by decide +kernel
theorem dX12_begins_96 : decode cX12_begins 96 = .ok (.getfield 28, 3) := by decide +kernel
theorem dX12_begins_99 : decode cX12_begins 99 = .ok (.iload_n 1, 1) := by decide +kernel
theorem dX12_begins_100 : decode cX12_begins 100 = .ok (.iaload, 1) := by decide +kernel
theorem dX12_begins_101 : decode cX12_begins 101 = .ok (.iaload, 1) := by decide +kernel
theorem dX12_begins_102 : decode cX12_begins 102 = .ok (.if_icmp .ge 29, 3) := by decide +kernel
theorem dX12_begins_105 : decode cX12_begins 105 = .ok (.aload_n 0, 1) := by decide +kernel
theorem dX12_begins_106 : decode cX12_begins 106 = .ok (.iload_n 1, 1) := by decide +kernel
theorem dX12_begins_107 : decode cX12_begins 107 = .ok (.aload_n 0, 1) := by decide +kernel
theorem dX12_begins_108 : decode cX12_begins 108 = .ok (.getfield 28, 3) := by decide +kernel
theorem dX12_begins_111 : decode cX12_begins 111 = .ok (.iload_n 1, 1) := by decide +kernel
theorem dX12_begins_112 : decode cX12_begins 112 = .ok (.iaload, 1) := by decide +kernel
theorem dX12_begins_113 : decode cX12_begins 113 = .ok (.iconst 3, 1) := by decide +kernel
theorem dX12_begins_114 : decode cX12_begins 114 = .ok (.iload 4, 2) := by decide +kernel
theorem dX12_begins_116 : decode cX12_begins 116 = .ok (.iadd, 1) := by decide +kernel
theorem dX12_begins_117 : decode cX12_begins 117 = .ok (.invokevirtual 388, 3) := by decide +kernel
theorem dX12_begins_120 : decode cX12_begins 120 = .ok (.ifCond .eq 5, 3) := by decide +kernel
theorem dX12_begins_123 : decode cX12_begins 123 = .ok (.iconst 1, 1) := by decide +kernel
theorem dX12_begins_124 : decode cX12_begins 124 = .ok (.istore_n 3, 1) := by decide +kernel
theorem dX12_begins_125 : decode cX12_begins 125 = .ok (.iinc 4 1, 3) := by decide +kernel
theorem dX12_begins_128 : decode cX12_begins 128 = .ok (.goto (-39), 3) := by decide +kernel
theorem dX12_begins_131 : decode cX12_begins 131 = .ok (.iload_n 3, 1) := by decide +kernel
theorem dX12_begins_132 : decode cX12_begins 132 = .ok (.ifCond .eq 10, 3) := by decide +kernel
theorem dX12_begins_135 : decode cX12_begins 135 = .ok (.aload_n 0, 1) := by decide +kernel
theorem dX12_begins_136 : decode cX12_begins 136 = .ok (.getfield 28, 3) := by decide +kernel
theorem dX12_begins_139 : decode cX12_begins 139 = .ok (.iload_n 1, 1) := by decide +kernel
theorem dX12_begins_140 : decode cX12_begins 140 = .ok (.iconst (-1), 1) := by decide +kernel
theorem dX12_begins_141 : decode cX12_begins 141 = .ok (.iastore, 1) := by decide +kernel
theorem dX12_begins_142 : decode cX12_begins 142 = .ok (.iconst 0, 1) := by decide +kernel
theorem dX12_begins_143 : decode cX12_begins 143 = .ok (.istore 4, 2) := by decide +kernel
theorem dX12_begins_145 : decode cX12_begins 145 = .ok (.iload 4, 2) := by decide +kernel
theorem dX12_begins_147 : decode cX12_begins 147 = .ok (.aload_n 0, 1) := by decide +kernel
theorem dX12_begins_148 : decode cX12_begins 148 = .ok (.getfield 210, 3) := by decide +kernel
theorem dX12_begins_151 : decode cX12_begins 151 = .ok (.if_icmp .ge 35, 3) := by decide +kernel
theorem dX12_begins_154 : decode cX12_begins 154 = .ok (.aload_n 0, 1) := by decide +kernel
theorem dX12_begins_155 : decode cX12_begins 155 = .ok (.getfield 58, 3) := by decide +kernel
theorem dX12_begins_158 : decode cX12_begins 158 = .ok (.bipush 10, 2) := by decide +kernel
theorem dX12_begins_160 : decode cX12_begins 160 = .ok (.iload_n 1, 1) := by decide +kernel
theorem dX12_begins_161 : decode cX12_begins 161 = .ok (.imul, 1) := by decide +kernel
theorem dX12_begins_162 : decode cX12_begins 162 = .ok (.iload 4, 2) := by decide +kernel
theorem dX12_begins_164 : decode cX12_begins 164 = .ok (.iadd, 1) := by decide +kernel
theorem dX12_begins_165 : decode cX12_begins 165 = .ok (.aload_n 0, 1) := by decide +kernel
theorem dX12_begins_166 : decode cX12_begins 166 = .ok (.getfield 28, 3) := by decide +kernel
theorem dX12_begins_169 : decode cX12_begins 169 = .ok (.iload_n 1, 1) := by decide +kernel
theorem dX12_begins_170 : decode cX12_begins 170 = .ok (.iaload, 1) := by decide +kernel
theorem dX12_begins_171 : decode cX12_begins 171 = .ok (.ifCond .ge 7, 3) := by decide +kernel
theorem dX12_begins_174 : decode cX12_begins 174 = .ok (.iconst (-1), 1) := by decide +kernel
theorem dX12_begins_175 : decode cX12_begins 175 = .ok (.goto 4, 3) := by decide +kernel
theorem dX12_begins_178 : decode cX12_begins 178 = .ok (.iconst 0, 1) := by decide +kernel
theorem dX12_begins_179 : decode cX12_begins 179 = .ok (.iastore, 1) := by decide +kernel
theorem dX12_begins_180 : decode cX12_begins 180 = .ok (.iinc 4 1, 3) := by decide +kernel
theorem dX12_begins_183 : decode cX12_begins 183 = .ok (.goto (-38), 3) := by decide +kernel
theorem dX12_begins_186 : decode cX12_begins 186 = .ok (.aload_n 0, 1) := by decide +kernel
theorem dX12_begins_187 : decode cX12_begins 187 = .ok (.getfield 28, 3) := by decide +kernel
theorem dX12_begins_190 : decode cX12_begins 190 = .ok (.iload_n 1, 1) := by decide +kernel
theorem dX12_begins_191 : decode cX12_begins 191 = .ok (.iaload, 1) := by decide +kernel
theorem dX12_begins_192 : decode cX12_begins 192 = .ok (.ifCond .lt 342, 3) := by decide +kernel
theorem dX12_begins_195 : decode cX12_begins 195 = .ok (.aload_n 0, 1) := by decide +kernel
theorem dX12_begins_196 : decode cX12_begins 196 = .ok (.getfield 31, 3) := by decide +kernel
theorem dX12_begins_199 : decode cX12_begins 199 = .ok (.iload_n 1, 1) := by decide +kernel
theorem dX12_begins_200 : decode cX12_begins 200 = .ok (.iload_n 2, 1) := by decide +kernel
theorem dX12_begins_201 : decode cX12_begins 201 = .ok (.ifCond .lt 7, 3) := by decide +kernel
theorem dX12_begins_204 : decode cX12_begins 204 = .ok (.iload_n 2, 1) := by decide +kernel
theorem dX12_begins_205 : decode cX12_begins 205 = .ok (.goto 31, 3) := by decide +kernel
theorem dX12_begins_208 : decode cX12_begins 208 = .ok (.aload_n 0, 1) := by decide +kernel
theorem dX12_begins_209 : decode cX12_begins 209 = .ok (.iload_n 1, 1) := by decide +kernel
theorem dX12_begins_210 : decode cX12_begins 210 = .ok (.iconst 1, 1) := by decide +kernel
theorem dX12_begins_211 : decode cX12_begins 211 = .ok (.iconst 2, 1) := by decide +kernel
theorem dX12_begins_212 : decode cX12_begins 212 = .ok (.invokevirtual 395, 3) := by decide +kernel
theorem dX12_begins_215 : decode cX12_begins 215 = .ok (.ifCond .eq 18, 3) := by decide +kernel
theorem dX12_begins_218 : decode cX12_begins 218 = .ok (.aload_n 0, 1) := by decide +kernel
theorem dX12_begins_219 : decode cX12_begins 219 = .ok (.iload_n 1, 1) := by decide +kernel
theorem dX12_begins_220 : decode cX12_begins 220 = .ok (.aload_n 0, 1) := by decide +kernel
theorem dX12_begins_221 : decode cX12_begins 221 = .ok (.getfield 28, 3) := by decide +kernel
theorem dX12_begins_224 : decode cX12_begins 224 = .ok (.iload_n 1, 1) := by decide +kernel
theorem dX12_begins_225 : decode cX12_begins 225 = .ok (.iaload, 1) := by decide +kernel
theorem dX12_begins_226 : decode cX12_begins 226 = .ok (.iconst 1, 1) := by decide +kernel
theorem dX12_begins_227 : decode cX12_begins 227 = .ok (.invokevirtual 398, 3) := by decide +kernel
theorem dX12_begins_230 : decode cX12_begins 230 = .ok (.goto 6, 3) := by decide +kernel
theorem dX12_begins_233 : decode cX12_begins 233 = .ok (.sipush 9999, 3) := by decide +kernel
theorem dX12_begins_236 : decode cX12_begins 236 = .ok (.iastore, 1) := by decide +kernel
theorem dX12_begins_237 : decode cX12_begins 237 = .ok (.lconst 0, 1) := by decide +kernel
theorem dX12_begins_238 : decode cX12_begins 238 = .ok (.lstore 4, 2) := by decide +kernel
theorem dX12_begins_240 : decode cX12_begins 240 = .ok (.iconst 0, 1) := by decide +kernel
theorem dX12_begins_241 : decode cX12_begins 241 = .ok (.istore 6, 2) := by decide +kernel
theorem dX12_begins_243 : decode cX12_begins 243 = .ok (.iload 6, 2) := by decide +kernel
theorem dX12_begins_245 : decode cX12_begins 245 = .ok (.aload_n 0, 1) := by decide +kernel
theorem dX12_begins_246 : decode cX12_begins 246 = .ok (.getfield 210, 3) := by decide +kernel
theorem dX12_begins_249 : decode cX12_begins 249 = .ok (.if_icmp .ge 61, 3) := by decide +kernel
theorem dX12_begins_252 : decode cX12_begins 252 = .ok (.aload_n 0, 1) := by decide +kernel
theorem dX12_begins_253 : decode cX12_begins 253 = .ok (.iload 6, 2) := by decide +kernel
theorem dX12_begins_255 : decode cX12_begins 255 = .ok (.putfield 373, 3) := by decide +kernel
theorem dX12_begins_258 : decode cX12_begins 258 = .ok (.aload_n 0, 1) := by decide +kernel
theorem dX12_begins_259 : decode cX12_begins 259 = .ok (.getfield 173, 3) := by decide +kernel
theorem dX12_begins_262 : decode cX12_begins 262 = .ok (.iload 6, 2) := by decide +kernel
theorem dX12_begins_264 : decode cX12_begins 264 = .ok (.aload_n 0, 1) := by decide +kernel
theorem dX12_begins_265 : decode cX12_begins 265 = .ok (.iload_n 1, 1) := by decide +kernel
theorem dX12_begins_266 : decode cX12_begins 266 = .ok (.iconst 0, 1) := by decide +kernel
theorem dX12_begins_267 : decode cX12_begins 267 = .ok (.iconst 1, 1) := by decide +kernel
theorem dX12_begins_268 : decode cX12_begins 268 = .ok (.invokevirtual 395, 3) := by decide +kernel
theorem dX12_begins_271 : decode cX12_begins 271 = .ok (.ifCond .eq 18, 3) := by decide +kernel
theorem dX12_begins_274 : decode cX12_begins 274 = .ok (.aload_n 0, 1) := by decide +kernel
theorem dX12_begins_275 : decode cX12_begins 275 = .ok (.iload_n 1, 1) := by decide +kernel
theorem dX12_begins_276 : decode cX12_begins 276 = .ok (.aload_n 0, 1) := by decide +kernel
theorem dX12_begins_277 : decode cX12_begins 277 = .ok (.getfield 28, 3) := by decide +kernel
theorem dX12_begins_280 : decode cX12_begins 280 = .ok (.iload_n 1, 1) := by decide +kernel
theorem dX12_begins_281 : decode cX12_begins 281 = .ok (.iaload, 1) := by decide +kernel
theorem dX12_begins_282 : decode cX12_begins 282 = .ok (.iconst 0, 1) := by decide +kernel
theorem dX12_begins_283 : decode cX12_begins 283 = .ok (.invokevirtual 398, 3) := by decide +kernel
theorem dX12_begins_286 : decode cX12_begins 286 = .ok (.goto 4, 3) := by decide +kernel
theorem dX12_begins_289 : decode cX12_begins 289 = .ok (.iconst 1, 1) := by decide +kernel
theorem dX12_begins_290 : decode cX12_begins 290 = .ok (.iastore, 1) := by decide +kernel
theorem dX12_begins_291 : decode cX12_begins 291 = .ok (.lload 4, 2) := by decide +kernel
theorem dX12_begins_293 : decode cX12_begins 293 = .ok (.aload_n 0, 1) := by decide +kernel
theorem dX12_begins_294 : decode cX12_begins 294 = .ok (.getfield 173, 3) := by decide +kernel
theorem dX12_begins_297 : decode cX12_begins 297 = .ok (.iload 6, 2) := by decide +kernel
theorem dX12_begins_299 : decode cX12_begins 299 = .ok (.iaload, 1) := by decide +kernel
theorem dX12_begins_300 : decode cX12_begins 300 = .ok (.i2l, 1) := by decide +kernel
theorem dX12_begins_301 : decode cX12_begins 301 = .ok (.ladd, 1) := by decide +kernel
theorem dX12_begins_302 : decode cX12_begins 302 = .ok (.lstore 4, 2) := by decide +kernel
theorem dX12_begins_304 : decode cX12_begins 304 = .ok (.iinc 6 1, 3) := by decide +kernel
theorem dX12_begins_307 : decode cX12_begins 307 = .ok (.goto (-64), 3) := by decide +kernel
theorem dX12_begins_310 : decode cX12_begins 310 = .ok (.lload 4, 2) := by decide +kernel
theorem dX12_begins_312 : decode cX12_begins 312 = .ok (.lconst 0, 1) := by decide +kernel
theorem dX12_begins_313 : decode cX12_begins 313 = .ok (.lcmp, 1) := by decide +kernel
theorem dX12_begins_314 : decode cX12_begins 314 = .ok (.ifCond .ne 7, 3) := by decide +kernel
theorem dX12_begins_317 : decode cX12_begins 317 = .ok (.iconst 0, 1) := by decide +kernel
theorem dX12_begins_318 : decode cX12_begins 318 = .ok (.goto 9, 3) := by decide +kernel
theorem dX12_begins_321 : decode cX12_begins 321 = .ok (.aload_n 0, 1) := by decide +kernel
theorem dX12_begins_322 : decode cX12_begins 322 = .ok (.getfield 31, 3) := by decide +kernel
theorem dX12_begins_325 : decode cX12_begins 325 = .ok (.iload_n 1, 1) := by decide +kernel
theorem dX12_begins_326 : decode cX12_begins 326 = .ok (.iaload, 1) := by decide +kernel
theorem dX12_begins_327 : decode cX12_begins 327 = .ok (.istore 6, 2) := by decide +kernel
theorem dX12_begins_329 : decode cX12_begins 329 = .ok (.iconst 0, 1) := by decide +kernel
theorem dX12_begins_330 : decode cX12_begins 330 = .ok (.istore 7, 2) := by decide +kernel
theorem dX12_begins_332 : decode cX12_begins 332 = .ok (.iload 7, 2) := by decide +kernel
theorem dX12_begins_334 : decode cX12_begins 334 = .ok (.aload_n 0, 1) := by decide +kernel
theorem dX12_begins_335 : decode cX12_begins 335 = .ok (.getfield 210, 3) := by decide +kernel
theorem dX12_begins_338 : decode cX12_begins 338 = .ok (.if_icmp .ge 76, 3) := by decide +kernel
theorem dX12_begins_341 : decode cX12_begins 341 = .ok (.lload 4, 2) := by decide +kernel
theorem dX12_begins_343 : decode cX12_begins 343 = .ok (.lconst 0, 1) := by decide +kernel
theorem dX12_begins_344 : decode cX12_begins 344 = .ok (.lcmp, 1) := by decide +kernel
theorem dX12_begins_345 : decode cX12_begins 345 = .ok (.ifCond .le 69, 3) := by decide +kernel
theorem dX12_begins_348 : decode cX12_begins 348 = .ok (.aload_n 0, 1) := by decide +kernel
theorem dX12_begins_349 : decode cX12_begins 349 = .ok (.getfield 31, 3) := by decide +kernel
theorem dX12_begins_352 : decode cX12_begins 352 = .ok (.iload_n 1, 1) := by decide +kernel
theorem dX12_begins_353 : decode cX12_begins 353 = .ok (.iaload, 1) := by decide +kernel
theorem dX12_begins_354 : decode cX12_begins 354 = .ok (.i2l, 1) := by decide +kernel
theorem dX12_begins_355 : decode cX12_begins 355 = .ok (.aload_n 0, 1) := by decide +kernel
theorem dX12_begins_356 : decode cX12_begins 356 = .ok (.getfield 173, 3) := by decide +kernel
theorem dX12_begins_359 : decode cX12_begins 359 = .ok (.iload 7, 2) := by decide +kernel
theorem dX12_begins_361 : decode cX12_begins 361 = .ok (.iaload, 1) := by decide +kernel
theorem dX12_begins_362 : decode cX12_begins 362 = .ok (.i2l, 1) := by decide +kernel
theorem dX12_begins_363 : decode cX12_begins 363 = .ok (.lmul, 1) := by decide +kernel
theorem dX12_begins_364 : decode cX12_begins 364 = .ok (.lstore 8, 2) := by decide +kernel
theorem dX12_begins_366 : decode cX12_begins 366 = .ok (.aload_n 0, 1) := by decide +kernel
theorem dX12_begins_367 : decode cX12_begins 367 = .ok (.getfield 58, 3) := by decide +kernel
theorem dX12_begins_370 : decode cX12_begins 370 = .ok (.bipush 10, 2) := by decide +kernel
theorem dX12_begins_372 : decode cX12_begins 372 = .ok (.iload_n 1, 1) := by decide +kernel
theorem dX12_begins_373 : decode cX12_begins 373 = .ok (.imul, 1) := by decide +kernel
theorem dX12_begins_374 : decode cX12_begins 374 = .ok (.iload 7, 2) := by decide +kernel
theorem dX12_begins_376 : decode cX12_begins 376 = .ok (.iadd, 1) := by decide +kernel
theorem dX12_begins_377 : decode cX12_begins 377 = .ok (.lload 8, 2) := by decide +kernel
theorem dX12_begins_379 : decode cX12_begins 379 = .ok (.lload 4, 2) := by decide +kernel
theorem dX12_begins_381 : decode cX12_begins 381 = .ok (.ldiv, 1) := by decide +kernel
theorem dX12_begins_382 : decode cX12_begins 382 = .ok (.l2i, 1) := by decide +kernel
theorem dX12_begins_383 : decode cX12_begins 383 = .ok (.iastore, 1) := by decide +kernel
theorem dX12_begins_384 : decode cX12_begins 384 = .ok (.aload_n 0, 1) := by decide +kernel
theorem dX12_begins_385 : decode cX12_begins 385 = .ok (.getfield 176, 3) := by decide +kernel
theorem dX12_begins_388 : decode cX12_begins 388 = .ok (.iload 7, 2) := by decide +kernel
theorem dX12_begins_390 : decode cX12_begins 390 = .ok (.lload 8, 2) := by decide +kernel
theorem dX12_begins_392 : decode cX12_begins 392 = .ok (.lload 4, 2) := by decide +kernel
theorem dX12_begins_394 : decode cX12_begins 394 = .ok (.lrem, 1) := by decide +kernel
theorem dX12_begins_395 : decode cX12_begins 395 = .ok (.l2i, 1) := by decide +kernel
theorem dX12_begins_396 : decode cX12_begins 396 = .ok (.iastore, 1) := by decide +kernel
theorem dX12_begins_397 : decode cX12_begins 397 = .ok (.iload 6, 2) := by decide +kernel
theorem dX12_begins_399 : decode cX12_begins 399 = .ok (.lload 8, 2) := by decide +kernel
theorem dX12_begins_401 : decode cX12_begins 401 = .ok (.lload 4, 2) := by decide +kernel
theorem dX12_begins_403 : decode cX12_begins 403 = .ok (.ldiv, 1) := by decide +kernel
theorem dX12_begins_404 : decode cX12_begins 404 = .ok (.l2i, 1) := by decide +kernel
theorem dX12_begins_405 : decode cX12_begins 405 = .ok (.isub, 1) := by decide +kernel
theorem dX12_begins_406 : decode cX12_begins 406 = .ok (.istore 6, 2) := by decide +kernel
theorem dX12_begins_408 : decode cX12_begins 408 = .ok (.iinc 7 1, 3) := by decide +kernel
theorem dX12_begins_411 : decode cX12_begins 411 = .ok (.goto (-79), 3) := by decide +kernel
theorem dX12_begins_414 : decode cX12_begins 414 = .ok (.aload_n 0, 1) := by decide +kernel
theorem dX12_begins_415 : decode cX12_begins 415 = .ok (.getfield 40, 3) := by decide +kernel
theorem dX12_begins_418 : decode cX12_begins 418 = .ok (.iload_n 1, 1) := by decide +kernel
theorem dX12_begins_419 : decode cX12_begins 419 = .ok (.iaload, 1) := by decide +kernel
theorem dX12_begins_420 : decode cX12_begins 420 = .ok (.bipush 16, 2) := by decide +kernel
theorem dX12_begins_422 : decode cX12_begins 422 = .ok (.iand, 1) := by decide +kernel
theorem dX12_begins_423 : decode cX12_begins 423 = .ok (.ifCond .eq 7, 3) := by decide +kernel
theorem dX12_begins_426 : decode cX12_begins 426 = .ok (.iconst (-1), 1) := by decide +kernel
theorem dX12_begins_427 : decode cX12_begins 427 = .ok (.goto 14, 3) := by decide +kernel
theorem dX12_begins_430 : decode cX12_begins 430 = .ok (.aload_n 0, 1) := by decide +kernel
theorem dX12_begins_431 : decode cX12_begins 431 = .ok (.getfield 131, 3) := by decide +kernel
theorem dX12_begins_434 : decode cX12_begins 434 = .ok (.aload_n 0, 1) := by decide +kernel
theorem dX12_begins_435 : decode cX12_begins 435 = .ok (.getfield 28, 3) := by decide +kernel
theorem dX12_begins_438 : decode cX12_begins 438 = .ok (.iload_n 1, 1) := by decide +kernel
theorem dX12_begins_439 : decode cX12_begins 439 = .ok (.iaload, 1) := by decide +kernel
theorem dX12_begins_440 : decode cX12_begins 440 = .ok (.iaload, 1) := by decide +kernel
theorem dX12_begins_441 : decode cX12_begins 441 = .ok (.istore 7, 2) := by decide +kernel
theorem dX12_begins_443 : decode cX12_begins 443 = .ok (.iload 6, 2) := by decide +kernel
theorem dX12_begins_445 : decode cX12_begins 445 = .ok (.ifCond .le 89, 3) := by decide +kernel
theorem dX12_begins_448 : decode cX12_begins 448 = .ok (.iconst (-1), 1) := by decide +kernel
theorem dX12_begins_449 : decode cX12_begins 449 = .ok (.istore 8, 2) := by decide +kernel
theorem dX12_begins_451 : decode cX12_begins 451 = .ok (.iconst 0, 1) := by decide +kernel
theorem dX12_begins_452 : decode cX12_begins 452 = .ok (.istore 9, 2) := by decide +kernel
theorem dX12_begins_454 : decode cX12_begins 454 = .ok (.iload 9, 2) := by decide +kernel
theorem dX12_begins_456 : decode cX12_begins 456 = .ok (.aload_n 0, 1) := by decide +kernel
theorem dX12_begins_457 : decode cX12_begins 457 = .ok (.getfield 210, 3) := by decide +kernel
theorem dX12_begins_460 : decode cX12_begins 460 = .ok (.if_icmp .ge 44, 3) := by decide +kernel
theorem dX12_begins_463 : decode cX12_begins 463 = .ok (.aload_n 0, 1) := by decide +kernel
theorem dX12_begins_464 : decode cX12_begins 464 = .ok (.getfield 173, 3) := by decide +kernel
theorem dX12_begins_467 : decode cX12_begins 467 = .ok (.iload 9, 2) := by decide +kernel
theorem dX12_begins_469 : decode cX12_begins 469 = .ok (.iaload, 1) := by decide +kernel
theorem dX12_begins_470 : decode cX12_begins 470 = .ok (.ifCond .ne 6, 3) := by decide +kernel
theorem dX12_begins_473 : decode cX12_begins 473 = .ok (.goto 25, 3) := by decide +kernel
theorem dX12_begins_476 : decode cX12_begins 476 = .ok (.iload 8, 2) := by decide +kernel
theorem dX12_begins_478 : decode cX12_begins 478 = .ok (.ifCond .lt 16, 3) := by decide +kernel
theorem dX12_begins_481 : decode cX12_begins 481 = .ok (.aload_n 0, 1) := by decide +kernel
theorem dX12_begins_482 : decode cX12_begins 482 = .ok (.iload 7, 2) := by decide +kernel
theorem dX12_begins_484 : decode cX12_begins 484 = .ok (.iload 9, 2) := by decide +kernel
theorem dX12_begins_486 : decode cX12_begins 486 = .ok (.iload 8, 2) := by decide +kernel
theorem dX12_begins_488 : decode cX12_begins 488 = .ok (.invokevirtual 401, 3) := by decide +kernel
theorem dX12_begins_491 : decode cX12_begins 491 = .ok (.ifCond .eq 7, 3) := by decide +kernel
theorem dX12_begins_494 : decode cX12_begins 494 = .ok (.iload 9, 2) := by decide +kernel
theorem dX12_begins_496 : decode cX12_begins 496 = .ok (.istore 8, 2) := by decide +kernel
theorem dX12_begins_498 : decode cX12_begins 498 = .ok (.iinc 9 1, 3) := by decide +kernel
theorem dX12_begins_501 : decode cX12_begins 501 = .ok (.goto (-47), 3) := by decide +kernel
theorem dX12_begins_504 : decode cX12_begins 504 = .ok (.aload_n 0, 1) := by decide +kernel
theorem dX12_begins_505 : decode cX12_begins 505 = .ok (.getfield 58, 3) := by decide +kernel
theorem dX12_begins_508 : decode cX12_begins 508 = .ok (.bipush 10, 2) := by decide +kernel
theorem dX12_begins_510 : decode cX12_begins 510 = .ok (.iload_n 1, 1) := by decide +kernel
theorem dX12_begins_511 : decode cX12_begins 511 = .ok (.imul, 1) := by decide +kernel
theorem dX12_begins_512 : decode cX12_begins 512 = .ok (.iload 8, 2) := by decide +kernel
theorem dX12_begins_514 : decode cX12_begins 514 = .ok (.iadd, 1) := by decide +kernel
theorem dX12_begins_515 : decode cX12_begins 515 = .ok (.dup2, 1) := by decide +kernel
theorem dX12_begins_516 : decode cX12_begins 516 = .ok (.iaload, 1) := by decide +kernel
theorem dX12_begins_517 : decode cX12_begins 517 = .ok (.iconst 1, 1) := by decide +kernel
theorem dX12_begins_518 : decode cX12_begins 518 = .ok (.iadd, 1) := by decide +kernel
theorem dX12_begins_519 : decode cX12_begins 519 = .ok (.iastore, 1) := by decide +kernel
theorem dX12_begins_520 : decode cX12_begins 520 = .ok (.aload_n 0, 1) := by decide +kernel
theorem dX12_begins_521 : decode cX12_begins 521 = .ok (.getfield 173, 3) := by decide +kernel
theorem dX12_begins_524 : decode cX12_begins 524 = .ok (.iload 8, 2) := by decide +kernel
theorem dX12_begins_526 : decode cX12_begins 526 = .ok (.iconst 0, 1) := by decide +kernel
theorem dX12_begins_527 : decode cX12_begins 527 = .ok (.iastore, 1) := by decide +kernel
theorem dX12_begins_528 : decode cX12_begins 528 = .ok (.iinc 6 (-1), 3) := by decide +kernel
theorem dX12_begins_531 : decode cX12_begins 531 = .ok (.goto (-88), 3) := by decide +kernel
theorem dX12_begins_534 : decode cX12_begins 534 = .ok (.iconst 0, 1) := by decide +kernel
theorem dX12_begins_535 : decode cX12_begins 535 = .ok (.istore 4, 2) := by decide +kernel
theorem dX12_begins_537 : decode cX12_begins 537 = .ok (.iload 4, 2) := by decide +kernel
theorem dX12_begins_539 : decode cX12_begins 539 = .ok (.aload_n 0, 1) := by decide +kernel
theorem dX12_begins_540 : decode cX12_begins 540 = .ok (.getfield 210, 3) := by decide +kernel
theorem dX12_begins_543 : decode cX12_begins 543 = .ok (.if_icmp .ge 22, 3) := by decide +kernel
theorem dX12_begins_546 : decode cX12_begins 546 = .ok (.aload_n 0, 1) := by decide +kernel
theorem dX12_begins_547 : decode cX12_begins 547 = .ok (.getfield 55, 3) := by decide +kernel
theorem dX12_begins_550 : decode cX12_begins 550 = .ok (.bipush 10, 2) := by decide +kernel
theorem dX12_begins_552 : decode cX12_begins 552 = .ok (.iload_n 1, 1) := by decide +kernel
theorem dX12_begins_553 : decode cX12_begins 553 = .ok (.imul, 1) := by decide +kernel
theorem dX12_begins_554 : decode cX12_begins 554 = .ok (.iload 4, 2) := by decide +kernel
theorem dX12_begins_556 : decode cX12_begins 556 = .ok (.iadd, 1) := by decide +kernel
theorem dX12_begins_557 : decode cX12_begins 557 = .ok (.iconst 0, 1) := by decide +kernel
theorem dX12_begins_558 : decode cX12_begins 558 = .ok (.iastore, 1) := by decide +kernel
theorem dX12_begins_559 : decode cX12_begins 559 = .ok (.iinc 4 1, 3) := by decide +kernel
theorem dX12_begins_562 : decode cX12_begins 562 = .ok (.goto (-25), 3) := by decide +kernel
theorem dX12_begins_565 : decode cX12_begins 565 = .ok (.return_, 1) := by decide +kernel
theorem dX12_better_0 : decode cX12_better 0 = .ok (.iload_n 1, 1) := by decide +kernel
theorem dX12_better_1 : decode cX12_better 1 = .ok (.ifCond .ne 26, 3) := by decide +kernel
theorem dX12_better_4 : decode cX12_better 4 = .ok (.aload_n 0, 1) := by decide +kernel
theorem dX12_better_5 : decode cX12_better 5 = .ok (.getfield 95, 3) := by decide +kernel
theorem dX12_better_8 : decode cX12_better 8 = .ok (.iload_n 2, 1) := by decide +kernel
theorem dX12_better_9 : decode cX12_better 9 = .ok (.iaload, 1) := by decide +kernel
theorem dX12_better_10 : decode cX12_better 10 = .ok (.aload_n 0, 1) := by decide +kernel
theorem dX12_better_11 : decode cX12_better 11 = .ok (.getfield 95, 3) := by decide +kernel
theorem dX12_better_14 : decode cX12_better 14 = .ok (.iload_n 3, 1) := by decide +kernel
theorem dX12_better_15 : decode cX12_better 15 = .ok (.iaload, 1) := by decide +kernel
theorem dX12_better_16 : decode cX12_better 16 = .ok (.if_icmp .le 7, 3) := by decide +kernel
theorem dX12_better_19 : decode cX12_better 19 = .ok (.iconst 1, 1) := by decide +kernel
theorem dX12_better_20 : decode cX12_better 20 = .ok (.goto 59, 3) := by decide +kernel
theorem dX12_better_23 : decode cX12_better 23 = .ok (.iconst 0, 1) := by decide +kernel
theorem dX12_better_24 : decode cX12_better 24 = .ok (.goto 55, 3) := by decide +kernel
theorem dX12_better_27 : decode cX12_better 27 = .ok (.iload_n 1, 1) := by decide +kernel
theorem dX12_better_28 : decode cX12_better 28 = .ok (.iconst 1, 1) := by decide +kernel
theorem dX12_better_29 : decode cX12_better 29 = .ok (.if_icmp .ne 26, 3) := by decide +kernel
theorem dX12_better_32 : decode cX12_better 32 = .ok (.aload_n 0, 1) := by decide +kernel
theorem dX12_better_33 : decode cX12_better 33 = .ok (.getfield 92, 3) := by decide +kernel
theorem dX12_better_36 : decode cX12_better 36 = .ok (.iload_n 2, 1) := by decide +kernel
theorem dX12_better_37 : decode cX12_better 37 = .ok (.iaload, 1) := by decide +kernel
theorem dX12_better_38 : decode cX12_better 38 = .ok (.aload_n 0, 1) := by decide +kernel
theorem dX12_better_39 : decode cX12_better 39 = .ok (.getfield 92, 3) := by decide +kernel
theorem dX12_better_42 : decode cX12_better 42 = .ok (.iload_n 3, 1) := by decide +kernel
theorem dX12_better_43 : decode cX12_better 43 = .ok (.iaload, 1) := by decide +kernel
theorem dX12_better_44 : decode cX12_better 44 = .ok (.if_icmp .le 7, 3) := by decide +kernel
theorem dX12_better_47 : decode cX12_better 47 = .ok (.iconst 1, 1) := by decide +kernel
theorem dX12_better_48 : decode cX12_better 48 = .ok (.goto 31, 3) := by decide +kernel
theorem dX12_better_51 : decode cX12_better 51 = .ok (.iconst 0, 1) := by decide +kernel
theorem dX12_better_52 : decode cX12_better 52 = .ok (.goto 27, 3) := by decide +kernel
theorem dX12_better_55 : decode cX12_better 55 = .ok (.iload_n 1, 1) := by decide +kernel
theorem dX12_better_56 : decode cX12_better 56 = .ok (.ifCond .ge 22, 3) := by decide +kernel
theorem dX12_better_59 : decode cX12_better 59 = .ok (.aload_n 0, 1) := by decide +kernel
theorem dX12_better_60 : decode cX12_better 60 = .ok (.getfield 176, 3) := by decide +kernel
theorem dX12_better_63 : decode cX12_better 63 = .ok (.iload_n 2, 1) := by decide +kernel
theorem dX12_better_64 : decode cX12_better 64 = .ok (.iaload, 1) := by decide +kernel
theorem dX12_better_65 : decode cX12_better 65 = .ok (.aload_n 0, 1) := by decide +kernel
theorem dX12_better_66 : decode cX12_better 66 = .ok (.getfield 176, 3) := by decide +kernel
theorem dX12_better_69 : decode cX12_better 69 = .ok (.iload_n 3, 1) := by decide +kernel
theorem dX12_better_70 : decode cX12_better 70 = .ok (.iaload, 1) := by decide +kernel
theorem dX12_better_71 : decode cX12_better 71 = .ok (.if_icmp .le 7, 3) := by decide +kernel
theorem dX12_better_74 : decode cX12_better 74 = .ok (.iconst 1, 1) := by decide +kernel
theorem dX12_better_75 : decode cX12_better 75 = .ok (.goto 4, 3) := by decide +kernel
theorem dX12_better_78 : decode cX12_better 78 = .ok (.iconst 0, 1) := by decide +kernel
theorem dX12_better_79 : decode cX12_better 79 = .ok (.ireturn, 1) := by decide +kernel
theorem dX12_isStopped_0 : decode cX12_isStopped 0 = .ok (.aload_n 0, 1) := by decide +kernel
theorem dX12_isStopped_1 : decode cX12_isStopped 1 = .ok (.getfield 28, 3) := by decide +kernel
theorem dX12_isStopped_4 : decode cX12_isStopped 4 = .ok (.iload_n 1, 1) := by decide +kernel
theorem dX12_isStopped_5 : decode cX12_isStopped 5 = .ok (.iaload, 1) := by decide +kernel
theorem dX12_isStopped_6 : decode cX12_isStopped 6 = .ok (.ifCond .lt 49, 3) := by decide +kernel
theorem dX12_isStopped_9 : decode cX12_isStopped 9 = .ok (.aload_n 0, 1) := by decide +kernel
theorem dX12_isStopped_10 : decode cX12_isStopped 10 = .ok (.getfield 64, 3) := by decide +kernel
theorem dX12_isStopped_13 : decode cX12_isStopped 13 = .ok (.bipush 10, 2) := by decide +kernel
theorem dX12_isStopped_15 : decode cX12_isStopped 15 = .ok (.iload_n 1, 1) := by decide +kernel
theorem dX12_isStopped_16 : decode cX12_isStopped 16 = .ok (.imul, 1) := by decide +kernel
theorem dX12_isStopped_17 : decode cX12_isStopped 17 = .ok (.iload_n 2, 1) := by decide +kernel
theorem dX12_isStopped_18 : decode cX12_isStopped 18 = .ok (.iadd, 1) := by decide +kernel
theorem dX12_isStopped_19 : decode cX12_isStopped 19 = .ok (.baload, 1) := by decide +kernel
theorem dX12_isStopped_20 : decode cX12_isStopped 20 = .ok (.ifCond .ne 35, 3) := by decide +kernel
theorem dX12_isStopped_23 : decode cX12_isStopped 23 = .ok (.aload_n 0, 1) := by decide +kernel
theorem dX12_isStopped_24 : decode cX12_isStopped 24 = .ok (.getfield 55, 3) := by decide +kernel
theorem dX12_isStopped_27 : decode cX12_isStopped 27 = .ok (.bipush 10, 2) := by decide +kernel
theorem dX12_isStopped_29 : decode cX12_isStopped 29 = .ok (.iload_n 1, 1) := by decide +kernel
theorem dX12_isStopped_30 : decode cX12_isStopped 30 = .ok (.imul, 1) := by decide +kernel
theorem dX12_isStopped_31 : decode cX12_isStopped 31 = .ok (.iload_n 2, 1) := by decide +kernel
theorem dX12_isStopped_32 : decode cX12_isStopped 32 = .ok (.iadd, 1) := by decide +kernel
theorem dX12_isStopped_33 : decode cX12_isStopped 33 = .ok (.iaload, 1) := by decide +kernel
theorem dX12_isStopped_34 : decode cX12_isStopped 34 = .ok (.bipush 8, 2) := by decide +kernel
theorem dX12_isStopped_36 : decode cX12_isStopped 36 = .ok (.iadd, 1) := by decide +kernel
theorem dX12_isStopped_37 : decode cX12_isStopped 37 = .ok (.aload_n 0, 1) := by decide +kernel
theorem dX12_isStopped_38 : decode cX12_isStopped 38 = .ok (.getfield 58, 3) := by decide +kernel
theorem dX12_isStopped_41 : decode cX12_isStopped 41 = .ok (.bipush 10, 2) := by decide +kernel
theorem dX12_isStopped_43 : decode cX12_isStopped 43 = .ok (.iload_n 1, 1) := by decide +kernel
theorem dX12_isStopped_44 : decode cX12_isStopped 44 = .ok (.imul, 1) := by decide +kernel
theorem dX12_isStopped_45 : decode cX12_isStopped 45 = .ok (.iload_n 2, 1) := by decide +kernel
theorem dX12_isStopped_46 : decode cX12_isStopped 46 = .ok (.iadd, 1) := by decide +kernel
theorem dX12_isStopped_47 : decode cX12_isStopped 47 = .ok (.iaload, 1) := by decide +kernel
theorem dX12_isStopped_48 : decode cX12_isStopped 48 = .ok (.if_icmp .le 7, 3) := by decide +kernel
theorem dX12_isStopped_51 : decode cX12_isStopped 51 = .ok (.iconst 1, 1) := by decide +kernel
theorem dX12_isStopped_52 : decode cX12_isStopped 52 = .ok (.goto 4, 3) := by decide +kernel
theorem dX12_isStopped_55 : decode cX12_isStopped 55 = .ok (.iconst 0, 1) := by decide +kernel
theorem dX12_isStopped_56 : decode cX12_isStopped 56 = .ok (.ireturn, 1) := by decide +kernel
theorem dX12_ownerFor_0 : decode cX12_ownerFor 0 = .ok (.iconst 0, 1) := by decide +kernel
theorem dX12_ownerFor_1 : decode cX12_ownerFor 1 = .ok (.istore_n 3, 1) := by decide +kernel
theorem dX12_ownerFor_2 : decode cX12_ownerFor 2 = .ok (.iload_n 3, 1) := by decide +kernel
theorem dX12_ownerFor_3 : decode cX12_ownerFor 3 = .ok (.aload_n 0, 1) := by decide +kernel
theorem dX12_ownerFor_4 : decode cX12_ownerFor 4 = .ok (.getfield 210, 3) := by decide +kernel
theorem dX12_ownerFor_7 : decode cX12_ownerFor 7 = .ok (.if_icmp .ge 70, 3) := by decide +kernel
theorem dX12_ownerFor_10 : decode cX12_ownerFor 10 = .ok (.aload_n 0, 1) := by decide +kernel
theorem dX12_ownerFor_11 : decode cX12_ownerFor 11 = .ok (.getfield 16, 3) := by decide +kernel
theorem dX12_ownerFor_14 : decode cX12_ownerFor 14 = .ok (.iload_n 1, 1) := by decide +kernel
theorem dX12_ownerFor_15 : decode cX12_ownerFor 15 = .ok (.iaload, 1) := by decide +kernel
theorem dX12_ownerFor_16 : decode cX12_ownerFor 16 = .ok (.iload_n 3, 1) := by decide +kernel
theorem dX12_ownerFor_17 : decode cX12_ownerFor 17 = .ok (.iadd, 1) := by decide +kernel
theorem dX12_ownerFor_18 : decode cX12_ownerFor 18 = .ok (.aload_n 0, 1) := by decide +kernel
theorem dX12_ownerFor_19 : decode cX12_ownerFor 19 = .ok (.getfield 210, 3) := by decide +kernel
theorem dX12_ownerFor_22 : decode cX12_ownerFor 22 = .ok (.irem, 1) := by decide +kernel
theorem dX12_ownerFor_23 : decode cX12_ownerFor 23 = .ok (.istore 4, 2) := by decide +kernel
theorem dX12_ownerFor_25 : decode cX12_ownerFor 25 = .ok (.aload_n 0, 1) := by decide +kernel
theorem dX12_ownerFor_26 : decode cX12_ownerFor 26 = .ok (.getfield 92, 3) := by decide +kernel
theorem dX12_ownerFor_29 : decode cX12_ownerFor 29 = .ok (.iload 4, 2) := by decide +kernel
theorem dX12_ownerFor_31 : decode cX12_ownerFor 31 = .ok (.iaload, 1) := by decide +kernel
theorem dX12_ownerFor_32 : decode cX12_ownerFor 32 = .ok (.aload_n 0, 1) := by decide +kernel
theorem dX12_ownerFor_33 : decode cX12_ownerFor 33 = .ok (.getfield 110, 3) := by decide +kernel
theorem dX12_ownerFor_36 : decode cX12_ownerFor 36 = .ok (.iload_n 2, 1) := by decide +kernel
theorem dX12_ownerFor_37 : decode cX12_ownerFor 37 = .ok (.iaload, 1) := by decide +kernel
theorem dX12_ownerFor_38 : decode cX12_ownerFor 38 = .ok (.if_icmp .lt 33, 3) := by decide +kernel
theorem dX12_ownerFor_41 : decode cX12_ownerFor 41 = .ok (.aload_n 0, 1) := by decide +kernel
theorem dX12_ownerFor_42 : decode cX12_ownerFor 42 = .ok (.getfield 52, 3) := by decide +kernel
theorem dX12_ownerFor_45 : decode cX12_ownerFor 45 = .ok (.bipush 10, 2) := by decide +kernel
theorem dX12_ownerFor_47 : decode cX12_ownerFor 47 = .ok (.iload_n 1, 1) := by decide +kernel
theorem dX12_ownerFor_48 : decode cX12_ownerFor 48 = .ok (.imul, 1) := by decide +kernel
theorem dX12_ownerFor_49 : decode cX12_ownerFor 49 = .ok (.iload 4, 2) := by decide +kernel
theorem dX12_ownerFor_51 : decode cX12_ownerFor 51 = .ok (.iadd, 1) := by decide +kernel
theorem dX12_ownerFor_52 : decode cX12_ownerFor 52 = .ok (.iaload, 1) := by decide +kernel
theorem dX12_ownerFor_53 : decode cX12_ownerFor 53 = .ok (.bipush 8, 2) := by decide +kernel
theorem dX12_ownerFor_55 : decode cX12_ownerFor 55 = .ok (.if_icmp .lt 16, 3) := by decide +kernel
theorem dX12_ownerFor_58 : decode cX12_ownerFor 58 = .ok (.aload_n 0, 1) := by decide +kernel
theorem dX12_ownerFor_59 : decode cX12_ownerFor 59 = .ok (.iload_n 1, 1) := by decide +kernel
theorem dX12_ownerFor_60 : decode cX12_ownerFor 60 = .ok (.iload 4, 2) := by decide +kernel
theorem dX12_ownerFor_62 : decode cX12_ownerFor 62 = .ok (.invokevirtual 404, 3) := by decide +kernel
theorem dX12_ownerFor_65 : decode cX12_ownerFor 65 = .ok (.ifCond .ne 6, 3) := by decide +kernel
theorem dX12_ownerFor_68 : decode cX12_ownerFor 68 = .ok (.iload 4, 2) := by decide +kernel
theorem dX12_ownerFor_70 : decode cX12_ownerFor 70 = .ok (.ireturn, 1) := by decide +kernel
theorem dX12_ownerFor_71 : decode cX12_ownerFor 71 = .ok (.iinc 3 1, 3) := by decide +kernel
theorem dX12_ownerFor_74 : decode cX12_ownerFor 74 = .ok (.goto (-72), 3) := by decide +kernel
theorem dX12_ownerFor_77 : decode cX12_ownerFor 77 = .ok (.iconst (-1), 1) := by decide +kernel
theorem dX12_ownerFor_78 : decode cX12_ownerFor 78 = .ok (.ireturn, 1) := by decide +kernel
theorem dX12_hasRoom_0 : decode cX12_hasRoom 0 = .ok (.bipush 8, 2) := by decide +kernel
theorem dX12_hasRoom_2 : decode cX12_hasRoom 2 = .ok (.aload_n 0, 1) := by decide +kernel
theorem dX12_hasRoom_3 : decode cX12_hasRoom 3 = .ok (.getfield 71, 3) := by decide +kernel
theorem dX12_hasRoom_6 : decode cX12_hasRoom 6 = .ok (.bipush 8, 2) := by decide +kernel
theorem dX12_hasRoom_8 : decode cX12_hasRoom 8 = .ok (.iload_n 1, 1) := by decide +kernel
theorem dX12_hasRoom_9 : decode cX12_hasRoom 9 = .ok (.imul, 1) := by decide +kernel
theorem dX12_hasRoom_10 : decode cX12_hasRoom 10 = .ok (.iload_n 2, 1) := by decide +kernel
theorem dX12_hasRoom_11 : decode cX12_hasRoom 11 = .ok (.iadd, 1) := by decide +kernel
theorem dX12_hasRoom_12 : decode cX12_hasRoom 12 = .ok (.iaload, 1) := by decide +kernel
theorem dX12_hasRoom_13 : decode cX12_hasRoom 13 = .ok (.imul, 1) := by decide +kernel
theorem dX12_hasRoom_14 : decode cX12_hasRoom 14 = .ok (.bipush 8, 2) := by decide +kernel
theorem dX12_hasRoom_16 : decode cX12_hasRoom 16 = .ok (.iadd, 1) := by decide +kernel
theorem dX12_hasRoom_17 : decode cX12_hasRoom 17 = .ok (.aload_n 0, 1) := by decide +kernel
theorem dX12_hasRoom_18 : decode cX12_hasRoom 18 = .ok (.getfield 107, 3) := by decide +kernel
theorem dX12_hasRoom_21 : decode cX12_hasRoom 21 = .ok (.iload_n 2, 1) := by decide +kernel
theorem dX12_hasRoom_22 : decode cX12_hasRoom 22 = .ok (.iaload, 1) := by decide +kernel
theorem dX12_hasRoom_23 : decode cX12_hasRoom 23 = .ok (.if_icmp .gt 7, 3) := by decide +kernel
theorem dX12_hasRoom_26 : decode cX12_hasRoom 26 = .ok (.iconst 1, 1) := by decide +kernel
theorem dX12_hasRoom_27 : decode cX12_hasRoom 27 = .ok (.goto 4, 3) := by decide +kernel
theorem dX12_hasRoom_30 : decode cX12_hasRoom 30 = .ok (.iconst 0, 1) := by decide +kernel
theorem dX12_hasRoom_31 : decode cX12_hasRoom 31 = .ok (.ireturn, 1) := by decide +kernel
theorem dX12_loads_0 : decode cX12_loads 0 = .ok (.iconst (-1), 1) := by decide +kernel
theorem dX12_loads_1 : decode cX12_loads 1 = .ok (.istore_n 2, 1) := by decide +kernel
theorem dX12_loads_2 : decode cX12_loads 2 = .ok (.iconst (-1), 1) := by decide +kernel
theorem dX12_loads_3 : decode cX12_loads 3 = .ok (.istore_n 3, 1) := by decide +kernel
theorem dX12_loads_4 : decode cX12_loads 4 = .ok (.iconst 0, 1) := by decide +kernel
theorem dX12_loads_5 : decode cX12_loads 5 = .ok (.istore 4, 2) := by decide +kernel
theorem dX12_loads_7 : decode cX12_loads 7 = .ok (.iload 4, 2) := by decide +kernel
theorem dX12_loads_9 : decode cX12_loads 9 = .ok (.aload_n 0, 1) := by decide +kernel
theorem dX12_loads_10 : decode cX12_loads 10 = .ok (.getfield 221, 3) := by decide +kernel
theorem dX12_loads_13 : decode cX12_loads 13 = .ok (.if_icmp .ge 90, 3) := by decide +kernel
theorem dX12_loads_16 : decode cX12_loads 16 = .ok (.aload_n 0, 1) := by decide +kernel
theorem dX12_loads_17 : decode cX12_loads 17 = .ok (.getfield 68, 3) := by decide +kernel
theorem dX12_loads_20 : decode cX12_loads 20 = .ok (.bipush 8, 2) := by decide +kernel
theorem dX12_loads_22 : decode cX12_loads 22 = .ok (.iload_n 1, 1) := by decide +kernel
theorem dX12_loads_23 : decode cX12_loads 23 = .ok (.imul, 1) := by decide +kernel
theorem dX12_loads_24 : decode cX12_loads 24 = .ok (.iload 4, 2) := by decide +kernel
theorem dX12_loads_26 : decode cX12_loads 26 = .ok (.iadd, 1) := by decide +kernel
theorem dX12_loads_27 : decode cX12_loads 27 = .ok (.iaload, 1) := by decide +kernel
theorem dX12_loads_28 : decode cX12_loads 28 = .ok (.ifCond .ne 69, 3) := by decide +kernel
theorem dX12_loads_31 : decode cX12_loads 31 = .ok (.aload_n 0, 1) := by decide +kernel
theorem dX12_loads_32 : decode cX12_loads 32 = .ok (.iload_n 1, 1) := by decide +kernel
theorem dX12_loads_33 : decode cX12_loads 33 = .ok (.iload 4, 2) := by decide +kernel
theorem dX12_loads_35 : decode cX12_loads 35 = .ok (.invokevirtual 408, 3) := by decide +kernel
theorem dX12_loads_38 : decode cX12_loads 38 = .ok (.ifCond .eq 59, 3) := by decide +kernel
theorem dX12_loads_41 : decode cX12_loads 41 = .ok (.iload_n 2, 1) := by decide +kernel
theorem dX12_loads_42 : decode cX12_loads 42 = .ok (.ifCond .lt 32, 3) := by decide +kernel
theorem dX12_loads_45 : decode cX12_loads 45 = .ok (.aload_n 0, 1) := by decide +kernel
theorem dX12_loads_46 : decode cX12_loads 46 = .ok (.getfield 77, 3) := by decide +kernel
theorem dX12_loads_49 : decode cX12_loads 49 = .ok (.bipush 8, 2) := by decide +kernel
theorem dX12_loads_51 : decode cX12_loads 51 = .ok (.iload_n 1, 1) := by decide +kernel
theorem dX12_loads_52 : decode cX12_loads 52 = .ok (.imul, 1) := by decide +kernel
theorem dX12_loads_53 : decode cX12_loads 53 = .ok (.iload 4, 2) := by decide +kernel
theorem dX12_loads_55 : decode cX12_loads 55 = .ok (.iadd, 1) := by decide +kernel
theorem dX12_loads_56 : decode cX12_loads 56 = .ok (.iaload, 1) := by decide +kernel
theorem dX12_loads_57 : decode cX12_loads 57 = .ok (.aload_n 0, 1) := by decide +kernel
theorem dX12_loads_58 : decode cX12_loads 58 = .ok (.getfield 77, 3) := by decide +kernel
theorem dX12_loads_61 : decode cX12_loads 61 = .ok (.bipush 8, 2) := by decide +kernel
theorem dX12_loads_63 : decode cX12_loads 63 = .ok (.iload_n 1, 1) := by decide +kernel
theorem dX12_loads_64 : decode cX12_loads 64 = .ok (.imul, 1) := by decide +kernel
theorem dX12_loads_65 : decode cX12_loads 65 = .ok (.iload_n 2, 1) := by decide +kernel
theorem dX12_loads_66 : decode cX12_loads 66 = .ok (.iadd, 1) := by decide +kernel
theorem dX12_loads_67 : decode cX12_loads 67 = .ok (.iaload, 1) := by decide +kernel
theorem dX12_loads_68 : decode cX12_loads 68 = .ok (.if_icmp .lt 6, 3) := by decide +kernel
theorem dX12_loads_71 : decode cX12_loads 71 = .ok (.goto 26, 3) := by decide +kernel
theorem dX12_loads_74 : decode cX12_loads 74 = .ok (.aload_n 0, 1) := by decide +kernel
theorem dX12_loads_75 : decode cX12_loads 75 = .ok (.iload_n 1, 1) := by decide +kernel
theorem dX12_loads_76 : decode cX12_loads 76 = .ok (.iload 4, 2) := by decide +kernel
theorem dX12_loads_78 : decode cX12_loads 78 = .ok (.invokevirtual 411, 3) := by decide +kernel
theorem dX12_loads_81 : decode cX12_loads 81 = .ok (.istore 5, 2) := by decide +kernel
theorem dX12_loads_83 : decode cX12_loads 83 = .ok (.iload 5, 2) := by decide +kernel
theorem dX12_loads_85 : decode cX12_loads 85 = .ok (.ifCond .ge 6, 3) := by decide +kernel
theorem dX12_loads_88 : decode cX12_loads 88 = .ok (.goto 9, 3) := by decide +kernel
theorem dX12_loads_91 : decode cX12_loads 91 = .ok (.iload 4, 2) := by decide +kernel
theorem dX12_loads_93 : decode cX12_loads 93 = .ok (.istore_n 2, 1) := by decide +kernel
theorem dX12_loads_94 : decode cX12_loads 94 = .ok (.iload 5, 2) := by decide +kernel
theorem dX12_loads_96 : decode cX12_loads 96 = .ok (.istore_n 3, 1) := by decide +kernel
theorem dX12_loads_97 : decode cX12_loads 97 = .ok (.iinc 4 1, 3) := by decide +kernel
theorem dX12_loads_100 : decode cX12_loads 100 = .ok (.goto (-93), 3) := by decide +kernel
theorem dX12_loads_103 : decode cX12_loads 103 = .ok (.iload_n 2, 1) := by decide +kernel
theorem dX12_loads_104 : decode cX12_loads 104 = .ok (.ifCond .ge 5, 3) := by decide +kernel
theorem dX12_loads_107 : decode cX12_loads 107 = .ok (.iconst 0, 1) := by decide +kernel
theorem dX12_loads_108 : decode cX12_loads 108 = .ok (.ireturn, 1) := by decide +kernel
theorem dX12_loads_109 : decode cX12_loads 109 = .ok (.aload_n 0, 1) := by decide +kernel
theorem dX12_loads_110 : decode cX12_loads 110 = .ok (.getfield 80, 3) := by decide +kernel
theorem dX12_loads_113 : decode cX12_loads 113 = .ok (.bipush 96, 2) := by decide +kernel
theorem dX12_loads_115 : decode cX12_loads 115 = .ok (.iload_n 1, 1) := by decide +kernel
theorem dX12_loads_116 : decode cX12_loads 116 = .ok (.imul, 1) := by decide +kernel
theorem dX12_loads_117 : decode cX12_loads 117 = .ok (.bipush 12, 2) := by decide +kernel
theorem dX12_loads_119 : decode cX12_loads 119 = .ok (.iload_n 2, 1) := by decide +kernel
theorem dX12_loads_120 : decode cX12_loads 120 = .ok (.imul, 1) := by decide +kernel
theorem dX12_loads_121 : decode cX12_loads 121 = .ok (.iadd, 1) := by decide +kernel
theorem dX12_loads_122 : decode cX12_loads 122 = .ok (.aload_n 0, 1) := by decide +kernel
theorem dX12_loads_123 : decode cX12_loads 123 = .ok (.getfield 71, 3) := by decide +kernel
theorem dX12_loads_126 : decode cX12_loads 126 = .ok (.bipush 8, 2) := by decide +kernel
theorem dX12_loads_128 : decode cX12_loads 128 = .ok (.iload_n 1, 1) := by decide +kernel
theorem dX12_loads_129 : decode cX12_loads 129 = .ok (.imul, 1) := by decide +kernel
theorem dX12_loads_130 : decode cX12_loads 130 = .ok (.iload_n 2, 1) := by decide +kernel
theorem dX12_loads_131 : decode cX12_loads 131 = .ok (.iadd, 1) := by decide +kernel
theorem dX12_loads_132 : decode cX12_loads 132 = .ok (.iaload, 1) := by decide +kernel
theorem dX12_loads_133 : decode cX12_loads 133 = .ok (.iadd, 1) := by decide +kernel
theorem dX12_loads_134 : decode cX12_loads 134 = .ok (.iload_n 3, 1) := by decide +kernel
theorem dX12_loads_135 : decode cX12_loads 135 = .ok (.iastore, 1) := by decide +kernel
theorem dX12_loads_136 : decode cX12_loads 136 = .ok (.aload_n 0, 1) := by decide +kernel
theorem dX12_loads_137 : decode cX12_loads 137 = .ok (.getfield 71, 3) := by decide +kernel
theorem dX12_loads_140 : decode cX12_loads 140 = .ok (.bipush 8, 2) := by decide +kernel
theorem dX12_loads_142 : decode cX12_loads 142 = .ok (.iload_n 1, 1) := by decide +kernel
theorem dX12_loads_143 : decode cX12_loads 143 = .ok (.imul, 1) := by decide +kernel
theorem dX12_loads_144 : decode cX12_loads 144 = .ok (.iload_n 2, 1) := by decide +kernel
theorem dX12_loads_145 : decode cX12_loads 145 = .ok (.iadd, 1) := by decide +kernel
theorem dX12_loads_146 : decode cX12_loads 146 = .ok (.dup2, 1) := by decide +kernel
theorem dX12_loads_147 : decode cX12_loads 147 = .ok (.iaload, 1) := by decide +kernel
theorem dX12_loads_148 : decode cX12_loads 148 = .ok (.iconst 1, 1) := by decide +kernel
theorem dX12_loads_149 : decode cX12_loads 149 = .ok (.iadd, 1) := by decide +kernel
theorem dX12_loads_150 : decode cX12_loads 150 = .ok (.iastore, 1) := by decide +kernel
theorem dX12_loads_151 : decode cX12_loads 151 = .ok (.aload_n 0, 1) := by decide +kernel
theorem dX12_loads_152 : decode cX12_loads 152 = .ok (.getfield 52, 3) := by decide +kernel
theorem dX12_loads_155 : decode cX12_loads 155 = .ok (.bipush 10, 2) := by decide +kernel
theorem dX12_loads_157 : decode cX12_loads 157 = .ok (.iload_n 1, 1) := by decide +kernel
theorem dX12_loads_158 : decode cX12_loads 158 = .ok (.imul, 1) := by decide +kernel
theorem dX12_loads_159 : decode cX12_loads 159 = .ok (.iload_n 3, 1) := by decide +kernel
theorem dX12_loads_160 : decode cX12_loads 160 = .ok (.iadd, 1) := by decide +kernel
theorem dX12_loads_161 : decode cX12_loads 161 = .ok (.dup2, 1) := by decide +kernel
theorem dX12_loads_162 : decode cX12_loads 162 = .ok (.iaload, 1) := by decide +kernel
theorem dX12_loads_163 : decode cX12_loads 163 = .ok (.bipush 8, 2) := by decide +kernel
theorem dX12_loads_165 : decode cX12_loads 165 = .ok (.isub, 1) := by decide +kernel
theorem dX12_loads_166 : decode cX12_loads 166 = .ok (.iastore, 1) := by decide +kernel
theorem dX12_loads_167 : decode cX12_loads 167 = .ok (.aload_n 0, 1) := by decide +kernel
theorem dX12_loads_168 : decode cX12_loads 168 = .ok (.getfield 55, 3) := by decide +kernel
theorem dX12_loads_171 : decode cX12_loads 171 = .ok (.bipush 10, 2) := by decide +kernel
theorem dX12_loads_173 : decode cX12_loads 173 = .ok (.iload_n 1, 1) := by decide +kernel
theorem dX12_loads_174 : decode cX12_loads 174 = .ok (.imul, 1) := by decide +kernel
theorem dX12_loads_175 : decode cX12_loads 175 = .ok (.iload_n 3, 1) := by decide +kernel
theorem dX12_loads_176 : decode cX12_loads 176 = .ok (.iadd, 1) := by decide +kernel
theorem dX12_loads_177 : decode cX12_loads 177 = .ok (.dup2, 1) := by decide +kernel
theorem dX12_loads_178 : decode cX12_loads 178 = .ok (.iaload, 1) := by decide +kernel
theorem dX12_loads_179 : decode cX12_loads 179 = .ok (.bipush 8, 2) := by decide +kernel
theorem dX12_loads_181 : decode cX12_loads 181 = .ok (.iadd, 1) := by decide +kernel
theorem dX12_loads_182 : decode cX12_loads 182 = .ok (.iastore, 1) := by decide +kernel
theorem dX12_loads_183 : decode cX12_loads 183 = .ok (.aload_n 0, 1) := by decide +kernel
theorem dX12_loads_184 : decode cX12_loads 184 = .ok (.getfield 16, 3) := by decide +kernel
theorem dX12_loads_187 : decode cX12_loads 187 = .ok (.iload_n 1, 1) := by decide +kernel
theorem dX12_loads_188 : decode cX12_loads 188 = .ok (.iload_n 3, 1) := by decide +kernel
theorem dX12_loads_189 : decode cX12_loads 189 = .ok (.iconst 1, 1) := by decide +kernel
theorem dX12_loads_190 : decode cX12_loads 190 = .ok (.iadd, 1) := by decide +kernel
theorem dX12_loads_191 : decode cX12_loads 191 = .ok (.aload_n 0, 1) := by decide +kernel
theorem dX12_loads_192 : decode cX12_loads 192 = .ok (.getfield 210, 3) := by decide +kernel
theorem dX12_loads_195 : decode cX12_loads 195 = .ok (.if_icmp .ne 7, 3) := by decide +kernel
theorem dX12_loads_198 : decode cX12_loads 198 = .ok (.iconst 0, 1) := by decide +kernel
theorem dX12_loads_199 : decode cX12_loads 199 = .ok (.goto 6, 3) := by decide +kernel
theorem dX12_loads_202 : decode cX12_loads 202 = .ok (.iload_n 3, 1) := by decide +kernel
theorem dX12_loads_203 : decode cX12_loads 203 = .ok (.iconst 1, 1) := by decide +kernel
theorem dX12_loads_204 : decode cX12_loads 204 = .ok (.iadd, 1) := by decide +kernel
theorem dX12_loads_205 : decode cX12_loads 205 = .ok (.iastore, 1) := by decide +kernel
theorem dX12_loads_206 : decode cX12_loads 206 = .ok (.iconst 1, 1) := by decide +kernel
theorem dX12_loads_207 : decode cX12_loads 207 = .ok (.ireturn, 1) := by decide +kernel
theorem dX12_sells_0 : decode cX12_sells 0 = .ok (.aload_n 0, 1) := by decide +kernel
theorem dX12_sells_1 : decode cX12_sells 1 = .ok (.getfield 19, 3) := by decide +kernel
theorem dX12_sells_4 : decode cX12_sells 4 = .ok (.iload_n 1, 1) := by decide +kernel
theorem dX12_sells_5 : decode cX12_sells 5 = .ok (.iaload, 1) := by decide +kernel
theorem dX12_sells_6 : decode cX12_sells 6 = .ok (.istore_n 3, 1) := by decide +kernel
theorem dX12_sells_7 : decode cX12_sells 7 = .ok (.iconst 0, 1) := by decide +kernel
theorem dX12_sells_8 : decode cX12_sells 8 = .ok (.istore 4, 2) := by decide +kernel
theorem dX12_sells_10 : decode cX12_sells 10 = .ok (.iload 4, 2) := by decide +kernel
theorem dX12_sells_12 : decode cX12_sells 12 = .ok (.aload_n 0, 1) := by decide +kernel
theorem dX12_sells_13 : decode cX12_sells 13 = .ok (.getfield 71, 3) := by decide +kernel
theorem dX12_sells_16 : decode cX12_sells 16 = .ok (.bipush 8, 2) := by decide +kernel
theorem dX12_sells_18 : decode cX12_sells 18 = .ok (.iload_n 1, 1) := by decide +kernel
theorem dX12_sells_19 : decode cX12_sells 19 = .ok (.imul, 1) := by decide +kernel
theorem dX12_sells_20 : decode cX12_sells 20 = .ok (.iload_n 2, 1) := by decide +kernel
theorem dX12_sells_21 : decode cX12_sells 21 = .ok (.iadd, 1) := by decide +kernel
theorem dX12_sells_22 : decode cX12_sells 22 = .ok (.iaload, 1) := by decide +kernel
theorem dX12_sells_23 : decode cX12_sells 23 = .ok (.if_icmp .ge 101, 3) := by decide +kernel
theorem dX12_sells_26 : decode cX12_sells 26 = .ok (.aload_n 0, 1) := by decide +kernel
theorem dX12_sells_27 : decode cX12_sells 27 = .ok (.getfield 80, 3) := by decide +kernel
theorem dX12_sells_30 : decode cX12_sells 30 = .ok (.bipush 96, 2) := by decide +kernel
theorem dX12_sells_32 : decode cX12_sells 32 = .ok (.iload_n 1, 1) := by decide +kernel
theorem dX12_sells_33 : decode cX12_sells 33 = .ok (.imul, 1) := by decide +kernel
theorem dX12_sells_34 : decode cX12_sells 34 = .ok (.bipush 12, 2) := by decide +kernel
theorem dX12_sells_36 : decode cX12_sells 36 = .ok (.iload_n 2, 1) := by decide +kernel
theorem dX12_sells_37 : decode cX12_sells 37 = .ok (.imul, 1) := by decide +kernel
theorem dX12_sells_38 : decode cX12_sells 38 = .ok (.iadd, 1) := by decide +kernel
theorem dX12_sells_39 : decode cX12_sells 39 = .ok (.iload 4, 2) := by decide +kernel
theorem dX12_sells_41 : decode cX12_sells 41 = .ok (.iadd, 1) := by decide +kernel
theorem dX12_sells_42 : decode cX12_sells 42 = .ok (.iaload, 1) := by decide +kernel
theorem dX12_sells_43 : decode cX12_sells 43 = .ok (.istore 5, 2) := by decide +kernel
theorem dX12_sells_45 : decode cX12_sells 45 = .ok (.aload_n 0, 1) := by decide +kernel
theorem dX12_sells_46 : decode cX12_sells 46 = .ok (.iload_n 1, 1) := by decide +kernel
theorem dX12_sells_47 : decode cX12_sells 47 = .ok (.aload_n 0, 1) := by decide +kernel
theorem dX12_sells_48 : decode cX12_sells 48 = .ok (.getfield 92, 3) := by decide +kernel
theorem dX12_sells_51 : decode cX12_sells 51 = .ok (.iload 5, 2) := by decide +kernel
theorem dX12_sells_53 : decode cX12_sells 53 = .ok (.iaload, 1) := by decide +kernel
theorem dX12_sells_54 : decode cX12_sells 54 = .ok (.invokevirtual 234, 3) := by decide +kernel
theorem dX12_sells_57 : decode cX12_sells 57 = .ok (.istore 6, 2) := by decide +kernel
theorem dX12_sells_59 : decode cX12_sells 59 = .ok (.aload_n 0, 1) := by decide +kernel
theorem dX12_sells_60 : decode cX12_sells 60 = .ok (.getfield 61, 3) := by decide +kernel
theorem dX12_sells_63 : decode cX12_sells 63 = .ok (.bipush 10, 2) := by decide +kernel
theorem dX12_sells_65 : decode cX12_sells 65 = .ok (.iload_n 1, 1) := by decide +kernel
theorem dX12_sells_66 : decode cX12_sells 66 = .ok (.imul, 1) := by decide +kernel
theorem dX12_sells_67 : decode cX12_sells 67 = .ok (.iload 5, 2) := by decide +kernel
theorem dX12_sells_69 : decode cX12_sells 69 = .ok (.iadd, 1) := by decide +kernel
theorem dX12_sells_70 : decode cX12_sells 70 = .ok (.dup2, 1) := by decide +kernel
theorem dX12_sells_71 : decode cX12_sells 71 = .ok (.iaload, 1) := by decide +kernel
theorem dX12_sells_72 : decode cX12_sells 72 = .ok (.bipush 8, 2) := by decide +kernel
theorem dX12_sells_74 : decode cX12_sells 74 = .ok (.iload 6, 2) := by decide +kernel
theorem dX12_sells_76 : decode cX12_sells 76 = .ok (.iload 6, 2) := by decide +kernel
theorem dX12_sells_78 : decode cX12_sells 78 = .ok (.aload_n 0, 1) := by decide +kernel
theorem dX12_sells_79 : decode cX12_sells 79 = .ok (.getfield 104, 3) := by decide +kernel
theorem dX12_sells_82 : decode cX12_sells 82 = .ok (.iload 5, 2) := by decide +kernel
theorem dX12_sells_84 : decode cX12_sells 84 = .ok (.iaload, 1) := by decide +kernel
theorem dX12_sells_85 : decode cX12_sells 85 = .ok (.imul, 1) := by decide +kernel
theorem dX12_sells_86 : decode cX12_sells 86 = .ok (.bipush 100, 2) := by decide +kernel
theorem dX12_sells_88 : decode cX12_sells 88 = .ok (.idiv, 1) := by decide +kernel
theorem dX12_sells_89 : decode cX12_sells 89 = .ok (.isub, 1) := by decide +kernel
theorem dX12_sells_90 : decode cX12_sells 90 = .ok (.aload_n 0, 1) := by decide +kernel
theorem dX12_sells_91 : decode cX12_sells 91 = .ok (.getfield 43, 3) := by decide +kernel
theorem dX12_sells_94 : decode cX12_sells 94 = .ok (.iload_n 1, 1) := by decide +kernel
theorem dX12_sells_95 : decode cX12_sells 95 = .ok (.iaload, 1) := by decide +kernel
theorem dX12_sells_96 : decode cX12_sells 96 = .ok (.isub, 1) := by decide +kernel
theorem dX12_sells_97 : decode cX12_sells 97 = .ok (.aload_n 0, 1) := by decide +kernel
theorem dX12_sells_98 : decode cX12_sells 98 = .ok (.getfield 101, 3) := by decide +kernel
theorem dX12_sells_101 : decode cX12_sells 101 = .ok (.iload 5, 2) := by decide +kernel
theorem dX12_sells_103 : decode cX12_sells 103 = .ok (.iaload, 1) := by decide +kernel
theorem dX12_sells_104 : decode cX12_sells 104 = .ok (.isub, 1) := by decide +kernel
theorem dX12_sells_105 : decode cX12_sells 105 = .ok (.imul, 1) := by decide +kernel
theorem dX12_sells_106 : decode cX12_sells 106 = .ok (.iadd, 1) := by decide +kernel
theorem dX12_sells_107 : decode cX12_sells 107 = .ok (.iastore, 1) := by decide +kernel
theorem dX12_sells_108 : decode cX12_sells 108 = .ok (.aload_n 0, 1) := by decide +kernel
theorem dX12_sells_109 : decode cX12_sells 109 = .ok (.getfield 46, 3) := by decide +kernel
theorem dX12_sells_112 : decode cX12_sells 112 = .ok (.iload_n 1, 1) := by decide +kernel
theorem dX12_sells_113 : decode cX12_sells 113 = .ok (.dup2, 1) := by decide +kernel
theorem dX12_sells_114 : decode cX12_sells 114 = .ok (.iaload, 1) := by decide +kernel
theorem dX12_sells_115 : decode cX12_sells 115 = .ok (.iconst 1, 1) := by decide +kernel
theorem dX12_sells_116 : decode cX12_sells 116 = .ok (.iadd, 1) := by decide +kernel
theorem dX12_sells_117 : decode cX12_sells 117 = .ok (.iastore, 1) := by decide +kernel
theorem dX12_sells_118 : decode cX12_sells 118 = .ok (.iinc 4 1, 3) := by decide +kernel
theorem dX12_sells_121 : decode cX12_sells 121 = .ok (.goto (-111), 3) := by decide +kernel
theorem dX12_sells_124 : decode cX12_sells 124 = .ok (.aload_n 0, 1) := by decide +kernel
theorem dX12_sells_125 : decode cX12_sells 125 = .ok (.getfield 19, 3) := by decide +kernel
theorem dX12_sells_128 : decode cX12_sells 128 = .ok (.iload_n 1, 1) := by decide +kernel
theorem dX12_sells_129 : decode cX12_sells 129 = .ok (.ldc 227, 2) := by decide +kernel
theorem dX12_sells_131 : decode cX12_sells 131 = .ok (.iload_n 3, 1) := by decide +kernel
theorem dX12_sells_132 : decode cX12_sells 132 = .ok (.bipush 8, 2) := by decide +kernel
theorem dX12_sells_134 : decode cX12_sells 134 = .ok (.aload_n 0, 1) := by decide +kernel
theorem dX12_sells_135 : decode cX12_sells 135 = .ok (.getfield 71, 3) := by decide +kernel
theorem dX12_sells_138 : decode cX12_sells 138 = .ok (.bipush 8, 2) := by decide +kernel
theorem dX12_sells_140 : decode cX12_sells 140 = .ok (.iload_n 1, 1) := by decide +kernel
theorem dX12_sells_141 : decode cX12_sells 141 = .ok (.imul, 1) := by decide +kernel
theorem dX12_sells_142 : decode cX12_sells 142 = .ok (.iload_n 2, 1) := by decide +kernel
theorem dX12_sells_143 : decode cX12_sells 143 = .ok (.iadd, 1) := by decide +kernel
theorem dX12_sells_144 : decode cX12_sells 144 = .ok (.iaload, 1) := by decide +kernel
theorem dX12_sells_145 : decode cX12_sells 145 = .ok (.imul, 1) := by decide +kernel
theorem dX12_sells_146 : decode cX12_sells 146 = .ok (.iadd, 1) := by decide +kernel
theorem dX12_sells_147 : decode cX12_sells 147 = .ok (.invokestatic 392, 3) := by decide +kernel
theorem dX12_sells_150 : decode cX12_sells 150 = .ok (.iastore, 1) := by decide +kernel
theorem dX12_sells_151 : decode cX12_sells 151 = .ok (.aload_n 0, 1) := by decide +kernel
theorem dX12_sells_152 : decode cX12_sells 152 = .ok (.getfield 71, 3) := by decide +kernel
theorem dX12_sells_155 : decode cX12_sells 155 = .ok (.bipush 8, 2) := by decide +kernel
theorem dX12_sells_157 : decode cX12_sells 157 = .ok (.iload_n 1, 1) := by decide +kernel
theorem dX12_sells_158 : decode cX12_sells 158 = .ok (.imul, 1) := by decide +kernel
theorem dX12_sells_159 : decode cX12_sells 159 = .ok (.iload_n 2, 1) := by decide +kernel
theorem dX12_sells_160 : decode cX12_sells 160 = .ok (.iadd, 1) := by decide +kernel
theorem dX12_sells_161 : decode cX12_sells 161 = .ok (.iconst 0, 1) := by decide +kernel
theorem dX12_sells_162 : decode cX12_sells 162 = .ok (.iastore, 1) := by decide +kernel
theorem dX12_sells_163 : decode cX12_sells 163 = .ok (.return_, 1) := by decide +kernel
theorem dX12_sails_0 : decode cX12_sails 0 = .ok (.bipush 8, 2) := by decide +kernel
theorem dX12_sails_2 : decode cX12_sails 2 = .ok (.iload_n 1, 1) := by decide +kernel
theorem dX12_sails_3 : decode cX12_sails 3 = .ok (.imul, 1) := by decide +kernel
theorem dX12_sails_4 : decode cX12_sails 4 = .ok (.iload_n 2, 1) := by decide +kernel
theorem dX12_sails_5 : decode cX12_sails 5 = .ok (.iadd, 1) := by decide +kernel
theorem dX12_sails_6 : decode cX12_sails 6 = .ok (.istore 5, 2) := by decide +kernel
theorem dX12_sails_8 : decode cX12_sails 8 = .ok (.aload_n 0, 1) := by decide +kernel
theorem dX12_sails_9 : decode cX12_sails 9 = .ok (.getfield 68, 3) := by decide +kernel
theorem dX12_sails_12 : decode cX12_sails 12 = .ok (.iload 5, 2) := by decide +kernel
theorem dX12_sails_14 : decode cX12_sails 14 = .ok (.iaload, 1) := by decide +kernel
theorem dX12_sails_15 : decode cX12_sails 15 = .ok (.ifCond .ne 42, 3) := by decide +kernel
theorem dX12_sails_18 : decode cX12_sails 18 = .ok (.iload 4, 2) := by decide +kernel
theorem dX12_sails_20 : decode cX12_sails 20 = .ok (.iconst 1, 1) := by decide +kernel
theorem dX12_sails_21 : decode cX12_sails 21 = .ok (.if_icmp .ne 36, 3) := by decide +kernel
theorem dX12_sails_24 : decode cX12_sails 24 = .ok (.aload_n 0, 1) := by decide +kernel
theorem dX12_sails_25 : decode cX12_sails 25 = .ok (.iload_n 1, 1) := by decide +kernel
theorem dX12_sails_26 : decode cX12_sails 26 = .ok (.iload_n 2, 1) := by decide +kernel
theorem dX12_sails_27 : decode cX12_sails 27 = .ok (.invokevirtual 408, 3) := by decide +kernel
theorem dX12_sails_30 : decode cX12_sails 30 = .ok (.ifCond .eq 55, 3) := by decide +kernel
theorem dX12_sails_33 : decode cX12_sails 33 = .ok (.aload_n 0, 1) := by decide +kernel
theorem dX12_sails_34 : decode cX12_sails 34 = .ok (.getfield 71, 3) := by decide +kernel
theorem dX12_sails_37 : decode cX12_sails 37 = .ok (.iload 5, 2) := by decide +kernel
theorem dX12_sails_39 : decode cX12_sails 39 = .ok (.iaload, 1) := by decide +kernel
theorem dX12_sails_40 : decode cX12_sails 40 = .ok (.ifCond .le 17, 3) := by decide +kernel
theorem dX12_sails_43 : decode cX12_sails 43 = .ok (.iload_n 3, 1) := by decide +kernel
theorem dX12_sails_44 : decode cX12_sails 44 = .ok (.aload_n 0, 1) := by decide +kernel
theorem dX12_sails_45 : decode cX12_sails 45 = .ok (.getfield 77, 3) := by decide +kernel
theorem dX12_sails_48 : decode cX12_sails 48 = .ok (.iload 5, 2) := by decide +kernel
theorem dX12_sails_50 : decode cX12_sails 50 = .ok (.iaload, 1) := by decide +kernel
theorem dX12_sails_51 : decode cX12_sails 51 = .ok (.isub, 1) := by decide +kernel
theorem dX12_sails_52 : decode cX12_sails 52 = .ok (.bipush 10, 2) := by decide +kernel
theorem dX12_sails_54 : decode cX12_sails 54 = .ok (.if_icmp .ge 31, 3) := by decide +kernel
theorem dX12_sails_57 : decode cX12_sails 57 = .ok (.aload_n 0, 1) := by decide +kernel
theorem dX12_sails_58 : decode cX12_sails 58 = .ok (.getfield 68, 3) := by decide +kernel
theorem dX12_sails_61 : decode cX12_sails 61 = .ok (.iload 5, 2) := by decide +kernel
theorem dX12_sails_63 : decode cX12_sails 63 = .ok (.iaload, 1) := by decide +kernel
theorem dX12_sails_64 : decode cX12_sails 64 = .ok (.iconst 2, 1) := by decide +kernel
theorem dX12_sails_65 : decode cX12_sails 65 = .ok (.if_icmp .ne 40, 3) := by decide +kernel
theorem dX12_sails_68 : decode cX12_sails 68 = .ok (.iload 4, 2) := by decide +kernel
theorem dX12_sails_70 : decode cX12_sails 70 = .ok (.iconst 2, 1) := by decide +kernel
theorem dX12_sails_71 : decode cX12_sails 71 = .ok (.if_icmp .ne 34, 3) := by decide +kernel
theorem dX12_sails_74 : decode cX12_sails 74 = .ok (.aload_n 0, 1) := by decide +kernel
theorem dX12_sails_75 : decode cX12_sails 75 = .ok (.getfield 77, 3) := by decide +kernel
theorem dX12_sails_78 : decode cX12_sails 78 = .ok (.iload 5, 2) := by decide +kernel
theorem dX12_sails_80 : decode cX12_sails 80 = .ok (.iaload, 1) := by decide +kernel
theorem dX12_sails_81 : decode cX12_sails 81 = .ok (.iload_n 3, 1) := by decide +kernel
theorem dX12_sails_82 : decode cX12_sails 82 = .ok (.if_icmp .eq 23, 3) := by decide +kernel
theorem dX12_sails_85 : decode cX12_sails 85 = .ok (.aload_n 0, 1) := by decide +kernel
theorem dX12_sails_86 : decode cX12_sails 86 = .ok (.getfield 68, 3) := by decide +kernel
theorem dX12_sails_89 : decode cX12_sails 89 = .ok (.iload 5, 2) := by decide +kernel
theorem dX12_sails_91 : decode cX12_sails 91 = .ok (.dup2, 1) := by decide +kernel
theorem dX12_sails_92 : decode cX12_sails 92 = .ok (.iaload, 1) := by decide +kernel
theorem dX12_sails_93 : decode cX12_sails 93 = .ok (.iconst 1, 1) := by decide +kernel
theorem dX12_sails_94 : decode cX12_sails 94 = .ok (.iadd, 1) := by decide +kernel
theorem dX12_sails_95 : decode cX12_sails 95 = .ok (.iastore, 1) := by decide +kernel
theorem dX12_sails_96 : decode cX12_sails 96 = .ok (.aload_n 0, 1) := by decide +kernel
theorem dX12_sails_97 : decode cX12_sails 97 = .ok (.getfield 74, 3) := by decide +kernel
theorem dX12_sails_100 : decode cX12_sails 100 = .ok (.iload 5, 2) := by decide +kernel
theorem dX12_sails_102 : decode cX12_sails 102 = .ok (.iconst 3, 1) := by decide +kernel
theorem dX12_sails_103 : decode cX12_sails 103 = .ok (.iastore, 1) := by decide +kernel
theorem dX12_sails_104 : decode cX12_sails 104 = .ok (.return_, 1) := by decide +kernel
theorem dX12_sails_105 : decode cX12_sails 105 = .ok (.aload_n 0, 1) := by decide +kernel
theorem dX12_sails_106 : decode cX12_sails 106 = .ok (.getfield 68, 3) := by decide +kernel
theorem dX12_sails_109 : decode cX12_sails 109 = .ok (.iload 5, 2) := by decide +kernel
theorem dX12_sails_111 : decode cX12_sails 111 = .ok (.iaload, 1) := by decide +kernel
theorem dX12_sails_112 : decode cX12_sails 112 = .ok (.iconst 1, 1) := by decide +kernel
theorem dX12_sails_113 : decode cX12_sails 113 = .ok (.if_icmp .ne 9, 3) := by decide +kernel
theorem dX12_sails_116 : decode cX12_sails 116 = .ok (.iload 4, 2) := by decide +kernel
theorem dX12_sails_118 : decode cX12_sails 118 = .ok (.iconst 1, 1) := by decide +kernel
theorem dX12_sails_119 : decode cX12_sails 119 = .ok (.if_icmp .eq 20, 3) := by decide +kernel
theorem dX12_sails_122 : decode cX12_sails 122 = .ok (.aload_n 0, 1) := by decide +kernel
theorem dX12_sails_123 : decode cX12_sails 123 = .ok (.getfield 68, 3) := by decide +kernel
theorem dX12_sails_126 : decode cX12_sails 126 = .ok (.iload 5, 2) := by decide +kernel
theorem dX12_sails_128 : decode cX12_sails 128 = .ok (.iaload, 1) := by decide +kernel
theorem dX12_sails_129 : decode cX12_sails 129 = .ok (.iconst 3, 1) := by decide +kernel
theorem dX12_sails_130 : decode cX12_sails 130 = .ok (.if_icmp .ne 79, 3) := by decide +kernel
theorem dX12_sails_133 : decode cX12_sails 133 = .ok (.iload 4, 2) := by decide +kernel
theorem dX12_sails_135 : decode cX12_sails 135 = .ok (.iconst 2, 1) := by decide +kernel
theorem dX12_sails_136 : decode cX12_sails 136 = .ok (.if_icmp .ne 73, 3) := by decide +kernel
theorem dX12_sails_139 : decode cX12_sails 139 = .ok (.aload_n 0, 1) := by decide +kernel
theorem dX12_sails_140 : decode cX12_sails 140 = .ok (.getfield 74, 3) := by decide +kernel
theorem dX12_sails_143 : decode cX12_sails 143 = .ok (.iload 5, 2) := by decide +kernel
theorem dX12_sails_145 : decode cX12_sails 145 = .ok (.dup2, 1) := by decide +kernel
theorem dX12_sails_146 : decode cX12_sails 146 = .ok (.iaload, 1) := by decide +kernel
theorem dX12_sails_147 : decode cX12_sails 147 = .ok (.iconst 1, 1) := by decide +kernel
theorem dX12_sails_148 : decode cX12_sails 148 = .ok (.isub, 1) := by decide +kernel
theorem dX12_sails_149 : decode cX12_sails 149 = .ok (.iastore, 1) := by decide +kernel
theorem dX12_sails_150 : decode cX12_sails 150 = .ok (.aload_n 0, 1) := by decide +kernel
theorem dX12_sails_151 : decode cX12_sails 151 = .ok (.getfield 74, 3) := by decide +kernel
theorem dX12_sails_154 : decode cX12_sails 154 = .ok (.iload 5, 2) := by decide +kernel
theorem dX12_sails_156 : decode cX12_sails 156 = .ok (.iaload, 1) := by decide +kernel
theorem dX12_sails_157 : decode cX12_sails 157 = .ok (.ifCond .le 4, 3) := by decide +kernel
theorem dX12_sails_160 : decode cX12_sails 160 = .ok (.return_, 1) := by decide +kernel
theorem dX12_sails_161 : decode cX12_sails 161 = .ok (.aload_n 0, 1) := by decide +kernel
theorem dX12_sails_162 : decode cX12_sails 162 = .ok (.getfield 68, 3) := by decide +kernel
theorem dX12_sails_165 : decode cX12_sails 165 = .ok (.iload 5, 2) := by decide +kernel
theorem dX12_sails_167 : decode cX12_sails 167 = .ok (.aload_n 0, 1) := by decide +kernel
theorem dX12_sails_168 : decode cX12_sails 168 = .ok (.getfield 68, 3) := by decide +kernel
theorem dX12_sails_171 : decode cX12_sails 171 = .ok (.iload 5, 2) := by decide +kernel
theorem dX12_sails_173 : decode cX12_sails 173 = .ok (.iaload, 1) := by decide +kernel
theorem dX12_sails_174 : decode cX12_sails 174 = .ok (.iconst 1, 1) := by decide +kernel
theorem dX12_sails_175 : decode cX12_sails 175 = .ok (.if_icmp .ne 7, 3) := by decide +kernel
theorem dX12_sails_178 : decode cX12_sails 178 = .ok (.iconst 2, 1) := by decide +kernel
theorem dX12_sails_179 : decode cX12_sails 179 = .ok (.goto 4, 3) := by decide +kernel
theorem dX12_sails_182 : decode cX12_sails 182 = .ok (.iconst 0, 1) := by decide +kernel
theorem dX12_sails_183 : decode cX12_sails 183 = .ok (.iastore, 1) := by decide +kernel
theorem dX12_sails_184 : decode cX12_sails 184 = .ok (.aload_n 0, 1) := by decide +kernel
theorem dX12_sails_185 : decode cX12_sails 185 = .ok (.getfield 77, 3) := by decide +kernel
theorem dX12_sails_188 : decode cX12_sails 188 = .ok (.iload 5, 2) := by decide +kernel
theorem dX12_sails_190 : decode cX12_sails 190 = .ok (.iload_n 3, 1) := by decide +kernel
theorem dX12_sails_191 : decode cX12_sails 191 = .ok (.iastore, 1) := by decide +kernel
theorem dX12_sails_192 : decode cX12_sails 192 = .ok (.aload_n 0, 1) := by decide +kernel
theorem dX12_sails_193 : decode cX12_sails 193 = .ok (.getfield 68, 3) := by decide +kernel
theorem dX12_sails_196 : decode cX12_sails 196 = .ok (.iload 5, 2) := by decide +kernel
theorem dX12_sails_198 : decode cX12_sails 198 = .ok (.iaload, 1) := by decide +kernel
theorem dX12_sails_199 : decode cX12_sails 199 = .ok (.iconst 2, 1) := by decide +kernel
theorem dX12_sails_200 : decode cX12_sails 200 = .ok (.if_icmp .ne 9, 3) := by decide +kernel
theorem dX12_sails_203 : decode cX12_sails 203 = .ok (.aload_n 0, 1) := by decide +kernel
theorem dX12_sails_204 : decode cX12_sails 204 = .ok (.iload_n 1, 1) := by decide +kernel
theorem dX12_sails_205 : decode cX12_sails 205 = .ok (.iload_n 2, 1) := by decide +kernel
theorem dX12_sails_206 : decode cX12_sails 206 = .ok (.invokevirtual 414, 3) := by decide +kernel
theorem dX12_sails_209 : decode cX12_sails 209 = .ok (.return_, 1) := by decide +kernel
theorem dX12_day_0 : decode cX12_day 0 = .ok (.aload_n 0, 1) := by decide +kernel
theorem dX12_day_1 : decode cX12_day 1 = .ok (.getfield 7, 3) := by decide +kernel
theorem dX12_day_4 : decode cX12_day 4 = .ok (.iload_n 1, 1) := by decide +kernel
theorem dX12_day_5 : decode cX12_day 5 = .ok (.iaload, 1) := by decide +kernel
theorem dX12_day_6 : decode cX12_day 6 = .ok (.iconst 1, 1) := by decide +kernel
theorem dX12_day_7 : decode cX12_day 7 = .ok (.iadd, 1) := by decide +kernel
theorem dX12_day_8 : decode cX12_day 8 = .ok (.istore 4, 2) := by decide +kernel
theorem dX12_day_10 : decode cX12_day 10 = .ok (.iload_n 2, 1) := by decide +kernel
theorem dX12_day_11 : decode cX12_day 11 = .ok (.ifCond .eq 7, 3) := by decide +kernel
theorem dX12_day_14 : decode cX12_day 14 = .ok (.iconst 3, 1) := by decide +kernel
theorem dX12_day_15 : decode cX12_day 15 = .ok (.goto 10, 3) := by decide +kernel
theorem dX12_day_18 : decode cX12_day 18 = .ok (.aload_n 0, 1) := by decide +kernel
theorem dX12_day_19 : decode cX12_day 19 = .ok (.getfield 113, 3) := by decide +kernel
theorem dX12_day_22 : decode cX12_day 22 = .ok (.iload 4, 2) := by decide +kernel
theorem dX12_day_24 : decode cX12_day 24 = .ok (.iaload, 1) := by decide +kernel
theorem dX12_day_25 : decode cX12_day 25 = .ok (.istore 5, 2) := by decide +kernel
theorem dX12_day_27 : decode cX12_day 27 = .ok (.aload_n 0, 1) := by decide +kernel
theorem dX12_day_28 : decode cX12_day 28 = .ok (.getfield 37, 3) := by decide +kernel
theorem dX12_day_31 : decode cX12_day 31 = .ok (.iload_n 1, 1) := by decide +kernel
theorem dX12_day_32 : decode cX12_day 32 = .ok (.iaload, 1) := by decide +kernel
theorem dX12_day_33 : decode cX12_day 33 = .ok (.iconst 1, 1) := by decide +kernel
theorem dX12_day_34 : decode cX12_day 34 = .ok (.if_icmp .ne 30, 3) := by decide +kernel
theorem dX12_day_37 : decode cX12_day 37 = .ok (.aload_n 0, 1) := by decide +kernel
theorem dX12_day_38 : decode cX12_day 38 = .ok (.getfield 37, 3) := by decide +kernel
theorem dX12_day_41 : decode cX12_day 41 = .ok (.iload_n 1, 1) := by decide +kernel
theorem dX12_day_42 : decode cX12_day 42 = .ok (.iconst 0, 1) := by decide +kernel
theorem dX12_day_43 : decode cX12_day 43 = .ok (.iastore, 1) := by decide +kernel
theorem dX12_day_44 : decode cX12_day 44 = .ok (.aload_n 0, 1) := by decide +kernel
theorem dX12_day_45 : decode cX12_day 45 = .ok (.getfield 40, 3) := by decide +kernel
theorem dX12_day_48 : decode cX12_day 48 = .ok (.iload_n 1, 1) := by decide +kernel
theorem dX12_day_49 : decode cX12_day 49 = .ok (.aload_n 0, 1) := by decide +kernel
theorem dX12_day_50 : decode cX12_day 50 = .ok (.getfield 364, 3) := by decide +kernel
theorem dX12_day_53 : decode cX12_day 53 = .ok (.iastore, 1) := by decide +kernel
theorem dX12_day_54 : decode cX12_day 54 = .ok (.aload_n 0, 1) := by decide +kernel
theorem dX12_day_55 : decode cX12_day 55 = .ok (.getfield 43, 3) := by decide +kernel
theorem dX12_day_58 : decode cX12_day 58 = .ok (.iload_n 1, 1) := by decide +kernel
theorem dX12_day_59 : decode cX12_day 59 = .ok (.aload_n 0, 1) := by decide +kernel
theorem dX12_day_60 : decode cX12_day 60 = .ok (.getfield 367, 3) := by decide +kernel
theorem dX12_day_63 : decode cX12_day 63 = .ok (.iastore, 1) := by decide +kernel
theorem dX12_day_64 : decode cX12_day 64 = .ok (.iload 4, 2) := by decide +kernel
theorem dX12_day_66 : decode cX12_day 66 = .ok (.iconst 1, 1) := by decide +kernel
theorem dX12_day_67 : decode cX12_day 67 = .ok (.isub, 1) := by decide +kernel
theorem dX12_day_68 : decode cX12_day 68 = .ok (.bipush 30, 2) := by decide +kernel
theorem dX12_day_70 : decode cX12_day 70 = .ok (.irem, 1) := by decide +kernel
theorem dX12_day_71 : decode cX12_day 71 = .ok (.ifCond .ne 9, 3) := by decide +kernel
theorem dX12_day_74 : decode cX12_day 74 = .ok (.aload_n 0, 1) := by decide +kernel
theorem dX12_day_75 : decode cX12_day 75 = .ok (.iload_n 1, 1) := by decide +kernel
theorem dX12_day_76 : decode cX12_day 76 = .ok (.iload_n 3, 1) := by decide +kernel
theorem dX12_day_77 : decode cX12_day 77 = .ok (.invokevirtual 417, 3) := by decide +kernel
theorem dX12_day_80 : decode cX12_day 80 = .ok (.iconst 0, 1) := by decide +kernel
theorem dX12_day_81 : decode cX12_day 81 = .ok (.istore 6, 2) := by decide +kernel
theorem dX12_day_83 : decode cX12_day 83 = .ok (.iload 6, 2) := by decide +kernel
theorem dX12_day_85 : decode cX12_day 85 = .ok (.aload_n 0, 1) := by decide +kernel
theorem dX12_day_86 : decode cX12_day 86 = .ok (.getfield 210, 3) := by decide +kernel
theorem dX12_day_89 : decode cX12_day 89 = .ok (.if_icmp .ge 47, 3) := by decide +kernel
theorem dX12_day_92 : decode cX12_day 92 = .ok (.aload_n 0, 1) := by decide +kernel
theorem dX12_day_93 : decode cX12_day 93 = .ok (.getfield 52, 3) := by decide +kernel
theorem dX12_day_96 : decode cX12_day 96 = .ok (.bipush 10, 2) := by decide +kernel
theorem dX12_day_98 : decode cX12_day 98 = .ok (.iload_n 1, 1) := by decide +kernel
theorem dX12_day_99 : decode cX12_day 99 = .ok (.imul, 1) := by decide +kernel
theorem dX12_day_100 : decode cX12_day 100 = .ok (.iload 6, 2) := by decide +kernel
theorem dX12_day_102 : decode cX12_day 102 = .ok (.iadd, 1) := by decide +kernel
theorem dX12_day_103 : decode cX12_day 103 = .ok (.sipush 9999, 3) := by decide +kernel
theorem dX12_day_106 : decode cX12_day 106 = .ok (.aload_n 0, 1) := by decide +kernel
theorem dX12_day_107 : decode cX12_day 107 = .ok (.getfield 52, 3) := by decide +kernel
theorem dX12_day_110 : decode cX12_day 110 = .ok (.bipush 10, 2) := by decide +kernel
theorem dX12_day_112 : decode cX12_day 112 = .ok (.iload_n 1, 1) := by decide +kernel
theorem dX12_day_113 : decode cX12_day 113 = .ok (.imul, 1) := by decide +kernel
theorem dX12_day_114 : decode cX12_day 114 = .ok (.iload 6, 2) := by decide +kernel
theorem dX12_day_116 : decode cX12_day 116 = .ok (.iadd, 1) := by decide +kernel
theorem dX12_day_117 : decode cX12_day 117 = .ok (.iaload, 1) := by decide +kernel
theorem dX12_day_118 : decode cX12_day 118 = .ok (.aload_n 0, 1) := by decide +kernel
theorem dX12_day_119 : decode cX12_day 119 = .ok (.getfield 98, 3) := by decide +kernel
theorem dX12_day_122 : decode cX12_day 122 = .ok (.iload 6, 2) := by decide +kernel
theorem dX12_day_124 : decode cX12_day 124 = .ok (.iaload, 1) := by decide +kernel
theorem dX12_day_125 : decode cX12_day 125 = .ok (.iadd, 1) := by decide +kernel
theorem dX12_day_126 : decode cX12_day 126 = .ok (.invokestatic 392, 3) := by decide +kernel
theorem dX12_day_129 : decode cX12_day 129 = .ok (.iastore, 1) := by decide +kernel
theorem dX12_day_130 : decode cX12_day 130 = .ok (.iinc 6 1, 3) := by decide +kernel
theorem dX12_day_133 : decode cX12_day 133 = .ok (.goto (-50), 3) := by decide +kernel
theorem dX12_day_136 : decode cX12_day 136 = .ok (.iconst 1, 1) := by decide +kernel
theorem dX12_day_137 : decode cX12_day 137 = .ok (.istore 6, 2) := by decide +kernel
theorem dX12_day_139 : decode cX12_day 139 = .ok (.iconst 0, 1) := by decide +kernel
theorem dX12_day_140 : decode cX12_day 140 = .ok (.istore 7, 2) := by decide +kernel
theorem dX12_day_142 : decode cX12_day 142 = .ok (.iload 7, 2) := by decide +kernel
theorem dX12_day_144 : decode cX12_day 144 = .ok (.aload_n 0, 1) := by decide +kernel
theorem dX12_day_145 : decode cX12_day 145 = .ok (.getfield 13, 3) := by decide +kernel
theorem dX12_day_148 : decode cX12_day 148 = .ok (.iload_n 1, 1) := by decide +kernel
theorem dX12_day_149 : decode cX12_day 149 = .ok (.iaload, 1) := by decide +kernel
theorem dX12_day_150 : decode cX12_day 150 = .ok (.if_icmp .ge 21, 3) := by decide +kernel
theorem dX12_day_153 : decode cX12_day 153 = .ok (.iload 6, 2) := by decide +kernel
theorem dX12_day_155 : decode cX12_day 155 = .ok (.ifCond .eq 16, 3) := by decide +kernel
theorem dX12_day_158 : decode cX12_day 158 = .ok (.aload_n 0, 1) := by decide +kernel
theorem dX12_day_159 : decode cX12_day 159 = .ok (.iload_n 1, 1) := by decide +kernel
theorem dX12_day_160 : decode cX12_day 160 = .ok (.invokevirtual 420, 3) := by decide +kernel
theorem dX12_day_163 : decode cX12_day 163 = .ok (.istore 6, 2) := by decide +kernel
theorem dX12_day_165 : decode cX12_day 165 = .ok (.iinc 7 1, 3) := by decide +kernel
theorem dX12_day_168 : decode cX12_day 168 = .ok (.goto (-26), 3) := by decide +kernel
theorem dX12_day_171 : decode cX12_day 171 = .ok (.iconst 0, 1) := by decide +kernel
theorem dX12_day_172 : decode cX12_day 172 = .ok (.istore 7, 2) := by decide +kernel
theorem dX12_day_174 : decode cX12_day 174 = .ok (.iload 7, 2) := by decide +kernel
theorem dX12_day_176 : decode cX12_day 176 = .ok (.aload_n 0, 1) := by decide +kernel
theorem dX12_day_177 : decode cX12_day 177 = .ok (.getfield 221, 3) := by decide +kernel
theorem dX12_day_180 : decode cX12_day 180 = .ok (.if_icmp .ge 20, 3) := by decide +kernel
theorem dX12_day_183 : decode cX12_day 183 = .ok (.aload_n 0, 1) := by decide +kernel
theorem dX12_day_184 : decode cX12_day 184 = .ok (.iload_n 1, 1) := by decide +kernel
theorem dX12_day_185 : decode cX12_day 185 = .ok (.iload 7, 2) := by decide +kernel
theorem dX12_day_187 : decode cX12_day 187 = .ok (.iload 4, 2) := by decide +kernel
theorem dX12_day_189 : decode cX12_day 189 = .ok (.iload 5, 2) := by decide +kernel
theorem dX12_day_191 : decode cX12_day 191 = .ok (.invokevirtual 422, 3) := by decide +kernel
theorem dX12_day_194 : decode cX12_day 194 = .ok (.iinc 7 1, 3) := by decide +kernel
theorem dX12_day_197 : decode cX12_day 197 = .ok (.goto (-23), 3) := by decide +kernel
theorem dX12_day_200 : decode cX12_day 200 = .ok (.iload 5, 2) := by decide +kernel
theorem dX12_day_202 : decode cX12_day 202 = .ok (.iconst 3, 1) := by decide +kernel
theorem dX12_day_203 : decode cX12_day 203 = .ok (.if_icmp .ne 14, 3) := by decide +kernel
theorem dX12_day_206 : decode cX12_day 206 = .ok (.iconst 2, 1) := by decide +kernel
theorem dX12_day_207 : decode cX12_day 207 = .ok (.aload_n 0, 1) := by decide +kernel
theorem dX12_day_208 : decode cX12_day 208 = .ok (.getfield 22, 3) := by decide +kernel
theorem dX12_day_211 : decode cX12_day 211 = .ok (.iload_n 1, 1) := by decide +kernel
theorem dX12_day_212 : decode cX12_day 212 = .ok (.iaload, 1) := by decide +kernel
theorem dX12_day_213 : decode cX12_day 213 = .ok (.imul, 1) := by decide +kernel
theorem dX12_day_214 : decode cX12_day 214 = .ok (.goto 9, 3) := by decide +kernel
theorem dX12_day_217 : decode cX12_day 217 = .ok (.aload_n 0, 1) := by decide +kernel
theorem dX12_day_218 : decode cX12_day 218 = .ok (.getfield 22, 3) := by decide +kernel
theorem dX12_day_221 : decode cX12_day 221 = .ok (.iload_n 1, 1) := by decide +kernel
theorem dX12_day_222 : decode cX12_day 222 = .ok (.iaload, 1) := by decide +kernel
theorem dX12_day_223 : decode cX12_day 223 = .ok (.istore 7, 2) := by decide +kernel
theorem dX12_day_225 : decode cX12_day 225 = .ok (.aload_n 0, 1) := by decide +kernel
theorem dX12_day_226 : decode cX12_day 226 = .ok (.getfield 19, 3) := by decide +kernel
theorem dX12_day_229 : decode cX12_day 229 = .ok (.iload_n 1, 1) := by decide +kernel
theorem dX12_day_230 : decode cX12_day 230 = .ok (.iaload, 1) := by decide +kernel
theorem dX12_day_231 : decode cX12_day 231 = .ok (.iload 7, 2) := by decide +kernel
theorem dX12_day_233 : decode cX12_day 233 = .ok (.if_icmp .lt 7, 3) := by decide +kernel
theorem dX12_day_236 : decode cX12_day 236 = .ok (.iconst 1, 1) := by decide +kernel
theorem dX12_day_237 : decode cX12_day 237 = .ok (.goto 4, 3) := by decide +kernel
theorem dX12_day_240 : decode cX12_day 240 = .ok (.iconst 0, 1) := by decide +kernel
theorem dX12_day_241 : decode cX12_day 241 = .ok (.istore 8, 2) := by decide +kernel
theorem dX12_day_243 : decode cX12_day 243 = .ok (.aload_n 0, 1) := by decide +kernel
theorem dX12_day_244 : decode cX12_day 244 = .ok (.getfield 19, 3) := by decide +kernel
theorem dX12_day_247 : decode cX12_day 247 = .ok (.iload_n 1, 1) := by decide +kernel
theorem dX12_day_248 : decode cX12_day 248 = .ok (.dup2, 1) := by decide +kernel
theorem dX12_day_249 : decode cX12_day 249 = .ok (.iaload, 1) := by decide +kernel
theorem dX12_day_250 : decode cX12_day 250 = .ok (.iload 8, 2) := by decide +kernel
theorem dX12_day_252 : decode cX12_day 252 = .ok (.ifCond .eq 8, 3) := by decide +kernel
theorem dX12_day_255 : decode cX12_day 255 = .ok (.iload 7, 2) := by decide +kernel
theorem dX12_day_257 : decode cX12_day 257 = .ok (.goto 9, 3) := by decide +kernel
theorem dX12_day_260 : decode cX12_day 260 = .ok (.aload_n 0, 1) := by decide +kernel
theorem dX12_day_261 : decode cX12_day 261 = .ok (.getfield 19, 3) := by decide +kernel
theorem dX12_day_264 : decode cX12_day 264 = .ok (.iload_n 1, 1) := by decide +kernel
theorem dX12_day_265 : decode cX12_day 265 = .ok (.iaload, 1) := by decide +kernel
theorem dX12_day_266 : decode cX12_day 266 = .ok (.isub, 1) := by decide +kernel
theorem dX12_day_267 : decode cX12_day 267 = .ok (.iastore, 1) := by decide +kernel
theorem dX12_day_268 : decode cX12_day 268 = .ok (.aload_n 0, 1) := by decide +kernel
theorem dX12_day_269 : decode cX12_day 269 = .ok (.getfield 89, 3) := by decide +kernel
theorem dX12_day_272 : decode cX12_day 272 = .ok (.sipush 721, 3) := by decide +kernel
theorem dX12_day_275 : decode cX12_day 275 = .ok (.iload_n 1, 1) := by decide +kernel
theorem dX12_day_276 : decode cX12_day 276 = .ok (.imul, 1) := by decide +kernel
theorem dX12_day_277 : decode cX12_day 277 = .ok (.iload 4, 2) := by decide +kernel
theorem dX12_day_279 : decode cX12_day 279 = .ok (.iadd, 1) := by decide +kernel
theorem dX12_day_280 : decode cX12_day 280 = .ok (.iload 8, 2) := by decide +kernel
theorem dX12_day_282 : decode cX12_day 282 = .ok (.ifCond .ne 7, 3) := by decide +kernel
theorem dX12_day_285 : decode cX12_day 285 = .ok (.iconst 1, 1) := by decide +kernel
theorem dX12_day_286 : decode cX12_day 286 = .ok (.goto 4, 3) := by decide +kernel
theorem dX12_day_289 : decode cX12_day 289 = .ok (.iconst 0, 1) := by decide +kernel
theorem dX12_day_290 : decode cX12_day 290 = .ok (.bastore, 1) := by decide +kernel
theorem dX12_day_291 : decode cX12_day 291 = .ok (.iload 8, 2) := by decide +kernel
theorem dX12_day_293 : decode cX12_day 293 = .ok (.ifCond .ne 13, 3) := by decide +kernel
theorem dX12_day_296 : decode cX12_day 296 = .ok (.aload_n 0, 1) := by decide +kernel
theorem dX12_day_297 : decode cX12_day 297 = .ok (.getfield 49, 3) := by decide +kernel
theorem dX12_day_300 : decode cX12_day 300 = .ok (.iload_n 1, 1) := by decide +kernel
theorem dX12_day_301 : decode cX12_day 301 = .ok (.dup2, 1) := by decide +kernel
theorem dX12_day_302 : decode cX12_day 302 = .ok (.iaload, 1) := by decide +kernel
theorem dX12_day_303 : decode cX12_day 303 = .ok (.iconst 1, 1) := by decide +kernel
theorem dX12_day_304 : decode cX12_day 304 = .ok (.iadd, 1) := by decide +kernel
theorem dX12_day_305 : decode cX12_day 305 = .ok (.iastore, 1) := by decide +kernel
theorem dX12_day_306 : decode cX12_day 306 = .ok (.aload_n 0, 1) := by decide +kernel
theorem dX12_day_307 : decode cX12_day 307 = .ok (.getfield 7, 3) := by decide +kernel
theorem dX12_day_310 : decode cX12_day 310 = .ok (.iload_n 1, 1) := by decide +kernel
theorem dX12_day_311 : decode cX12_day 311 = .ok (.iload 4, 2) := by decide +kernel
theorem dX12_day_313 : decode cX12_day 313 = .ok (.iastore, 1) := by decide +kernel
theorem dX12_day_314 : decode cX12_day 314 = .ok (.iload 4, 2) := by decide +kernel
theorem dX12_day_316 : decode cX12_day 316 = .ok (.bipush 30, 2) := by decide +kernel
theorem dX12_day_318 : decode cX12_day 318 = .ok (.irem, 1) := by decide +kernel
theorem dX12_day_319 : decode cX12_day 319 = .ok (.ifCond .eq 4, 3) := by decide +kernel
theorem dX12_day_322 : decode cX12_day 322 = .ok (.return_, 1) := by decide +kernel
theorem dX12_day_323 : decode cX12_day 323 = .ok (.iload 4, 2) := by decide +kernel
theorem dX12_day_325 : decode cX12_day 325 = .ok (.bipush 30, 2) := by decide +kernel
theorem dX12_day_327 : decode cX12_day 327 = .ok (.idiv, 1) := by decide +kernel
theorem dX12_day_328 : decode cX12_day 328 = .ok (.iconst 1, 1) := by decide +kernel
theorem dX12_day_329 : decode cX12_day 329 = .ok (.isub, 1) := by decide +kernel
theorem dX12_day_330 : decode cX12_day 330 = .ok (.istore 9, 2) := by decide +kernel
theorem dX12_day_332 : decode cX12_day 332 = .ok (.iconst 0, 1) := by decide +kernel
theorem dX12_day_333 : decode cX12_day 333 = .ok (.istore 10, 2) := by decide +kernel
theorem dX12_day_335 : decode cX12_day 335 = .ok (.iload 10, 2) := by decide +kernel
theorem dX12_day_337 : decode cX12_day 337 = .ok (.aload_n 0, 1) := by decide +kernel
theorem dX12_day_338 : decode cX12_day 338 = .ok (.getfield 210, 3) := by decide +kernel
theorem dX12_day_341 : decode cX12_day 341 = .ok (.if_icmp .ge 84, 3) := by decide +kernel
theorem dX12_day_344 : decode cX12_day 344 = .ok (.aload_n 0, 1) := by decide +kernel
theorem dX12_day_345 : decode cX12_day 345 = .ok (.getfield 83, 3) := by decide +kernel
theorem dX12_day_348 : decode cX12_day 348 = .ok (.sipush 240, 3) := by decide +kernel
theorem dX12_day_351 : decode cX12_day 351 = .ok (.iload_n 1, 1) := by decide +kernel
theorem dX12_day_352 : decode cX12_day 352 = .ok (.imul, 1) := by decide +kernel
theorem dX12_day_353 : decode cX12_day 353 = .ok (.bipush 10, 2) := by decide +kernel
theorem dX12_day_355 : decode cX12_day 355 = .ok (.iload 9, 2) := by decide +kernel
theorem dX12_day_357 : decode cX12_day 357 = .ok (.imul, 1) := by decide +kernel
theorem dX12_day_358 : decode cX12_day 358 = .ok (.iadd, 1) := by decide +kernel
theorem dX12_day_359 : decode cX12_day 359 = .ok (.iload 10, 2) := by decide +kernel
theorem dX12_day_361 : decode cX12_day 361 = .ok (.iadd, 1) := by decide +kernel
theorem dX12_day_362 : decode cX12_day 362 = .ok (.aload_n 0, 1) := by decide +kernel
theorem dX12_day_363 : decode cX12_day 363 = .ok (.getfield 55, 3) := by decide +kernel
theorem dX12_day_366 : decode cX12_day 366 = .ok (.bipush 10, 2) := by decide +kernel
theorem dX12_day_368 : decode cX12_day 368 = .ok (.iload_n 1, 1) := by decide +kernel
theorem dX12_day_369 : decode cX12_day 369 = .ok (.imul, 1) := by decide +kernel
theorem dX12_day_370 : decode cX12_day 370 = .ok (.iload 10, 2) := by decide +kernel
theorem dX12_day_372 : decode cX12_day 372 = .ok (.iadd, 1) := by decide +kernel
theorem dX12_day_373 : decode cX12_day 373 = .ok (.iaload, 1) := by decide +kernel
theorem dX12_day_374 : decode cX12_day 374 = .ok (.iastore, 1) := by decide +kernel
theorem dX12_day_375 : decode cX12_day 375 = .ok (.aload_n 0, 1) := by decide +kernel
theorem dX12_day_376 : decode cX12_day 376 = .ok (.getfield 86, 3) := by decide +kernel
theorem dX12_day_379 : decode cX12_day 379 = .ok (.sipush 240, 3) := by decide +kernel
theorem dX12_day_382 : decode cX12_day 382 = .ok (.iload_n 1, 1) := by decide +kernel
theorem dX12_day_383 : decode cX12_day 383 = .ok (.imul, 1) := by decide +kernel
theorem dX12_day_384 : decode cX12_day 384 = .ok (.bipush 10, 2) := by decide +kernel
theorem dX12_day_386 : decode cX12_day 386 = .ok (.iload 9, 2) := by decide +kernel
theorem dX12_day_388 : decode cX12_day 388 = .ok (.imul, 1) := by decide +kernel
theorem dX12_day_389 : decode cX12_day 389 = .ok (.iadd, 1) := by decide +kernel
theorem dX12_day_390 : decode cX12_day 390 = .ok (.iload 10, 2) := by decide +kernel
theorem dX12_day_392 : decode cX12_day 392 = .ok (.iadd, 1) := by decide +kernel
theorem dX12_day_393 : decode cX12_day 393 = .ok (.aload_n 0, 1) := by decide +kernel
theorem dX12_day_394 : decode cX12_day 394 = .ok (.getfield 28, 3) := by decide +kernel
theorem dX12_day_397 : decode cX12_day 397 = .ok (.iload_n 1, 1) := by decide +kernel
theorem dX12_day_398 : decode cX12_day 398 = .ok (.iaload, 1) := by decide +kernel
theorem dX12_day_399 : decode cX12_day 399 = .ok (.ifCond .ge 7, 3) := by decide +kernel
theorem dX12_day_402 : decode cX12_day 402 = .ok (.iconst (-1), 1) := by decide +kernel
theorem dX12_day_403 : decode cX12_day 403 = .ok (.goto 15, 3) := by decide +kernel
theorem dX12_day_406 : decode cX12_day 406 = .ok (.aload_n 0, 1) := by decide +kernel
theorem dX12_day_407 : decode cX12_day 407 = .ok (.getfield 58, 3) := by decide +kernel
theorem dX12_day_410 : decode cX12_day 410 = .ok (.bipush 10, 2) := by decide +kernel
theorem dX12_day_412 : decode cX12_day 412 = .ok (.iload_n 1, 1) := by decide +kernel
theorem dX12_day_413 : decode cX12_day 413 = .ok (.imul, 1) := by decide +kernel
theorem dX12_day_414 : decode cX12_day 414 = .ok (.iload 10, 2) := by decide +kernel
theorem dX12_day_416 : decode cX12_day 416 = .ok (.iadd, 1) := by decide +kernel
theorem dX12_day_417 : decode cX12_day 417 = .ok (.iaload, 1) := by decide +kernel
theorem dX12_day_418 : decode cX12_day 418 = .ok (.iastore, 1) := by decide +kernel
theorem dX12_day_419 : decode cX12_day 419 = .ok (.iinc 10 1, 3) := by decide +kernel
theorem dX12_day_422 : decode cX12_day 422 = .ok (.goto (-87), 3) := by decide +kernel
theorem dX12_day_425 : decode cX12_day 425 = .ok (.iload_n 1, 1) := by decide +kernel
theorem dX12_day_426 : decode cX12_day 426 = .ok (.ifCond .ne 16, 3) := by decide +kernel
theorem dX12_day_429 : decode cX12_day 429 = .ok (.aload_n 0, 1) := by decide +kernel
theorem dX12_day_430 : decode cX12_day 430 = .ok (.getfield 116, 3) := by decide +kernel
theorem dX12_day_433 : decode cX12_day 433 = .ok (.iload 9, 2) := by decide +kernel
theorem dX12_day_435 : decode cX12_day 435 = .ok (.aload_n 0, 1) := by decide +kernel
theorem dX12_day_436 : decode cX12_day 436 = .ok (.getfield 28, 3) := by decide +kernel
theorem dX12_day_439 : decode cX12_day 439 = .ok (.iconst 0, 1) := by decide +kernel
theorem dX12_day_440 : decode cX12_day 440 = .ok (.iaload, 1) := by decide +kernel
theorem dX12_day_441 : decode cX12_day 441 = .ok (.iastore, 1) := by decide +kernel
theorem dX12_day_442 : decode cX12_day 442 = .ok (.return_, 1) := by decide +kernel
theorem dX12_days_0 : decode cX12_days 0 = .ok (.aload_n 0, 1) := by decide +kernel
theorem dX12_days_1 : decode cX12_days 1 = .ok (.iconst 0, 1) := by decide +kernel
theorem dX12_days_2 : decode cX12_days 2 = .ok (.putfield 206, 3) := by decide +kernel
theorem dX12_days_5 : decode cX12_days 5 = .ok (.iload_n 1, 1) := by decide +kernel
theorem dX12_days_6 : decode cX12_days 6 = .ok (.iconst 0, 1) := by decide +kernel
theorem dX12_days_7 : decode cX12_days 7 = .ok (.bipush 60, 2) := by decide +kernel
theorem dX12_days_9 : decode cX12_days 9 = .ok (.invokestatic 213, 3) := by decide +kernel
theorem dX12_days_12 : decode cX12_days 12 = .ok (.ifCond .eq 17, 3) := by decide +kernel
theorem dX12_days_15 : decode cX12_days 15 = .ok (.aload_n 0, 1) := by decide +kernel
theorem dX12_days_16 : decode cX12_days 16 = .ok (.getfield 7, 3) := by decide +kernel
theorem dX12_days_19 : decode cX12_days 19 = .ok (.iconst 0, 1) := by decide +kernel
theorem dX12_days_20 : decode cX12_days 20 = .ok (.iaload, 1) := by decide +kernel
theorem dX12_days_21 : decode cX12_days 21 = .ok (.iload_n 1, 1) := by decide +kernel
theorem dX12_days_22 : decode cX12_days 22 = .ok (.iadd, 1) := by decide +kernel
theorem dX12_days_23 : decode cX12_days 23 = .ok (.sipush 720, 3) := by decide +kernel
theorem dX12_days_26 : decode cX12_days 26 = .ok (.if_icmp .le 5, 3) := by decide +kernel
theorem dX12_days_29 : decode cX12_days 29 = .ok (.iconst (-1), 1) := by decide +kernel
theorem dX12_days_30 : decode cX12_days 30 = .ok (.ireturn, 1) := by decide +kernel
theorem dX12_days_31 : decode cX12_days 31 = .ok (.iconst 0, 1) := by decide +kernel
theorem dX12_days_32 : decode cX12_days 32 = .ok (.istore_n 2, 1) := by decide +kernel
theorem dX12_days_33 : decode cX12_days 33 = .ok (.iload_n 2, 1) := by decide +kernel
theorem dX12_days_34 : decode cX12_days 34 = .ok (.iload_n 1, 1) := by decide +kernel
theorem dX12_days_35 : decode cX12_days 35 = .ok (.if_icmp .ge 16, 3) := by decide +kernel
theorem dX12_days_38 : decode cX12_days 38 = .ok (.aload_n 0, 1) := by decide +kernel
theorem dX12_days_39 : decode cX12_days 39 = .ok (.iconst 0, 1) := by decide +kernel
theorem dX12_days_40 : decode cX12_days 40 = .ok (.iconst 0, 1) := by decide +kernel
theorem dX12_days_41 : decode cX12_days 41 = .ok (.iconst (-1), 1) := by decide +kernel
theorem dX12_days_42 : decode cX12_days 42 = .ok (.invokevirtual 426, 3) := by decide +kernel
theorem dX12_days_45 : decode cX12_days 45 = .ok (.iinc 2 1, 3) := by decide +kernel
theorem dX12_days_48 : decode cX12_days 48 = .ok (.goto (-15), 3) := by decide +kernel
theorem dX12_days_51 : decode cX12_days 51 = .ok (.aload_n 0, 1) := by decide +kernel
theorem dX12_days_52 : decode cX12_days 52 = .ok (.getfield 7, 3) := by decide +kernel
theorem dX12_days_55 : decode cX12_days 55 = .ok (.iconst 0, 1) := by decide +kernel
theorem dX12_days_56 : decode cX12_days 56 = .ok (.iaload, 1) := by decide +kernel
theorem dX12_days_57 : decode cX12_days 57 = .ok (.ireturn, 1) := by decide +kernel
theorem dX12_isOver_0 : decode cX12_isOver 0 = .ok (.aload_n 0, 1) := by decide +kernel
theorem dX12_isOver_1 : decode cX12_isOver 1 = .ok (.iload_n 1, 1) := by decide +kernel
theorem dX12_isOver_2 : decode cX12_isOver 2 = .ok (.invokevirtual 217, 3) := by decide +kernel
theorem dX12_isOver_5 : decode cX12_isOver 5 = .ok (.ifCond .eq 33, 3) := by decide +kernel
theorem dX12_isOver_8 : decode cX12_isOver 8 = .ok (.iload_n 2, 1) := by decide +kernel
theorem dX12_isOver_9 : decode cX12_isOver 9 = .ok (.iconst 0, 1) := by decide +kernel
theorem dX12_isOver_10 : decode cX12_isOver 10 = .ok (.bipush 23, 2) := by decide +kernel
theorem dX12_isOver_12 : decode cX12_isOver 12 = .ok (.invokestatic 213, 3) := by decide +kernel
theorem dX12_isOver_15 : decode cX12_isOver 15 = .ok (.ifCond .eq 23, 3) := by decide +kernel
theorem dX12_isOver_18 : decode cX12_isOver 18 = .ok (.aload_n 0, 1) := by decide +kernel
theorem dX12_isOver_19 : decode cX12_isOver 19 = .ok (.getfield 7, 3) := by decide +kernel
theorem dX12_isOver_22 : decode cX12_isOver 22 = .ok (.iconst 0, 1) := by decide +kernel
theorem dX12_isOver_23 : decode cX12_isOver 23 = .ok (.iaload, 1) := by decide +kernel
theorem dX12_isOver_24 : decode cX12_isOver 24 = .ok (.bipush 30, 2) := by decide +kernel
theorem dX12_isOver_26 : decode cX12_isOver 26 = .ok (.iload_n 2, 1) := by decide +kernel
