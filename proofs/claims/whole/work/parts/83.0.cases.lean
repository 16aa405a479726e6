-- LEVEL 3, part 66: the law's cases (by program: wip/whole/gen_law.py)
def KL (N : Nat) (xs : Nat → Int32) (n rc rs : Nat) : Prop := ∀ (L' : Lay) (M' : Mem), LY L' → RR L' M' → XL N xs (rc - 20) (rs - 9087) (L', M') 1521 [.float 9, .ref 0, .ref 92, .ref 158, .int (nI n), junk, junk] []
set_option maxRecDepth 20000 in
theorem lc_0 {N : Nat} {xs : Nat → Int32} {n rc rs : Nat} (hn : n + 7 ≤ N) (hN : N ≤ 3584) {L : Lay} {M : Mem} (hL : LY L) (h : RR L M) (hrc : 20 ≤ rc) (hrs : 9087 ≤ rs)
    (K : KL N xs n rc rs) : XL N xs rc rs (L, M) 176 [.float 9, .ref 0, .ref 92, .ref 158, .int (nI n), junk, junk] [] := by
  refine X_aload_n 177 dL_law_176 rfl rfl ?_
  refine Y_scr 183 (n := n) (j := 1) dL_law_177 dL_law_178 dL_law_180 dL_law_181 dL_law_182 rfl rfl rfl rfl (by omega) hN ?_
  refine Y_scr 189 (n := n) (j := 2) dL_law_183 dL_law_184 dL_law_186 dL_law_187 dL_law_188 rfl rfl rfl rfl (by omega) hN ?_
  refine Y_scr 195 (n := n) (j := 3) dL_law_189 dL_law_190 dL_law_192 dL_law_193 dL_law_194 rfl rfl rfl rfl (by omega) hN ?_
  refine Y_scr 201 (n := n) (j := 4) dL_law_195 dL_law_196 dL_law_198 dL_law_199 dL_law_200 rfl rfl rfl rfl (by omega) hN ?_
  refine Y_cVI 204 (as := [.int (xs (n + 1)), .int (xs (n + 2)), .int (xs (n + 3)), .int (xs (n + 4))]) m_L_27 (s_X11_owner hL (j_owner h)) (hL.ob (c := 11) (by decide) rfl) rfl (by decide) (Nat.le_of_ble_eq_true rfl) dL_law_201 rfl rfl (fun a M1 hw => ?_)
  refine X_aload_n 205 dL_law_204 rfl rfl ?_
  refine Y_scr 211 (n := n) (j := 1) dL_law_205 dL_law_206 dL_law_208 dL_law_209 dL_law_210 rfl rfl rfl rfl (by omega) hN ?_
  refine Y_scr 217 (n := n) (j := 2) dL_law_211 dL_law_212 dL_law_214 dL_law_215 dL_law_216 rfl rfl rfl rfl (by omega) hN ?_
  refine Y_scr 223 (n := n) (j := 3) dL_law_217 dL_law_218 dL_law_220 dL_law_221 dL_law_222 rfl rfl rfl rfl (by omega) hN ?_
  refine Y_scr 229 (n := n) (j := 4) dL_law_223 dL_law_224 dL_law_226 dL_law_227 dL_law_228 rfl rfl rfl rfl (by omega) hN ?_
  refine Y_cVI 232 (as := [.int (xs (n + 1)), .int (xs (n + 2)), .int (xs (n + 3)), .int (xs (n + 4))]) m_L_31 (s_X12_owner hL hw) (hL.ob (c := 12) (by decide) rfl) rfl (by decide) (Nat.le_of_ble_eq_true rfl) dL_law_229 rfl rfl (fun b M2 hq => ?_)
  refine X_icmp_eq 1521 235 dL_law_232 rfl rfl (fun c => ?_) (fun c => absurd hq.1 c)
  exact X_room (by omega) (by omega) (K L M2 hL hq.2)
set_option maxRecDepth 20000 in
theorem lc_1 {N : Nat} {xs : Nat → Int32} {n rc rs : Nat} (hn : n + 7 ≤ N) (hN : N ≤ 3584) {L : Lay} {M : Mem} (hL : LY L) (h : RR L M) (hrc : 20 ≤ rc) (hrs : 9087 ≤ rs)
    (K : KL N xs n rc rs) : XL N xs rc rs (L, M) 237 [.float 9, .ref 0, .ref 92, .ref 158, .int (nI n), junk, junk] [] := by
  refine X_aload_n 238 dL_law_237 rfl rfl ?_
  refine Y_scr 244 (n := n) (j := 1) dL_law_238 dL_law_239 dL_law_241 dL_law_242 dL_law_243 rfl rfl rfl rfl (by omega) hN ?_
  refine Y_scr 250 (n := n) (j := 2) dL_law_244 dL_law_245 dL_law_247 dL_law_248 dL_law_249 rfl rfl rfl rfl (by omega) hN ?_
  refine Y_cVZ 253 (as := [.int (xs (n + 1)), .int (xs (n + 2))]) m_L_32 (s_X11_digs hL (j_digs h)) (hL.ob (c := 11) (by decide) rfl) rfl (by decide) (Nat.le_of_ble_eq_true rfl) dL_law_250 rfl rfl (fun a M1 ba hw => ?_)
  refine X_aload_n 254 dL_law_253 rfl rfl ?_
  refine Y_scr 260 (n := n) (j := 1) dL_law_254 dL_law_255 dL_law_257 dL_law_258 dL_law_259 rfl rfl rfl rfl (by omega) hN ?_
  refine Y_scr 266 (n := n) (j := 2) dL_law_260 dL_law_261 dL_law_263 dL_law_264 dL_law_265 rfl rfl rfl rfl (by omega) hN ?_
  refine Y_cVZ 269 (as := [.int (xs (n + 1)), .int (xs (n + 2))]) m_L_36 (s_X12_digs hL hw) (hL.ob (c := 12) (by decide) rfl) rfl (by decide) (Nat.le_of_ble_eq_true rfl) dL_law_266 rfl rfl (fun b M2 bb hq => ?_)
  refine X_icmp_eq 1521 272 dL_law_269 rfl rfl (fun c => ?_) (fun c => absurd hq.1 c)
  exact X_room (by omega) (by omega) (K L M2 hL hq.2)
set_option maxRecDepth 20000 in
theorem lc_2 {N : Nat} {xs : Nat → Int32} {n rc rs : Nat} (hn : n + 7 ≤ N) (hN : N ≤ 3584) {L : Lay} {M : Mem} (hL : LY L) (h : RR L M) (hrc : 20 ≤ rc) (hrs : 9087 ≤ rs)
    (K : KL N xs n rc rs) : XL N xs rc rs (L, M) 274 [.float 9, .ref 0, .ref 92, .ref 158, .int (nI n), junk, junk] [] := by
  refine X_aload_n 275 dL_law_274 rfl rfl ?_
  refine Y_scr 281 (n := n) (j := 1) dL_law_275 dL_law_276 dL_law_278 dL_law_279 dL_law_280 rfl rfl rfl rfl (by omega) hN ?_
  refine Y_scr 287 (n := n) (j := 2) dL_law_281 dL_law_282 dL_law_284 dL_law_285 dL_law_286 rfl rfl rfl rfl (by omega) hN ?_
  refine Y_cVZ 290 (as := [.int (xs (n + 1)), .int (xs (n + 2))]) m_L_37 (s_X11_rebate hL (j_rebate h)) (hL.ob (c := 11) (by decide) rfl) rfl (by decide) (Nat.le_of_ble_eq_true rfl) dL_law_287 rfl rfl (fun a M1 ba hw => ?_)
  refine X_aload_n 291 dL_law_290 rfl rfl ?_
  refine Y_scr 297 (n := n) (j := 1) dL_law_291 dL_law_292 dL_law_294 dL_law_295 dL_law_296 rfl rfl rfl rfl (by omega) hN ?_
  refine Y_scr 303 (n := n) (j := 2) dL_law_297 dL_law_298 dL_law_300 dL_law_301 dL_law_302 rfl rfl rfl rfl (by omega) hN ?_
  refine Y_cVZ 306 (as := [.int (xs (n + 1)), .int (xs (n + 2))]) m_L_40 (s_X12_rebate hL hw) (hL.ob (c := 12) (by decide) rfl) rfl (by decide) (Nat.le_of_ble_eq_true rfl) dL_law_303 rfl rfl (fun b M2 bb hq => ?_)
  refine X_icmp_eq 1521 309 dL_law_306 rfl rfl (fun c => ?_) (fun c => absurd hq.1 c)
  exact X_room (by omega) (by omega) (K L M2 hL hq.2)
set_option maxRecDepth 20000 in
theorem lc_3 {N : Nat} {xs : Nat → Int32} {n rc rs : Nat} (hn : n + 7 ≤ N) (hN : N ≤ 3584) {L : Lay} {M : Mem} (hL : LY L) (h : RR L M) (hrc : 20 ≤ rc) (hrs : 9087 ≤ rs)
    (K : KL N xs n rc rs) : XL N xs rc rs (L, M) 311 [.float 9, .ref 0, .ref 92, .ref 158, .int (nI n), junk, junk] [] := by
  refine X_aload_n 312 dL_law_311 rfl rfl ?_
  refine Y_scr 318 (n := n) (j := 1) dL_law_312 dL_law_313 dL_law_315 dL_law_316 dL_law_317 rfl rfl rfl rfl (by omega) hN ?_
  refine Y_scr 324 (n := n) (j := 2) dL_law_318 dL_law_319 dL_law_321 dL_law_322 dL_law_323 rfl rfl rfl rfl (by omega) hN ?_
  refine Y_bool 332 dL_law_324 dL_law_327 dL_law_328 dL_law_331 rfl ?_
  refine Y_cVZ 335 (as := [.int (xs (n + 1)), .int (bzz (xs (n + 2)))]) m_L_41 (s_X11_breaker hL (j_breaker (BZ_bzz _) h)) (hL.ob (c := 11) (by decide) rfl) rfl (by decide) (Nat.le_of_ble_eq_true rfl) dL_law_332 rfl rfl (fun a M1 ba hw => ?_)
  refine X_aload_n 336 dL_law_335 rfl rfl ?_
  refine Y_scr 342 (n := n) (j := 1) dL_law_336 dL_law_337 dL_law_339 dL_law_340 dL_law_341 rfl rfl rfl rfl (by omega) hN ?_
  refine Y_scr 348 (n := n) (j := 2) dL_law_342 dL_law_343 dL_law_345 dL_law_346 dL_law_347 rfl rfl rfl rfl (by omega) hN ?_
  refine Y_bool 356 dL_law_348 dL_law_351 dL_law_352 dL_law_355 rfl ?_
  refine Y_cVZ 359 (as := [.int (xs (n + 1)), .int (bzz (xs (n + 2)))]) m_L_45 (s_X12_breaker hL hw) (hL.ob (c := 12) (by decide) rfl) rfl (by decide) (Nat.le_of_ble_eq_true rfl) dL_law_356 rfl rfl (fun b M2 bb hq => ?_)
  refine X_icmp_eq 1521 362 dL_law_359 rfl rfl (fun c => ?_) (fun c => absurd hq.1 c)
  exact X_room (by omega) (by omega) (K L M2 hL hq.2)
set_option maxRecDepth 20000 in
theorem lc_4 {N : Nat} {xs : Nat → Int32} {n rc rs : Nat} (hn : n + 7 ≤ N) (hN : N ≤ 3584) {L : Lay} {M : Mem} (hL : LY L) (h : RR L M) (hrc : 20 ≤ rc) (hrs : 9087 ≤ rs)
    (K : KL N xs n rc rs) : XL N xs rc rs (L, M) 364 [.float 9, .ref 0, .ref 92, .ref 158, .int (nI n), junk, junk] [] := by
  refine X_aload_n 365 dL_law_364 rfl rfl ?_
  refine Y_scr 371 (n := n) (j := 1) dL_law_365 dL_law_366 dL_law_368 dL_law_369 dL_law_370 rfl rfl rfl rfl (by omega) hN ?_
  refine Y_scr 377 (n := n) (j := 2) dL_law_371 dL_law_372 dL_law_374 dL_law_375 dL_law_376 rfl rfl rfl rfl (by omega) hN ?_
  refine Y_cVI 380 (as := [.int (xs (n + 1)), .int (xs (n + 2))]) m_L_46 (s_X11_ship hL (j_ship h)) (hL.ob (c := 11) (by decide) rfl) rfl (by decide) (Nat.le_of_ble_eq_true rfl) dL_law_377 rfl rfl (fun a M1 hw => ?_)
  refine X_aload_n 381 dL_law_380 rfl rfl ?_
  refine Y_scr 387 (n := n) (j := 1) dL_law_381 dL_law_382 dL_law_384 dL_law_385 dL_law_386 rfl rfl rfl rfl (by omega) hN ?_
  refine Y_scr 393 (n := n) (j := 2) dL_law_387 dL_law_388 dL_law_390 dL_law_391 dL_law_392 rfl rfl rfl rfl (by omega) hN ?_
  refine Y_cVI 396 (as := [.int (xs (n + 1)), .int (xs (n + 2))]) m_L_49 (s_X12_ship hL hw) (hL.ob (c := 12) (by decide) rfl) rfl (by decide) (Nat.le_of_ble_eq_true rfl) dL_law_393 rfl rfl (fun b M2 hq => ?_)
  refine X_icmp_eq 1521 399 dL_law_396 rfl rfl (fun c => ?_) (fun c => absurd hq.1 c)
  exact X_room (by omega) (by omega) (K L M2 hL hq.2)
set_option maxRecDepth 20000 in
theorem lc_5 {N : Nat} {xs : Nat → Int32} {n rc rs : Nat} (hn : n + 7 ≤ N) (hN : N ≤ 3584) {L : Lay} {M : Mem} (hL : LY L) (h : RR L M) (hrc : 20 ≤ rc) (hrs : 9087 ≤ rs)
    (K : KL N xs n rc rs) : XL N xs rc rs (L, M) 401 [.float 9, .ref 0, .ref 92, .ref 158, .int (nI n), junk, junk] [] := by
  refine X_aload_n 402 dL_law_401 rfl rfl ?_
  refine Y_scr 408 (n := n) (j := 1) dL_law_402 dL_law_403 dL_law_405 dL_law_406 dL_law_407 rfl rfl rfl rfl (by omega) hN ?_
  refine Y_cVZ 411 (as := [.int (xs (n + 1))]) m_L_50 (s_X11_keels hL (j_keels h)) (hL.ob (c := 11) (by decide) rfl) rfl (by decide) (Nat.le_of_ble_eq_true rfl) dL_law_408 rfl rfl (fun a M1 ba hw => ?_)
  refine X_aload_n 412 dL_law_411 rfl rfl ?_
  refine Y_scr 418 (n := n) (j := 1) dL_law_412 dL_law_413 dL_law_415 dL_law_416 dL_law_417 rfl rfl rfl rfl (by omega) hN ?_
  refine Y_cVZ 421 (as := [.int (xs (n + 1))]) m_L_54 (s_X12_keels hL hw) (hL.ob (c := 12) (by decide) rfl) rfl (by decide) (Nat.le_of_ble_eq_true rfl) dL_law_418 rfl rfl (fun b M2 bb hq => ?_)
  refine X_icmp_eq 1521 424 dL_law_421 rfl rfl (fun c => ?_) (fun c => absurd hq.1 c)
  exact X_room (by omega) (by omega) (K L M2 hL hq.2)
set_option maxRecDepth 20000 in
theorem lc_6 {N : Nat} {xs : Nat → Int32} {n rc rs : Nat} (hn : n + 7 ≤ N) (hN : N ≤ 3584) {L : Lay} {M : Mem} (hL : LY L) (h : RR L M) (hrc : 20 ≤ rc) (hrs : 9087 ≤ rs)
    (K : KL N xs n rc rs) : XL N xs rc rs (L, M) 426 [.float 9, .ref 0, .ref 92, .ref 158, .int (nI n), junk, junk] [] := by
  refine X_aload_n 427 dL_law_426 rfl rfl ?_
  refine Y_scr 433 (n := n) (j := 1) dL_law_427 dL_law_428 dL_law_430 dL_law_431 dL_law_432 rfl rfl rfl rfl (by omega) hN ?_
  refine Y_scr 439 (n := n) (j := 2) dL_law_433 dL_law_434 dL_law_436 dL_law_437 dL_law_438 rfl rfl rfl rfl (by omega) hN ?_
  refine Y_cVI 442 (as := [.int (xs (n + 1)), .int (xs (n + 2))]) m_L_55 (s_X11_winds hL (j_winds h)) (hL.ob (c := 11) (by decide) rfl) rfl (by decide) (Nat.le_of_ble_eq_true rfl) dL_law_439 rfl rfl (fun a M1 hw => ?_)
  refine X_aload_n 443 dL_law_442 rfl rfl ?_
  refine Y_scr 449 (n := n) (j := 1) dL_law_443 dL_law_444 dL_law_446 dL_law_447 dL_law_448 rfl rfl rfl rfl (by omega) hN ?_
  refine Y_scr 455 (n := n) (j := 2) dL_law_449 dL_law_450 dL_law_452 dL_law_453 dL_law_454 rfl rfl rfl rfl (by omega) hN ?_
  refine Y_cVI 458 (as := [.int (xs (n + 1)), .int (xs (n + 2))]) m_L_58 (s_X12_winds hL hw) (hL.ob (c := 12) (by decide) rfl) rfl (by decide) (Nat.le_of_ble_eq_true rfl) dL_law_455 rfl rfl (fun b M2 hq => ?_)
  refine X_icmp_eq 1521 461 dL_law_458 rfl rfl (fun c => ?_) (fun c => absurd hq.1 c)
  exact X_room (by omega) (by omega) (K L M2 hL hq.2)
set_option maxRecDepth 20000 in
theorem lc_7 {N : Nat} {xs : Nat → Int32} {n rc rs : Nat} (hn : n + 7 ≤ N) (hN : N ≤ 3584) {L : Lay} {M : Mem} (hL : LY L) (h : RR L M) (hrc : 20 ≤ rc) (hrs : 9087 ≤ rs)
    (K : KL N xs n rc rs) : XL N xs rc rs (L, M) 463 [.float 9, .ref 0, .ref 92, .ref 158, .int (nI n), junk, junk] [] := by
  refine X_aload_n 464 dL_law_463 rfl rfl ?_
  refine Y_scr 470 (n := n) (j := 1) dL_law_464 dL_law_465 dL_law_467 dL_law_468 dL_law_469 rfl rfl rfl rfl (by omega) hN ?_
  refine Y_scr 476 (n := n) (j := 2) dL_law_470 dL_law_471 dL_law_473 dL_law_474 dL_law_475 rfl rfl rfl rfl (by omega) hN ?_
  refine Y_scr 482 (n := n) (j := 3) dL_law_476 dL_law_477 dL_law_479 dL_law_480 dL_law_481 rfl rfl rfl rfl (by omega) hN ?_
  refine Y_cVZ 485 (as := [.int (xs (n + 1)), .int (xs (n + 2)), .int (xs (n + 3))]) m_L_59 (s_X11_city hL (j_city h)) (hL.ob (c := 11) (by decide) rfl) rfl (by decide) (Nat.le_of_ble_eq_true rfl) dL_law_482 rfl rfl (fun a M1 ba hw => ?_)
  refine X_aload_n 486 dL_law_485 rfl rfl ?_
  refine Y_scr 492 (n := n) (j := 1) dL_law_486 dL_law_487 dL_law_489 dL_law_490 dL_law_491 rfl rfl rfl rfl (by omega) hN ?_
  refine Y_scr 498 (n := n) (j := 2) dL_law_492 dL_law_493 dL_law_495 dL_law_496 dL_law_497 rfl rfl rfl rfl (by omega) hN ?_
  refine Y_scr 504 (n := n) (j := 3) dL_law_498 dL_law_499 dL_law_501 dL_law_502 dL_law_503 rfl rfl rfl rfl (by omega) hN ?_
  refine Y_cVZ 507 (as := [.int (xs (n + 1)), .int (xs (n + 2)), .int (xs (n + 3))]) m_L_63 (s_X12_city hL hw) (hL.ob (c := 12) (by decide) rfl) rfl (by decide) (Nat.le_of_ble_eq_true rfl) dL_law_504 rfl rfl (fun b M2 bb hq => ?_)
  refine X_icmp_eq 1521 510 dL_law_507 rfl rfl (fun c => ?_) (fun c => absurd hq.1 c)
  exact X_room (by omega) (by omega) (K L M2 hL hq.2)
set_option maxRecDepth 20000 in
theorem lc_8 {N : Nat} {xs : Nat → Int32} {n rc rs : Nat} (hn : n + 7 ≤ N) (hN : N ≤ 3584) {L : Lay} {M : Mem} (hL : LY L) (h : RR L M) (hrc : 20 ≤ rc) (hrs : 9087 ≤ rs)
    (K : KL N xs n rc rs) : XL N xs rc rs (L, M) 512 [.float 9, .ref 0, .ref 92, .ref 158, .int (nI n), junk, junk] [] := by
  refine X_aload_n 513 dL_law_512 rfl rfl ?_
  refine Y_scr 519 (n := n) (j := 1) dL_law_513 dL_law_514 dL_law_516 dL_law_517 dL_law_518 rfl rfl rfl rfl (by omega) hN ?_
  refine X_i2l 520 dL_law_519 rfl ?_
  refine X_bipush 522 (v := 32) dL_law_520 rfl rfl ?_
  refine Y_lshl 523 dL_law_522 rfl ?_
  refine Y_scr 529 (n := n) (j := 2) dL_law_523 dL_law_524 dL_law_526 dL_law_527 dL_law_528 rfl rfl rfl rfl (by omega) hN ?_
  refine X_i2l 530 dL_law_529 rfl ?_
  refine X_ldc2 533 dL_law_530 rfl k_L_64 ?_
  refine X_land 534 dL_law_533 rfl ?_
  refine X_lor 535 dL_law_534 rfl ?_
  refine Y_scr 541 (n := n) (j := 3) dL_law_535 dL_law_536 dL_law_538 dL_law_539 dL_law_540 rfl rfl rfl rfl (by omega) hN ?_
  refine X_i2l 542 dL_law_541 rfl ?_
  refine X_bipush 544 (v := 32) dL_law_542 rfl rfl ?_
  refine Y_lshl 545 dL_law_544 rfl ?_
  refine Y_scr 551 (n := n) (j := 4) dL_law_545 dL_law_546 dL_law_548 dL_law_549 dL_law_550 rfl rfl rfl rfl (by omega) hN ?_
  refine X_i2l 552 dL_law_551 rfl ?_
  refine X_ldc2 555 dL_law_552 rfl k_L_64 ?_
  refine X_land 556 dL_law_555 rfl ?_
  refine X_lor 557 dL_law_556 rfl ?_
  refine Y_scr 563 (n := n) (j := 5) dL_law_557 dL_law_558 dL_law_560 dL_law_561 dL_law_562 rfl rfl rfl rfl (by omega) hN ?_
  refine X_i2l 564 dL_law_563 rfl ?_
  refine X_bipush 566 (v := 32) dL_law_564 rfl rfl ?_
  refine Y_lshl 567 dL_law_566 rfl ?_
  refine Y_scr6 574 (n := n) dL_law_567 dL_law_568 dL_law_570 dL_law_572 dL_law_573 rfl rfl rfl (by omega) hN ?_
  refine X_i2l 575 dL_law_574 rfl ?_
  refine X_ldc2 578 dL_law_575 rfl k_L_64 ?_
  refine X_land 579 dL_law_578 rfl ?_
  refine X_lor 580 dL_law_579 rfl ?_
  refine Y_cVI 583 (as := [.long ((jlshl (Int32.toInt64 (xs (n + 1))) 32) ||| ((Int32.toInt64 (xs (n + 2))) &&& (4294967295 : Int64))), .long ((jlshl (Int32.toInt64 (xs (n + 3))) 32) ||| ((Int32.toInt64 (xs (n + 4))) &&& (4294967295 : Int64))), .long ((jlshl (Int32.toInt64 (xs (n + 5))) 32) ||| ((Int32.toInt64 (xs (n + 6))) &&& (4294967295 : Int64)))]) m_L_66 (s_X11_feed hL (j_feed h)) (hL.ob (c := 11) (by decide) rfl) rfl (by decide) (Nat.le_of_ble_eq_true rfl) dL_law_580 rfl rfl (fun a M1 hw => ?_)
  refine X_aload_n 584 dL_law_583 rfl rfl ?_
  refine Y_scr 590 (n := n) (j := 1) dL_law_584 dL_law_585 dL_law_587 dL_law_588 dL_law_589 rfl rfl rfl rfl (by omega) hN ?_
  refine X_i2l 591 dL_law_590 rfl ?_
  refine X_bipush 593 (v := 32) dL_law_591 rfl rfl ?_
  refine Y_lshl 594 dL_law_593 rfl ?_
  refine Y_scr 600 (n := n) (j := 2) dL_law_594 dL_law_595 dL_law_597 dL_law_598 dL_law_599 rfl rfl rfl rfl (by omega) hN ?_
  refine X_i2l 601 dL_law_600 rfl ?_
  refine X_ldc2 604 dL_law_601 rfl k_L_64 ?_
  refine X_land 605 dL_law_604 rfl ?_
  refine X_lor 606 dL_law_605 rfl ?_
  refine Y_scr 612 (n := n) (j := 3) dL_law_606 dL_law_607 dL_law_609 dL_law_610 dL_law_611 rfl rfl rfl rfl (by omega) hN ?_
  refine X_i2l 613 dL_law_612 rfl ?_
  refine X_bipush 615 (v := 32) dL_law_613 rfl rfl ?_
  refine Y_lshl 616 dL_law_615 rfl ?_
  refine Y_scr 622 (n := n) (j := 4) dL_law_616 dL_law_617 dL_law_619 dL_law_620 dL_law_621 rfl rfl rfl rfl (by omega) hN ?_
  refine X_i2l 623 dL_law_622 rfl ?_
  refine X_ldc2 626 dL_law_623 rfl k_L_64 ?_
  refine X_land 627 dL_law_626 rfl ?_
  refine X_lor 628 dL_law_627 rfl ?_
  refine Y_scr 634 (n := n) (j := 5) dL_law_628 dL_law_629 dL_law_631 dL_law_632 dL_law_633 rfl rfl rfl rfl (by omega) hN ?_
  refine X_i2l 635 dL_law_634 rfl ?_
  refine X_bipush 637 (v := 32) dL_law_635 rfl rfl ?_
  refine Y_lshl 638 dL_law_637 rfl ?_
  refine Y_scr6 645 (n := n) dL_law_638 dL_law_639 dL_law_641 dL_law_643 dL_law_644 rfl rfl rfl (by omega) hN ?_
  refine X_i2l 646 dL_law_645 rfl ?_
  refine X_ldc2 649 dL_law_646 rfl k_L_64 ?_
  refine X_land 650 dL_law_649 rfl ?_
  refine X_lor 651 dL_law_650 rfl ?_
  refine Y_cVI 654 (as := [.long ((jlshl (Int32.toInt64 (xs (n + 1))) 32) ||| ((Int32.toInt64 (xs (n + 2))) &&& (4294967295 : Int64))), .long ((jlshl (Int32.toInt64 (xs (n + 3))) 32) ||| ((Int32.toInt64 (xs (n + 4))) &&& (4294967295 : Int64))), .long ((jlshl (Int32.toInt64 (xs (n + 5))) 32) ||| ((Int32.toInt64 (xs (n + 6))) &&& (4294967295 : Int64)))]) m_L_70 (s_X12_feed hL hw) (hL.ob (c := 12) (by decide) rfl) rfl (by decide) (Nat.le_of_ble_eq_true rfl) dL_law_651 rfl rfl (fun b M2 hq => ?_)
  refine X_icmp_eq 1521 657 dL_law_654 rfl rfl (fun c => ?_) (fun c => absurd hq.1 c)
  exact X_room (by omega) (by omega) (K L M2 hL hq.2)
set_option maxRecDepth 20000 in
theorem lc_9 {N : Nat} {xs : Nat → Int32} {n rc rs : Nat} (hn : n + 7 ≤ N) (hN : N ≤ 3584) {L : Lay} {M : Mem} (hL : LY L) (h : RR L M) (hrc : 20 ≤ rc) (hrs : 9087 ≤ rs)
    (K : KL N xs n rc rs) : XL N xs rc rs (L, M) 659 [.float 9, .ref 0, .ref 92, .ref 158, .int (nI n), junk, junk] [] := by
  refine X_aload_n 660 dL_law_659 rfl rfl ?_
  refine Y_aVI 663 (rc' := 20) (rs' := 9087) (as := []) m_L_71 (s_X11_pact hL (j_pact hL.1 h (Nat.le_refl _) (Nat.le_refl _))) (hL.ob (c := 11) (by decide) rfl) rfl (by decide) (by omega) (by omega) (Nat.le_of_ble_eq_true rfl) dL_law_660 rfl rfl (fun a L1 M1 hE hw => ?_)
  have hL1 := hE.ly hL
  refine X_aload_n 664 dL_law_663 rfl rfl ?_
  refine Y_cVI 667 (as := []) m_L_75 (s_X12_pact hL1 hw) (hL1.ob (c := 12) (by decide) rfl) rfl (by decide) (Nat.le_of_ble_eq_true rfl) dL_law_664 rfl rfl (fun b M2 hq => ?_)
  refine X_icmp_eq 1521 670 dL_law_667 rfl rfl (fun c => ?_) (fun c => absurd hq.1 c)
  exact X_room (by omega) (by omega) (K L1 M2 hL1 hq.2.2)
