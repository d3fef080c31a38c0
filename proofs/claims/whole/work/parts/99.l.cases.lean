/-! THE LAW: the cases of its switch: by program -/
section LC
variable {g : zG} {aC aM : Nat → Nat} {b L t : Nat} {xs : Nat → Int32} {C M : zM}
theorem lc_cmp {x : Int64} : lg_cmp x x = 0 := by
  simp [lg_cmp]
theorem lc_0 (hL : L ≤ 3072) (ht : 6 * t + 6 ≤ L) (hN : ∀ C M : zM, RR C M → lW g aC aM b L xs 1183 (lvL b aC aM t) [] C M) (hR : RR C M) : lW g aC aM b L xs 172 (lvL b aC aM t) [] C M := by
  refine l_aload dL_172 2 rfl ?_
  refine l_arg (k0 := 1) rfl (by omega) hL dL_173 dL_174 dL_175 dL_176 dL_177 ?_
  refine l_cI (j_state hR) rfl okX8_state rfl (zat 507 (by decide +kernel) rfl) rfl rfl (Nat.le_of_ble_eq_true rfl) dL_178 (fun x C1 hJ => ?_)
  refine l_aload dL_181 1 rfl ?_
  refine l_arg (k0 := 1) rfl (by omega) hL dL_182 dL_183 dL_184 dL_185 dL_186 ?_
  refine l_mI hJ rfl okX9_state rfl (zat 1345 (by decide +kernel) rfl) rfl rfl (Nat.le_of_ble_eq_true rfl) dL_187 (fun M1 hR1 => ?_)
  exact l_icmp_eq 1183 dL_190 (by decide) (fun _ => hN C1 M1 hR1) (fun c => absurd rfl c)
theorem lc_1 (hL : L ≤ 3072) (ht : 6 * t + 6 ≤ L) (hN : ∀ C M : zM, RR C M → lW g aC aM b L xs 1183 (lvL b aC aM t) [] C M) (hR : RR C M) : lW g aC aM b L xs 195 (lvL b aC aM t) [] C M := by
  refine l_aload dL_195 2 rfl ?_
  refine l_arg (k0 := 1) rfl (by omega) hL dL_196 dL_197 dL_198 dL_199 dL_200 ?_
  refine l_arg (k0 := 2) rfl (by omega) hL dL_201 dL_202 dL_203 dL_204 dL_205 ?_
  refine l_cZ (j_basin hR) rfl okX8_basin rfl (zat 515 (by decide +kernel) rfl) rfl rfl (Nat.le_of_ble_eq_true rfl) dL_206 (fun x C1 hJ => ?_)
  refine l_aload dL_209 1 rfl ?_
  refine l_arg (k0 := 1) rfl (by omega) hL dL_210 dL_211 dL_212 dL_213 dL_214 ?_
  refine l_arg (k0 := 2) rfl (by omega) hL dL_215 dL_216 dL_217 dL_218 dL_219 ?_
  refine l_mZ hJ rfl okX9_basin rfl (zat 1353 (by decide +kernel) rfl) rfl rfl (Nat.le_of_ble_eq_true rfl) dL_220 (fun M1 hR1 => ?_)
  exact l_icmp_eq 1183 dL_223 (by decide) (fun _ => hN C1 M1 hR1) (fun c => absurd rfl c)
theorem lc_2 (hL : L ≤ 3072) (ht : 6 * t + 6 ≤ L) (hN : ∀ C M : zM, RR C M → lW g aC aM b L xs 1183 (lvL b aC aM t) [] C M) (hR : RR C M) : lW g aC aM b L xs 228 (lvL b aC aM t) [] C M := by
  refine l_aload dL_228 2 rfl ?_
  refine l_arg (k0 := 1) rfl (by omega) hL dL_229 dL_230 dL_231 dL_232 dL_233 ?_
  refine l_arg (k0 := 2) rfl (by omega) hL dL_234 dL_235 dL_236 dL_237 dL_238 ?_
  refine l_cI (j_skater hR) rfl okX8_skater rfl (zat 519 (by decide +kernel) rfl) rfl rfl (Nat.le_of_ble_eq_true rfl) dL_239 (fun x C1 hJ => ?_)
  refine l_aload dL_242 1 rfl ?_
  refine l_arg (k0 := 1) rfl (by omega) hL dL_243 dL_244 dL_245 dL_246 dL_247 ?_
  refine l_arg (k0 := 2) rfl (by omega) hL dL_248 dL_249 dL_250 dL_251 dL_252 ?_
  refine l_mI hJ rfl okX9_skater rfl (zat 1360 (by decide +kernel) rfl) rfl rfl (Nat.le_of_ble_eq_true rfl) dL_253 (fun M1 hR1 => ?_)
  exact l_icmp_eq 1183 dL_256 (by decide) (fun _ => hN C1 M1 hR1) (fun c => absurd rfl c)
theorem lc_3 (hL : L ≤ 3072) (ht : 6 * t + 6 ≤ L) (hN : ∀ C M : zM, RR C M → lW g aC aM b L xs 1183 (lvL b aC aM t) [] C M) (hR : RR C M) : lW g aC aM b L xs 261 (lvL b aC aM t) [] C M := by
  refine l_aload dL_261 2 rfl ?_
  refine l_arg (k0 := 1) rfl (by omega) hL dL_262 dL_263 dL_264 dL_265 dL_266 ?_
  refine l_arg (k0 := 2) rfl (by omega) hL dL_267 dL_268 dL_269 dL_270 dL_271 ?_
  refine l_arg (k0 := 3) rfl (by omega) hL dL_272 dL_273 dL_274 dL_275 dL_276 ?_
  refine l_cZ (j_set hR) rfl okX8_set rfl (zat 531 (by decide +kernel) rfl) rfl rfl (Nat.le_of_ble_eq_true rfl) dL_277 (fun x C1 hJ => ?_)
  refine l_aload dL_280 1 rfl ?_
  refine l_arg (k0 := 1) rfl (by omega) hL dL_281 dL_282 dL_283 dL_284 dL_285 ?_
  refine l_arg (k0 := 2) rfl (by omega) hL dL_286 dL_287 dL_288 dL_289 dL_290 ?_
  refine l_arg (k0 := 3) rfl (by omega) hL dL_291 dL_292 dL_293 dL_294 dL_295 ?_
  refine l_mZ hJ rfl okX9_set rfl (zat 1372 (by decide +kernel) rfl) rfl rfl (Nat.le_of_ble_eq_true rfl) dL_296 (fun M1 hR1 => ?_)
  exact l_icmp_eq 1183 dL_299 (by decide) (fun _ => hN C1 M1 hR1) (fun c => absurd rfl c)
theorem lc_4 (hL : L ≤ 3072) (ht : 6 * t + 6 ≤ L) (hN : ∀ C M : zM, RR C M → lW g aC aM b L xs 1183 (lvL b aC aM t) [] C M) (hR : RR C M) : lW g aC aM b L xs 304 (lvL b aC aM t) [] C M := by
  refine l_aload dL_304 2 rfl ?_
  refine l_arg (k0 := 1) rfl (by omega) hL dL_305 dL_306 dL_307 dL_308 dL_309 ?_
  refine l_arg (k0 := 2) rfl (by omega) hL dL_310 dL_311 dL_312 dL_313 dL_314 ?_
  refine l_arg (k0 := 3) rfl (by omega) hL dL_315 dL_316 dL_317 dL_318 dL_319 ?_
  refine l_arg (k0 := 4) rfl (by omega) hL dL_320 dL_321 dL_322 dL_323 dL_324 ?_
  refine l_arg (k0 := 5) rfl (by omega) hL dL_325 dL_326 dL_327 dL_328 dL_329 ?_
  refine l_cI (j_feed hR) rfl okX8_feed rfl (zat 543 (by decide +kernel) rfl) rfl rfl (Nat.le_of_ble_eq_true rfl) dL_330 (fun x C1 hJ => ?_)
  refine l_aload dL_333 1 rfl ?_
  refine l_arg (k0 := 1) rfl (by omega) hL dL_334 dL_335 dL_336 dL_337 dL_338 ?_
  refine l_arg (k0 := 2) rfl (by omega) hL dL_339 dL_340 dL_341 dL_342 dL_343 ?_
  refine l_arg (k0 := 3) rfl (by omega) hL dL_344 dL_345 dL_346 dL_347 dL_348 ?_
  refine l_arg (k0 := 4) rfl (by omega) hL dL_349 dL_350 dL_351 dL_352 dL_353 ?_
  refine l_arg (k0 := 5) rfl (by omega) hL dL_354 dL_355 dL_356 dL_357 dL_358 ?_
  refine l_mI hJ rfl okX9_feed rfl (zat 1384 (by decide +kernel) rfl) rfl rfl (Nat.le_of_ble_eq_true rfl) dL_359 (fun M1 hR1 => ?_)
  exact l_icmp_eq 1183 dL_362 (by decide) (fun _ => hN C1 M1 hR1) (fun c => absurd rfl c)
theorem lc_5 (hL : L ≤ 3072) (ht : 6 * t + 6 ≤ L) (hN : ∀ C M : zM, RR C M → lW g aC aM b L xs 1183 (lvL b aC aM t) [] C M) (hR : RR C M) : lW g aC aM b L xs 367 (lvL b aC aM t) [] C M := by
  refine l_aload dL_367 2 rfl ?_
  refine l_arg (k0 := 1) rfl (by omega) hL dL_368 dL_369 dL_370 dL_371 dL_372 ?_
  refine l_cZ (j_end hR) rfl okX8_end rfl (zat 551 (by decide +kernel) rfl) rfl rfl (Nat.le_of_ble_eq_true rfl) dL_373 (fun x C1 hJ => ?_)
  refine l_aload dL_376 1 rfl ?_
  refine l_arg (k0 := 1) rfl (by omega) hL dL_377 dL_378 dL_379 dL_380 dL_381 ?_
  refine l_mZ hJ rfl okX9_end rfl (zat 1388 (by decide +kernel) rfl) rfl rfl (Nat.le_of_ble_eq_true rfl) dL_382 (fun M1 hR1 => ?_)
  exact l_icmp_eq 1183 dL_385 (by decide) (fun _ => hN C1 M1 hR1) (fun c => absurd rfl c)
theorem lc_6 (hL : L ≤ 3072) (ht : 6 * t + 6 ≤ L) (hN : ∀ C M : zM, RR C M → lW g aC aM b L xs 1183 (lvL b aC aM t) [] C M) (hR : RR C M) : lW g aC aM b L xs 390 (lvL b aC aM t) [] C M := by
  refine l_aload dL_390 2 rfl ?_
  refine l_arg (k0 := 1) rfl (by omega) hL dL_391 dL_392 dL_393 dL_394 dL_395 ?_
  refine l_cI (j_text hR) rfl okX8_text rfl (zat 555 (by decide +kernel) rfl) rfl rfl (Nat.le_of_ble_eq_true rfl) dL_396 (fun x C1 hJ => ?_)
  refine l_aload dL_399 1 rfl ?_
  refine l_arg (k0 := 1) rfl (by omega) hL dL_400 dL_401 dL_402 dL_403 dL_404 ?_
  refine l_mI hJ rfl okX9_text rfl (zat 1392 (by decide +kernel) rfl) rfl rfl (Nat.le_of_ble_eq_true rfl) dL_405 (fun M1 hR1 => ?_)
  exact l_icmp_eq 1183 dL_408 (by decide) (fun _ => hN C1 M1 hR1) (fun c => absurd rfl c)
theorem lc_7 (hL : L ≤ 3072) (ht : 6 * t + 6 ≤ L) (hN : ∀ C M : zM, RR C M → lW g aC aM b L xs 1183 (lvL b aC aM t) [] C M) (hR : RR C M) : lW g aC aM b L xs 413 (lvL b aC aM t) [] C M := by
  refine l_aload dL_413 2 rfl ?_
  refine l_arg (k0 := 1) rfl (by omega) hL dL_414 dL_415 dL_416 dL_417 dL_418 ?_
  refine l_cI (j_fault hR) rfl okX8_fault rfl (zat 787 (by decide +kernel) rfl) rfl rfl (Nat.le_of_ble_eq_true rfl) dL_419 (fun x C1 hJ => ?_)
  refine l_aload dL_422 1 rfl ?_
  refine l_arg (k0 := 1) rfl (by omega) hL dL_423 dL_424 dL_425 dL_426 dL_427 ?_
  refine l_mI hJ rfl okX9_fault rfl (zat 1555 (by decide +kernel) rfl) rfl rfl (Nat.le_of_ble_eq_true rfl) dL_428 (fun M1 hR1 => ?_)
  exact l_icmp_eq 1183 dL_431 (by decide) (fun _ => hN C1 M1 hR1) (fun c => absurd rfl c)
theorem lc_8 (hL : L ≤ 3072) (ht : 6 * t + 6 ≤ L) (hN : ∀ C M : zM, RR C M → lW g aC aM b L xs 1183 (lvL b aC aM t) [] C M) (hR : RR C M) : lW g aC aM b L xs 436 (lvL b aC aM t) [] C M := by
  refine l_aload dL_436 2 rfl ?_
  refine l_arg (k0 := 1) rfl (by omega) hL dL_437 dL_438 dL_439 dL_440 dL_441 ?_
  refine l_cI (j_minutes hR) rfl okX8_minutes rfl (zat 791 (by decide +kernel) rfl) rfl rfl (Nat.le_of_ble_eq_true rfl) dL_442 (fun x C1 hJ => ?_)
  refine l_aload dL_445 1 rfl ?_
  refine l_arg (k0 := 1) rfl (by omega) hL dL_446 dL_447 dL_448 dL_449 dL_450 ?_
  refine l_mI hJ rfl okX9_minutes rfl (zat 1563 (by decide +kernel) rfl) rfl rfl (Nat.le_of_ble_eq_true rfl) dL_451 (fun M1 hR1 => ?_)
  exact l_icmp_eq 1183 dL_454 (by decide) (fun _ => hN C1 M1 hR1) (fun c => absurd rfl c)
theorem lc_9 (hL : L ≤ 3072) (ht : 6 * t + 6 ≤ L) (hN : ∀ C M : zM, RR C M → lW g aC aM b L xs 1183 (lvL b aC aM t) [] C M) (hR : RR C M) : lW g aC aM b L xs 459 (lvL b aC aM t) [] C M := by
  refine l_aload dL_459 2 rfl ?_
  refine l_arg (k0 := 1) rfl (by omega) hL dL_460 dL_461 dL_462 dL_463 dL_464 ?_
  refine l_arg (k0 := 2) rfl (by omega) hL dL_465 dL_466 dL_467 dL_468 dL_469 ?_
  refine l_cI (j_of hR) rfl okX8_of rfl (zat 896 (by decide +kernel) rfl) rfl rfl (Nat.le_of_ble_eq_true rfl) dL_470 (fun x C1 hJ => ?_)
  refine l_aload dL_473 1 rfl ?_
  refine l_arg (k0 := 1) rfl (by omega) hL dL_474 dL_475 dL_476 dL_477 dL_478 ?_
  refine l_arg (k0 := 2) rfl (by omega) hL dL_479 dL_480 dL_481 dL_482 dL_483 ?_
  refine l_mI hJ rfl okX9_of rfl (zat 1823 (by decide +kernel) rfl) rfl rfl (Nat.le_of_ble_eq_true rfl) dL_484 (fun M1 hR1 => ?_)
  exact l_icmp_eq 1183 dL_487 (by decide) (fun _ => hN C1 M1 hR1) (fun c => absurd rfl c)
theorem lc_10 (hL : L ≤ 3072) (ht : 6 * t + 6 ≤ L) (hN : ∀ C M : zM, RR C M → lW g aC aM b L xs 1183 (lvL b aC aM t) [] C M) (hR : RR C M) : lW g aC aM b L xs 492 (lvL b aC aM t) [] C M := by
  refine l_aload dL_492 2 rfl ?_
  refine l_arg (k0 := 1) rfl (by omega) hL dL_493 dL_494 dL_495 dL_496 dL_497 ?_
  refine l_arg (k0 := 2) rfl (by omega) hL dL_498 dL_499 dL_500 dL_501 dL_502 ?_
  refine l_cI (j_at hR) rfl okX8_at rfl (zat 904 (by decide +kernel) rfl) rfl rfl (Nat.le_of_ble_eq_true rfl) dL_503 (fun x C1 hJ => ?_)
  refine l_aload dL_506 1 rfl ?_
  refine l_arg (k0 := 1) rfl (by omega) hL dL_507 dL_508 dL_509 dL_510 dL_511 ?_
  refine l_arg (k0 := 2) rfl (by omega) hL dL_512 dL_513 dL_514 dL_515 dL_516 ?_
  refine l_mI hJ rfl okX9_at rfl (zat 1831 (by decide +kernel) rfl) rfl rfl (Nat.le_of_ble_eq_true rfl) dL_517 (fun M1 hR1 => ?_)
  exact l_icmp_eq 1183 dL_520 (by decide) (fun _ => hN C1 M1 hR1) (fun c => absurd rfl c)
theorem lc_11 (hL : L ≤ 3072) (ht : 6 * t + 6 ≤ L) (hN : ∀ C M : zM, RR C M → lW g aC aM b L xs 1183 (lvL b aC aM t) [] C M) (hR : RR C M) : lW g aC aM b L xs 525 (lvL b aC aM t) [] C M := by
  refine l_aload dL_525 2 rfl ?_
  refine l_arg (k0 := 1) rfl (by omega) hL dL_526 dL_527 dL_528 dL_529 dL_530 ?_
  refine l_arg (k0 := 2) rfl (by omega) hL dL_531 dL_532 dL_533 dL_534 dL_535 ?_
  refine l_cI (j_cut hR) rfl okX8_cut rfl (zat 911 (by decide +kernel) rfl) rfl rfl (Nat.le_of_ble_eq_true rfl) dL_536 (fun x C1 hJ => ?_)
  refine l_aload dL_539 1 rfl ?_
  refine l_arg (k0 := 1) rfl (by omega) hL dL_540 dL_541 dL_542 dL_543 dL_544 ?_
  refine l_arg (k0 := 2) rfl (by omega) hL dL_545 dL_546 dL_547 dL_548 dL_549 ?_
  refine l_mI hJ rfl okX9_cut rfl (zat 1835 (by decide +kernel) rfl) rfl rfl (Nat.le_of_ble_eq_true rfl) dL_550 (fun M1 hR1 => ?_)
  exact l_icmp_eq 1183 dL_553 (by decide) (fun _ => hN C1 M1 hR1) (fun c => absurd rfl c)
theorem lc_12 (hL : L ≤ 3072) (ht : 6 * t + 6 ≤ L) (hN : ∀ C M : zM, RR C M → lW g aC aM b L xs 1183 (lvL b aC aM t) [] C M) (hR : RR C M) : lW g aC aM b L xs 558 (lvL b aC aM t) [] C M := by
  refine l_aload dL_558 2 rfl ?_
  refine l_arg (k0 := 1) rfl (by omega) hL dL_559 dL_560 dL_561 dL_562 dL_563 ?_
  refine l_cI (j_letter hR) rfl okX8_letter rfl (zat 916 (by decide +kernel) rfl) rfl rfl (Nat.le_of_ble_eq_true rfl) dL_564 (fun x C1 hJ => ?_)
  refine l_aload dL_567 1 rfl ?_
  refine l_arg (k0 := 1) rfl (by omega) hL dL_568 dL_569 dL_570 dL_571 dL_572 ?_
  refine l_mI hJ rfl okX9_letter rfl (zat 1750 (by decide +kernel) rfl) rfl rfl (Nat.le_of_ble_eq_true rfl) dL_573 (fun M1 hR1 => ?_)
  exact l_icmp_eq 1183 dL_576 (by decide) (fun _ => hN C1 M1 hR1) (fun c => absurd rfl c)
theorem lc_13 (hL : L ≤ 3072) (ht : 6 * t + 6 ≤ L) (hN : ∀ C M : zM, RR C M → lW g aC aM b L xs 1183 (lvL b aC aM t) [] C M) (hR : RR C M) : lW g aC aM b L xs 581 (lvL b aC aM t) [] C M := by
  refine l_aload dL_581 2 rfl ?_
  refine l_arg (k0 := 1) rfl (by omega) hL dL_582 dL_583 dL_584 dL_585 dL_586 ?_
  refine l_arg (k0 := 2) rfl (by omega) hL dL_587 dL_588 dL_589 dL_590 dL_591 ?_
  refine l_cI (j_want hR) rfl okX8_want rfl (zat 924 (by decide +kernel) rfl) rfl rfl (Nat.le_of_ble_eq_true rfl) dL_592 (fun x C1 hJ => ?_)
  refine l_aload dL_595 1 rfl ?_
  refine l_arg (k0 := 1) rfl (by omega) hL dL_596 dL_597 dL_598 dL_599 dL_600 ?_
  refine l_arg (k0 := 2) rfl (by omega) hL dL_601 dL_602 dL_603 dL_604 dL_605 ?_
  refine l_mI hJ rfl okX9_want rfl (zat 1754 (by decide +kernel) rfl) rfl rfl (Nat.le_of_ble_eq_true rfl) dL_606 (fun M1 hR1 => ?_)
  exact l_icmp_eq 1183 dL_609 (by decide) (fun _ => hN C1 M1 hR1) (fun c => absurd rfl c)
theorem lc_14 (hL : L ≤ 3072) (ht : 6 * t + 6 ≤ L) (hN : ∀ C M : zM, RR C M → lW g aC aM b L xs 1183 (lvL b aC aM t) [] C M) (hR : RR C M) : lW g aC aM b L xs 614 (lvL b aC aM t) [] C M := by
  refine l_aload dL_614 2 rfl ?_
  refine l_arg (k0 := 1) rfl (by omega) hL dL_615 dL_616 dL_617 dL_618 dL_619 ?_
  refine l_arg (k0 := 2) rfl (by omega) hL dL_620 dL_621 dL_622 dL_623 dL_624 ?_
  refine l_cI (j_book hR) rfl okX8_book rfl (zat 947 (by decide +kernel) rfl) rfl rfl (Nat.le_of_ble_eq_true rfl) dL_625 (fun x C1 hJ => ?_)
  refine l_aload dL_628 1 rfl ?_
  refine l_arg (k0 := 1) rfl (by omega) hL dL_629 dL_630 dL_631 dL_632 dL_633 ?_
  refine l_arg (k0 := 2) rfl (by omega) hL dL_634 dL_635 dL_636 dL_637 dL_638 ?_
  refine l_mI hJ rfl okX9_book rfl (zat 1839 (by decide +kernel) rfl) rfl rfl (Nat.le_of_ble_eq_true rfl) dL_639 (fun M1 hR1 => ?_)
  exact l_icmp_eq 1183 dL_642 (by decide) (fun _ => hN C1 M1 hR1) (fun c => absurd rfl c)
theorem lc_15 (hL : L ≤ 3072) (ht : 6 * t + 6 ≤ L) (hN : ∀ C M : zM, RR C M → lW g aC aM b L xs 1183 (lvL b aC aM t) [] C M) (hR : RR C M) : lW g aC aM b L xs 647 (lvL b aC aM t) [] C M := by
  refine l_aload dL_647 2 rfl ?_
  refine l_arg (k0 := 1) rfl (by omega) hL dL_648 dL_649 dL_650 dL_651 dL_652 ?_
  refine l_cI (j_read hR) rfl okX8_read rfl (zat 951 (by decide +kernel) rfl) rfl rfl (Nat.le_of_ble_eq_true rfl) dL_653 (fun x C1 hJ => ?_)
  refine l_aload dL_656 1 rfl ?_
  refine l_arg (k0 := 1) rfl (by omega) hL dL_657 dL_658 dL_659 dL_660 dL_661 ?_
  refine l_mI hJ rfl okX9_read rfl (zat 1650 (by decide +kernel) rfl) rfl rfl (Nat.le_of_ble_eq_true rfl) dL_662 (fun M1 hR1 => ?_)
  exact l_icmp_eq 1183 dL_665 (by decide) (fun _ => hN C1 M1 hR1) (fun c => absurd rfl c)
theorem lc_16 (hL : L ≤ 3072) (ht : 6 * t + 6 ≤ L) (hN : ∀ C M : zM, RR C M → lW g aC aM b L xs 1183 (lvL b aC aM t) [] C M) (hR : RR C M) : lW g aC aM b L xs 670 (lvL b aC aM t) [] C M := by
  refine l_aload dL_670 2 rfl ?_
  refine l_arg (k0 := 1) rfl (by omega) hL dL_671 dL_672 dL_673 dL_674 dL_675 ?_
  refine l_cL (j_goes hR) rfl okX8_goes rfl (zat 957 (by decide +kernel) rfl) rfl rfl (Nat.le_of_ble_eq_true rfl) dL_676 (fun x C1 hJ => ?_)
  refine l_aload dL_679 1 rfl ?_
  refine l_arg (k0 := 1) rfl (by omega) hL dL_680 dL_681 dL_682 dL_683 dL_684 ?_
  refine l_mL hJ rfl okX9_goes rfl (zat 1662 (by decide +kernel) rfl) rfl rfl (Nat.le_of_ble_eq_true rfl) dL_685 (fun M1 hR1 => ?_)
  refine l_lcmp dL_688 ?_
  exact l_if_eq 1183 dL_689 (by decide) (fun _ => hN C1 M1 hR1) (fun c => absurd lc_cmp c)
theorem lc_17 (hL : L ≤ 3072) (ht : 6 * t + 6 ≤ L) (hN : ∀ C M : zM, RR C M → lW g aC aM b L xs 1183 (lvL b aC aM t) [] C M) (hR : RR C M) : lW g aC aM b L xs 694 (lvL b aC aM t) [] C M := by
  refine l_aload dL_694 2 rfl ?_
  refine l_arg (k0 := 1) rfl (by omega) hL dL_695 dL_696 dL_697 dL_698 dL_699 ?_
  refine l_cI (j_wants hR) rfl okX8_wants rfl (zat 970 (by decide +kernel) rfl) rfl rfl (Nat.le_of_ble_eq_true rfl) dL_700 (fun x C1 hJ => ?_)
  refine l_aload dL_703 1 rfl ?_
  refine l_arg (k0 := 1) rfl (by omega) hL dL_704 dL_705 dL_706 dL_707 dL_708 ?_
  refine l_mI hJ rfl okX9_wants rfl (zat 1679 (by decide +kernel) rfl) rfl rfl (Nat.le_of_ble_eq_true rfl) dL_709 (fun M1 hR1 => ?_)
  exact l_icmp_eq 1183 dL_712 (by decide) (fun _ => hN C1 M1 hR1) (fun c => absurd rfl c)
theorem lc_18 (hL : L ≤ 3072) (ht : 6 * t + 6 ≤ L) (hN : ∀ C M : zM, RR C M → lW g aC aM b L xs 1183 (lvL b aC aM t) [] C M) (hR : RR C M) : lW g aC aM b L xs 717 (lvL b aC aM t) [] C M := by
  refine l_aload dL_717 2 rfl ?_
  refine l_arg (k0 := 1) rfl (by omega) hL dL_718 dL_719 dL_720 dL_721 dL_722 ?_
  refine l_cI (j_spoilt hR) rfl okX8_spoilt rfl (zat 985 (by decide +kernel) rfl) rfl rfl (Nat.le_of_ble_eq_true rfl) dL_723 (fun x C1 hJ => ?_)
  refine l_aload dL_726 1 rfl ?_
  refine l_arg (k0 := 1) rfl (by omega) hL dL_727 dL_728 dL_729 dL_730 dL_731 ?_
  refine l_mI hJ rfl okX9_spoilt rfl (zat 1691 (by decide +kernel) rfl) rfl rfl (Nat.le_of_ble_eq_true rfl) dL_732 (fun M1 hR1 => ?_)
  exact l_icmp_eq 1183 dL_735 (by decide) (fun _ => hN C1 M1 hR1) (fun c => absurd rfl c)
theorem lc_19 (hL : L ≤ 3072) (ht : 6 * t + 6 ≤ L) (hN : ∀ C M : zM, RR C M → lW g aC aM b L xs 1183 (lvL b aC aM t) [] C M) (hR : RR C M) : lW g aC aM b L xs 740 (lvL b aC aM t) [] C M := by
  refine l_aload dL_740 2 rfl ?_
  refine l_arg (k0 := 1) rfl (by omega) hL dL_741 dL_742 dL_743 dL_744 dL_745 ?_
  refine l_arg (k0 := 2) rfl (by omega) hL dL_746 dL_747 dL_748 dL_749 dL_750 ?_
  refine l_i2l dL_751 ?_
  refine l_bipush (v := 32) dL_752 (by decide +kernel) ?_
  refine l_lshl dL_754 ?_
  refine l_arg (k0 := 3) rfl (by omega) hL dL_755 dL_756 dL_757 dL_758 dL_759 ?_
  refine l_i2l dL_760 ?_
  refine l_ldc2 (v := 4294967295) dL_761 (List.mem_of_getElem? (i := 1855) (by decide +kernel)) ?_
  refine l_land dL_764 ?_
  refine l_lor dL_765 ?_
  refine l_arg (k0 := 4) rfl (by omega) hL dL_766 dL_767 dL_768 dL_769 dL_770 ?_
  refine l_cI (j_route hR) rfl okX8_route rfl (zat 992 (by decide +kernel) rfl) rfl rfl (Nat.le_of_ble_eq_true rfl) dL_771 (fun x C1 hJ => ?_)
  refine l_aload dL_774 1 rfl ?_
  refine l_arg (k0 := 1) rfl (by omega) hL dL_775 dL_776 dL_777 dL_778 dL_779 ?_
  refine l_arg (k0 := 2) rfl (by omega) hL dL_780 dL_781 dL_782 dL_783 dL_784 ?_
  refine l_i2l dL_785 ?_
  refine l_bipush (v := 32) dL_786 (by decide +kernel) ?_
  refine l_lshl dL_788 ?_
  refine l_arg (k0 := 3) rfl (by omega) hL dL_789 dL_790 dL_791 dL_792 dL_793 ?_
  refine l_i2l dL_794 ?_
  refine l_ldc2 (v := 4294967295) dL_795 (List.mem_of_getElem? (i := 1855) (by decide +kernel)) ?_
  refine l_land dL_798 ?_
  refine l_lor dL_799 ?_
  refine l_arg (k0 := 4) rfl (by omega) hL dL_800 dL_801 dL_802 dL_803 dL_804 ?_
  refine l_mI hJ rfl okX9_route rfl (zat 1702 (by decide +kernel) rfl) rfl rfl (Nat.le_of_ble_eq_true rfl) dL_805 (fun M1 hR1 => ?_)
  exact l_icmp_eq 1183 dL_808 (by decide) (fun _ => hN C1 M1 hR1) (fun c => absurd rfl c)
theorem lc_20 (hL : L ≤ 3072) (ht : 6 * t + 6 ≤ L) (hN : ∀ C M : zM, RR C M → lW g aC aM b L xs 1183 (lvL b aC aM t) [] C M) (hR : RR C M) : lW g aC aM b L xs 813 (lvL b aC aM t) [] C M := by
  refine l_aload dL_813 2 rfl ?_
  refine l_arg (k0 := 1) rfl (by omega) hL dL_814 dL_815 dL_816 dL_817 dL_818 ?_
  refine l_i2l dL_819 ?_
  refine l_bipush (v := 32) dL_820 (by decide +kernel) ?_
  refine l_lshl dL_822 ?_
  refine l_arg (k0 := 2) rfl (by omega) hL dL_823 dL_824 dL_825 dL_826 dL_827 ?_
  refine l_i2l dL_828 ?_
  refine l_ldc2 (v := 4294967295) dL_829 (List.mem_of_getElem? (i := 1855) (by decide +kernel)) ?_
  refine l_land dL_832 ?_
  refine l_lor dL_833 ?_
  refine l_arg (k0 := 3) rfl (by omega) hL dL_834 dL_835 dL_836 dL_837 dL_838 ?_
  refine l_cI (j_soonest hR) rfl okX8_soonest rfl (zat 1039 (by decide +kernel) rfl) rfl rfl (Nat.le_of_ble_eq_true rfl) dL_839 (fun x C1 hJ => ?_)
  refine l_aload dL_842 1 rfl ?_
  refine l_arg (k0 := 1) rfl (by omega) hL dL_843 dL_844 dL_845 dL_846 dL_847 ?_
  refine l_i2l dL_848 ?_
  refine l_bipush (v := 32) dL_849 (by decide +kernel) ?_
  refine l_lshl dL_851 ?_
  refine l_arg (k0 := 2) rfl (by omega) hL dL_852 dL_853 dL_854 dL_855 dL_856 ?_
  refine l_i2l dL_857 ?_
  refine l_ldc2 (v := 4294967295) dL_858 (List.mem_of_getElem? (i := 1855) (by decide +kernel)) ?_
  refine l_land dL_861 ?_
  refine l_lor dL_862 ?_
  refine l_arg (k0 := 3) rfl (by omega) hL dL_863 dL_864 dL_865 dL_866 dL_867 ?_
  refine l_mI hJ rfl okX9_soonest rfl (zat 1726 (by decide +kernel) rfl) rfl rfl (Nat.le_of_ble_eq_true rfl) dL_868 (fun M1 hR1 => ?_)
  exact l_icmp_eq 1183 dL_871 (by decide) (fun _ => hN C1 M1 hR1) (fun c => absurd rfl c)
theorem lc_21 (hL : L ≤ 3072) (ht : 6 * t + 6 ≤ L) (hN : ∀ C M : zM, RR C M → lW g aC aM b L xs 1183 (lvL b aC aM t) [] C M) (hR : RR C M) : lW g aC aM b L xs 876 (lvL b aC aM t) [] C M := by
  refine l_aload dL_876 2 rfl ?_
  refine l_arg (k0 := 1) rfl (by omega) hL dL_877 dL_878 dL_879 dL_880 dL_881 ?_
  refine l_arg (k0 := 2) rfl (by omega) hL dL_882 dL_883 dL_884 dL_885 dL_886 ?_
  refine l_cI (j_beneath hR) rfl okX8_beneath rfl (zat 1080 (by decide +kernel) rfl) rfl rfl (Nat.le_of_ble_eq_true rfl) dL_887 (fun x C1 hJ => ?_)
  refine l_aload dL_890 1 rfl ?_
  refine l_arg (k0 := 1) rfl (by omega) hL dL_891 dL_892 dL_893 dL_894 dL_895 ?_
  refine l_arg (k0 := 2) rfl (by omega) hL dL_896 dL_897 dL_898 dL_899 dL_900 ?_
  refine l_mI hJ rfl okX9_beneath rfl (zat 1758 (by decide +kernel) rfl) rfl rfl (Nat.le_of_ble_eq_true rfl) dL_901 (fun M1 hR1 => ?_)
  exact l_icmp_eq 1183 dL_904 (by decide) (fun _ => hN C1 M1 hR1) (fun c => absurd rfl c)
theorem lc_22 (hL : L ≤ 3072) (ht : 6 * t + 6 ≤ L) (hN : ∀ C M : zM, RR C M → lW g aC aM b L xs 1183 (lvL b aC aM t) [] C M) (hR : RR C M) : lW g aC aM b L xs 909 (lvL b aC aM t) [] C M := by
  refine l_aload dL_909 2 rfl ?_
  refine l_arg (k0 := 1) rfl (by omega) hL dL_910 dL_911 dL_912 dL_913 dL_914 ?_
  refine l_cI (j_lookAt hR) rfl okX8_lookAt rfl (zat 1085 (by decide +kernel) rfl) rfl rfl (Nat.le_of_ble_eq_true rfl) dL_915 (fun x C1 hJ => ?_)
  refine l_aload dL_918 1 rfl ?_
  refine l_arg (k0 := 1) rfl (by omega) hL dL_919 dL_920 dL_921 dL_922 dL_923 ?_
  refine l_mI hJ rfl okX9_lookAt rfl (zat 1762 (by decide +kernel) rfl) rfl rfl (Nat.le_of_ble_eq_true rfl) dL_924 (fun M1 hR1 => ?_)
  exact l_icmp_eq 1183 dL_927 (by decide) (fun _ => hN C1 M1 hR1) (fun c => absurd rfl c)
theorem lc_23 (hL : L ≤ 3072) (ht : 6 * t + 6 ≤ L) (hN : ∀ C M : zM, RR C M → lW g aC aM b L xs 1183 (lvL b aC aM t) [] C M) (hR : RR C M) : lW g aC aM b L xs 932 (lvL b aC aM t) [] C M := by
  refine l_aload dL_932 2 rfl ?_
  refine l_arg (k0 := 1) rfl (by omega) hL dL_933 dL_934 dL_935 dL_936 dL_937 ?_
  refine l_arg (k0 := 2) rfl (by omega) hL dL_938 dL_939 dL_940 dL_941 dL_942 ?_
  refine l_cI (j_who hR) rfl okX8_who rfl (zat 1098 (by decide +kernel) rfl) rfl rfl (Nat.le_of_ble_eq_true rfl) dL_943 (fun x C1 hJ => ?_)
  refine l_aload dL_946 1 rfl ?_
  refine l_arg (k0 := 1) rfl (by omega) hL dL_947 dL_948 dL_949 dL_950 dL_951 ?_
  refine l_arg (k0 := 2) rfl (by omega) hL dL_952 dL_953 dL_954 dL_955 dL_956 ?_
  refine l_mI hJ rfl okX9_who rfl (zat 1773 (by decide +kernel) rfl) rfl rfl (Nat.le_of_ble_eq_true rfl) dL_957 (fun M1 hR1 => ?_)
  exact l_icmp_eq 1183 dL_960 (by decide) (fun _ => hN C1 M1 hR1) (fun c => absurd rfl c)
theorem lc_24 (hL : L ≤ 3072) (ht : 6 * t + 6 ≤ L) (hN : ∀ C M : zM, RR C M → lW g aC aM b L xs 1183 (lvL b aC aM t) [] C M) (hR : RR C M) : lW g aC aM b L xs 965 (lvL b aC aM t) [] C M := by
  refine l_aload dL_965 2 rfl ?_
  refine l_arg (k0 := 1) rfl (by omega) hL dL_966 dL_967 dL_968 dL_969 dL_970 ?_
  refine l_arg (k0 := 2) rfl (by omega) hL dL_971 dL_972 dL_973 dL_974 dL_975 ?_
  refine l_cI (j_holds hR) rfl okX8_holds rfl (zat 1106 (by decide +kernel) rfl) rfl rfl (Nat.le_of_ble_eq_true rfl) dL_976 (fun x C1 hJ => ?_)
  refine l_aload dL_979 1 rfl ?_
  refine l_arg (k0 := 1) rfl (by omega) hL dL_980 dL_981 dL_982 dL_983 dL_984 ?_
  refine l_arg (k0 := 2) rfl (by omega) hL dL_985 dL_986 dL_987 dL_988 dL_989 ?_
  refine l_mI hJ rfl okX9_holds rfl (zat 1781 (by decide +kernel) rfl) rfl rfl (Nat.le_of_ble_eq_true rfl) dL_990 (fun M1 hR1 => ?_)
  exact l_icmp_eq 1183 dL_993 (by decide) (fun _ => hN C1 M1 hR1) (fun c => absurd rfl c)
theorem lc_25 (hL : L ≤ 3072) (ht : 6 * t + 6 ≤ L) (hN : ∀ C M : zM, RR C M → lW g aC aM b L xs 1183 (lvL b aC aM t) [] C M) (hR : RR C M) : lW g aC aM b L xs 998 (lvL b aC aM t) [] C M := by
  refine l_aload dL_998 2 rfl ?_
  refine l_arg (k0 := 1) rfl (by omega) hL dL_999 dL_1000 dL_1001 dL_1002 dL_1003 ?_
  refine l_arg (k0 := 2) rfl (by omega) hL dL_1004 dL_1005 dL_1006 dL_1007 dL_1008 ?_
  refine l_cI (j_parts hR) rfl okX8_parts rfl (zat 1115 (by decide +kernel) rfl) rfl rfl (Nat.le_of_ble_eq_true rfl) dL_1009 (fun x C1 hJ => ?_)
  refine l_aload dL_1012 1 rfl ?_
  refine l_arg (k0 := 1) rfl (by omega) hL dL_1013 dL_1014 dL_1015 dL_1016 dL_1017 ?_
  refine l_arg (k0 := 2) rfl (by omega) hL dL_1018 dL_1019 dL_1020 dL_1021 dL_1022 ?_
  refine l_mI hJ rfl okX9_parts rfl (zat 1789 (by decide +kernel) rfl) rfl rfl (Nat.le_of_ble_eq_true rfl) dL_1023 (fun M1 hR1 => ?_)
  exact l_icmp_eq 1183 dL_1026 (by decide) (fun _ => hN C1 M1 hR1) (fun c => absurd rfl c)
theorem lc_26 (hL : L ≤ 3072) (ht : 6 * t + 6 ≤ L) (hN : ∀ C M : zM, RR C M → lW g aC aM b L xs 1183 (lvL b aC aM t) [] C M) (hR : RR C M) : lW g aC aM b L xs 1031 (lvL b aC aM t) [] C M := by
  refine l_aload dL_1031 2 rfl ?_
  refine l_arg (k0 := 1) rfl (by omega) hL dL_1032 dL_1033 dL_1034 dL_1035 dL_1036 ?_
  refine l_arg (k0 := 2) rfl (by omega) hL dL_1037 dL_1038 dL_1039 dL_1040 dL_1041 ?_
  refine l_arg (k0 := 3) rfl (by omega) hL dL_1042 dL_1043 dL_1044 dL_1045 dL_1046 ?_
  refine l_cI (j_yet hR) rfl okX8_yet rfl (zat 1156 (by decide +kernel) rfl) rfl rfl (Nat.le_of_ble_eq_true rfl) dL_1047 (fun x C1 hJ => ?_)
  refine l_aload dL_1050 1 rfl ?_
  refine l_arg (k0 := 1) rfl (by omega) hL dL_1051 dL_1052 dL_1053 dL_1054 dL_1055 ?_
  refine l_arg (k0 := 2) rfl (by omega) hL dL_1056 dL_1057 dL_1058 dL_1059 dL_1060 ?_
  refine l_arg (k0 := 3) rfl (by omega) hL dL_1061 dL_1062 dL_1063 dL_1064 dL_1065 ?_
  refine l_mI hJ rfl okX9_yet rfl (zat 1813 (by decide +kernel) rfl) rfl rfl (Nat.le_of_ble_eq_true rfl) dL_1066 (fun M1 hR1 => ?_)
  exact l_icmp_eq 1183 dL_1069 (by decide) (fun _ => hN C1 M1 hR1) (fun c => absurd rfl c)
theorem lc_27 (hL : L ≤ 3072) (ht : 6 * t + 6 ≤ L) (hN : ∀ C M : zM, RR C M → lW g aC aM b L xs 1183 (lvL b aC aM t) [] C M) (hR : RR C M) : lW g aC aM b L xs 1074 (lvL b aC aM t) [] C M := by
  refine l_aload dL_1074 2 rfl ?_
  refine l_arg (k0 := 1) rfl (by omega) hL dL_1075 dL_1076 dL_1077 dL_1078 dL_1079 ?_
  refine l_arg (k0 := 2) rfl (by omega) hL dL_1080 dL_1081 dL_1082 dL_1083 dL_1084 ?_
  refine l_cL (j_heard hR) rfl okX8_heard rfl (zat 1166 (by decide +kernel) rfl) rfl rfl (Nat.le_of_ble_eq_true rfl) dL_1085 (fun x C1 hJ => ?_)
  refine l_aload dL_1088 1 rfl ?_
  refine l_arg (k0 := 1) rfl (by omega) hL dL_1089 dL_1090 dL_1091 dL_1092 dL_1093 ?_
  refine l_arg (k0 := 2) rfl (by omega) hL dL_1094 dL_1095 dL_1096 dL_1097 dL_1098 ?_
  refine l_mL hJ rfl okX9_heard rfl (zat 1819 (by decide +kernel) rfl) rfl rfl (Nat.le_of_ble_eq_true rfl) dL_1099 (fun M1 hR1 => ?_)
  refine l_lcmp dL_1102 ?_
  exact l_if_eq 1183 dL_1103 (by decide) (fun _ => hN C1 M1 hR1) (fun c => absurd lc_cmp c)
theorem lc_28 (hL : L ≤ 3072) (ht : 6 * t + 6 ≤ L) (hN : ∀ C M : zM, RR C M → lW g aC aM b L xs 1183 (lvL b aC aM t) [] C M) (hR : RR C M) : lW g aC aM b L xs 1108 (lvL b aC aM t) [] C M := by
  refine l_aload dL_1108 2 rfl ?_
  refine l_cZ (j_undo hR) rfl okX8_undo rfl (zat 1170 (by decide +kernel) rfl) rfl rfl (Nat.le_of_ble_eq_true rfl) dL_1109 (fun x C1 hJ => ?_)
  refine l_aload dL_1112 1 rfl ?_
  refine l_mZ hJ rfl okX9_undo rfl (zat 1559 (by decide +kernel) rfl) rfl rfl (Nat.le_of_ble_eq_true rfl) dL_1113 (fun M1 hR1 => ?_)
  exact l_icmp_eq 1183 dL_1116 (by decide) (fun _ => hN C1 M1 hR1) (fun c => absurd rfl c)
theorem lc_29 (hL : L ≤ 3072) (ht : 6 * t + 6 ≤ L) (hN : ∀ C M : zM, RR C M → lW g aC aM b L xs 1183 (lvL b aC aM t) [] C M) (hR : RR C M) : lW g aC aM b L xs 1121 (lvL b aC aM t) [] C M := by
  have br : ∀ (p : Nat) (st : List Value) (C M : zM), (p = 1127 ∨ p = 1144) → lW g aC aM b L xs (p + 8) (lvL b aC aM t) (.int (zbI (decide (xs (6 * t + 1) ≠ 0))) :: st) C M → lW g aC aM b L xs p (lvL b aC aM t) (.int (xs (6 * t + 1)) :: st) C M := by
    intro p st C M hp k
    rcases hp with rfl | rfl
    · refine l_if_eq 1134 dL_1127 (by decide) (fun c => ?_) (fun c => ?_)
      · refine l_iconst (v := 0) dL_1134 (by decide +kernel) ?_
        rw [show decide (xs (6 * t + 1) ≠ 0) = false from decide_eq_false (fun z => z c)] at k
        exact k
      · refine l_iconst (v := 1) dL_1130 (by decide +kernel) ?_
        refine l_goto 1135 dL_1131 (by decide) ?_
        rw [show decide (xs (6 * t + 1) ≠ 0) = true from decide_eq_true c] at k
        exact k
    · refine l_if_eq 1151 dL_1144 (by decide) (fun c => ?_) (fun c => ?_)
      · refine l_iconst (v := 0) dL_1151 (by decide +kernel) ?_
        rw [show decide (xs (6 * t + 1) ≠ 0) = false from decide_eq_false (fun z => z c)] at k
        exact k
      · refine l_iconst (v := 1) dL_1147 (by decide +kernel) ?_
        refine l_goto 1152 dL_1148 (by decide) ?_
        rw [show decide (xs (6 * t + 1) ≠ 0) = true from decide_eq_true c] at k
        exact k
  refine l_aload dL_1121 2 rfl ?_
  refine l_arg (k0 := 1) rfl (by omega) hL dL_1122 dL_1123 dL_1124 dL_1125 dL_1126 ?_
  refine br 1127 _ _ _ (Or.inl rfl) ?_
  refine l_cZ (j_image hR) rfl okX8_image rfl (zat 1174 (by decide +kernel) rfl) rfl rfl (Nat.le_of_ble_eq_true rfl) dL_1135 (fun x C1 hJ => ?_)
  refine l_aload dL_1138 1 rfl ?_
  refine l_arg (k0 := 1) rfl (by omega) hL dL_1139 dL_1140 dL_1141 dL_1142 dL_1143 ?_
  refine br 1144 _ _ _ (Or.inr rfl) ?_
  refine l_mZ hJ rfl okX9_image rfl (zat 1843 (by decide +kernel) rfl) rfl rfl (Nat.le_of_ble_eq_true rfl) dL_1152 (fun M1 hR1 => ?_)
  exact l_icmp_eq 1183 dL_1155 (by decide) (fun _ => hN C1 M1 hR1) (fun c => absurd rfl c)
theorem lc_30 (hL : L ≤ 3072) (ht : 6 * t + 6 ≤ L) (hN : ∀ C M : zM, RR C M → lW g aC aM b L xs 1183 (lvL b aC aM t) [] C M) (hR : RR C M) : lW g aC aM b L xs 1160 (lvL b aC aM t) [] C M := by
  refine l_aload dL_1160 2 rfl ?_
  refine l_arg (k0 := 1) rfl (by omega) hL dL_1161 dL_1162 dL_1163 dL_1164 dL_1165 ?_
  refine l_cI (j_look hR) rfl okX8_look rfl (zat 1187 (by decide +kernel) rfl) rfl rfl (Nat.le_of_ble_eq_true rfl) dL_1166 (fun x C1 hJ => ?_)
  refine l_aload dL_1169 1 rfl ?_
  refine l_arg (k0 := 1) rfl (by omega) hL dL_1170 dL_1171 dL_1172 dL_1173 dL_1174 ?_
  refine l_mI hJ rfl okX9_look rfl (zat 1847 (by decide +kernel) rfl) rfl rfl (Nat.le_of_ble_eq_true rfl) dL_1175 (fun M1 hR1 => ?_)
  exact l_icmp_eq 1183 dL_1178 (by decide) (fun _ => hN C1 M1 hR1) (fun c => absurd rfl c)
end LC
