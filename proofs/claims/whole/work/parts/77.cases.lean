/-! THE LAW: its cases -/
section LCS
variable {p : Program} {l : Launch} {e : Env} {s : State} {m : MethodId} {below : List Frame} {meth : Method} {c : Code} {b L : Nat} {xs : Nat → Int32} {g : Gam} {M N : Mem} {i : Nat}
theorem L_mark (X : Lc p s m meth c b L xs g) (hR : Rel M N) (hi : i + 6 ≤ L) (kk : ∀ M1 N1 : Mem, Rel M1 N1 → LW p l e s m below meth c b g M1 N1 1680 (Lv b s.heap.size i) []) : LW p l e s m below meth c b g M N 232 (Lv b s.heap.size i) [] := by
  obtain ⟨v, M1, N1, e1, e2, hR1⟩ := q_mark hR (xs (i + 1)) (xs (i + 2)) (xs (i + 3)) (xs (i + 4))
  refine L_aload (pc := 232) X 1 2 rfl dL_law_232 ?_
  refine L_arg (pc := 233) (j := 1) X rfl rfl (by omega) dL_law_233 dL_law_234 dL_law_235 dL_law_236 dL_law_237 ?_
  refine L_arg (pc := 238) (j := 2) X rfl rfl (by omega) dL_law_238 dL_law_239 dL_law_240 dL_law_241 dL_law_242 ?_
  refine L_arg (pc := 243) (j := 3) X rfl rfl (by omega) dL_law_243 dL_law_244 dL_law_245 dL_law_246 dL_law_247 ?_
  refine L_arg (pc := 248) (j := 4) X rfl rfl (by omega) dL_law_248 dL_law_249 dL_law_250 dL_law_251 dL_law_252 ?_
  refine L_callC (pc := 253) (Y' := m_X9_mark) X yf_X9_mark rfl (by decide) (ok_X9_mark _ _ _ _ _ _ e1) tw_467 tw_468 tw_466 rfl rfl (Nat.le_of_ble_eq_true rfl) dL_law_253 ?_
  refine L_aload (pc := 256) X 2 1 rfl dL_law_256 ?_
  refine L_arg (pc := 257) (j := 1) X rfl rfl (by omega) dL_law_257 dL_law_258 dL_law_259 dL_law_260 dL_law_261 ?_
  refine L_arg (pc := 262) (j := 2) X rfl rfl (by omega) dL_law_262 dL_law_263 dL_law_264 dL_law_265 dL_law_266 ?_
  refine L_arg (pc := 267) (j := 3) X rfl rfl (by omega) dL_law_267 dL_law_268 dL_law_269 dL_law_270 dL_law_271 ?_
  refine L_arg (pc := 272) (j := 4) X rfl rfl (by omega) dL_law_272 dL_law_273 dL_law_274 dL_law_275 dL_law_276 ?_
  refine L_callM (pc := 277) (Y' := m_X10_mark) X yf_X10_mark rfl (by decide) (ok_X10_mark _ _ _ _ _ _ e2) tw_1213 tw_1214 tw_1212 rfl rfl (Nat.le_of_ble_eq_true rfl) dL_law_277 ?_
  exact L_eq (pc := 280) X dL_law_280 (by decide) (kk _ _ hR1)
theorem L_told (X : Lc p s m meth c b L xs g) (hR : Rel M N) (hi : i + 6 ≤ L) (kk : ∀ M1 N1 : Mem, Rel M1 N1 → LW p l e s m below meth c b g M1 N1 1680 (Lv b s.heap.size i) []) : LW p l e s m below meth c b g M N 285 (Lv b s.heap.size i) [] := by
  obtain ⟨v, M1, N1, e1, e2, hR1⟩ := q_told hR (xs (i + 1)) (xs (i + 2))
  refine L_aload (pc := 285) X 1 2 rfl dL_law_285 ?_
  refine L_arg (pc := 286) (j := 1) X rfl rfl (by omega) dL_law_286 dL_law_287 dL_law_288 dL_law_289 dL_law_290 ?_
  refine L_arg (pc := 291) (j := 2) X rfl rfl (by omega) dL_law_291 dL_law_292 dL_law_293 dL_law_294 dL_law_295 ?_
  refine L_callC (pc := 296) (Y' := m_X9_told) X yf_X9_told rfl (by decide) (ok_X9_told _ _ _ _ e1) tw_494 tw_495 tw_493 rfl rfl (Nat.le_of_ble_eq_true rfl) dL_law_296 ?_
  refine L_aload (pc := 299) X 2 1 rfl dL_law_299 ?_
  refine L_arg (pc := 300) (j := 1) X rfl rfl (by omega) dL_law_300 dL_law_301 dL_law_302 dL_law_303 dL_law_304 ?_
  refine L_arg (pc := 305) (j := 2) X rfl rfl (by omega) dL_law_305 dL_law_306 dL_law_307 dL_law_308 dL_law_309 ?_
  refine L_callM (pc := 310) (Y' := m_X10_told) X yf_X10_told rfl (by decide) (ok_X10_told _ _ _ _ e2) tw_1235 tw_1236 tw_1234 rfl rfl (Nat.le_of_ble_eq_true rfl) dL_law_310 ?_
  exact L_eq (pc := 313) X dL_law_313 (by decide) (kk _ _ hR1)
theorem L_as (X : Lc p s m meth c b L xs g) (hR : Rel M N) (hi : i + 6 ≤ L) (kk : ∀ M1 N1 : Mem, Rel M1 N1 → LW p l e s m below meth c b g M1 N1 1680 (Lv b s.heap.size i) []) : LW p l e s m below meth c b g M N 318 (Lv b s.heap.size i) [] := by
  obtain ⟨v, M1, N1, e1, e2, hR1⟩ := q_as hR (xs (i + 1)) (xs (i + 2))
  refine L_aload (pc := 318) X 1 2 rfl dL_law_318 ?_
  refine L_arg (pc := 319) (j := 1) X rfl rfl (by omega) dL_law_319 dL_law_320 dL_law_321 dL_law_322 dL_law_323 ?_
  refine L_arg (pc := 324) (j := 2) X rfl rfl (by omega) dL_law_324 dL_law_325 dL_law_326 dL_law_327 dL_law_328 ?_
  refine L_callC (pc := 329) (Y' := m_X9_as) X yf_X9_as rfl (by decide) (ok_X9_as _ _ _ _ e1) tw_551 tw_552 tw_550 rfl rfl (Nat.le_of_ble_eq_true rfl) dL_law_329 ?_
  refine L_aload (pc := 332) X 2 1 rfl dL_law_332 ?_
  refine L_arg (pc := 333) (j := 1) X rfl rfl (by omega) dL_law_333 dL_law_334 dL_law_335 dL_law_336 dL_law_337 ?_
  refine L_arg (pc := 338) (j := 2) X rfl rfl (by omega) dL_law_338 dL_law_339 dL_law_340 dL_law_341 dL_law_342 ?_
  refine L_callM (pc := 343) (Y' := m_X10_as) X yf_X10_as rfl (by decide) (ok_X10_as _ _ _ _ e2) tw_1296 tw_1297 tw_1295 rfl rfl (Nat.le_of_ble_eq_true rfl) dL_law_343 ?_
  exact L_eq (pc := 346) X dL_law_346 (by decide) (kk _ _ hR1)
theorem L_put (X : Lc p s m meth c b L xs g) (hR : Rel M N) (hi : i + 6 ≤ L) (kk : ∀ M1 N1 : Mem, Rel M1 N1 → LW p l e s m below meth c b g M1 N1 1680 (Lv b s.heap.size i) []) : LW p l e s m below meth c b g M N 351 (Lv b s.heap.size i) [] := by
  obtain ⟨v, M1, N1, e1, e2, hR1⟩ := q_put hR (xs (i + 1)) (xs (i + 2))
  refine L_aload (pc := 351) X 1 2 rfl dL_law_351 ?_
  refine L_arg (pc := 352) (j := 1) X rfl rfl (by omega) dL_law_352 dL_law_353 dL_law_354 dL_law_355 dL_law_356 ?_
  refine L_arg (pc := 357) (j := 2) X rfl rfl (by omega) dL_law_357 dL_law_358 dL_law_359 dL_law_360 dL_law_361 ?_
  refine L_callC (pc := 362) (Y' := m_X9_put) X yf_X9_put rfl (by decide) (ok_X9_put _ _ _ _ e1) tw_559 tw_560 tw_558 rfl rfl (Nat.le_of_ble_eq_true rfl) dL_law_362 ?_
  refine L_aload (pc := 365) X 2 1 rfl dL_law_365 ?_
  refine L_arg (pc := 366) (j := 1) X rfl rfl (by omega) dL_law_366 dL_law_367 dL_law_368 dL_law_369 dL_law_370 ?_
  refine L_arg (pc := 371) (j := 2) X rfl rfl (by omega) dL_law_371 dL_law_372 dL_law_373 dL_law_374 dL_law_375 ?_
  refine L_callM (pc := 376) (Y' := m_X10_put) X yf_X10_put rfl (by decide) (ok_X10_put _ _ _ _ e2) tw_1304 tw_1305 tw_1303 rfl rfl (Nat.le_of_ble_eq_true rfl) dL_law_376 ?_
  exact L_eq (pc := 379) X dL_law_379 (by decide) (kk _ _ hR1)
theorem L_name (X : Lc p s m meth c b L xs g) (hR : Rel M N) (hi : i + 6 ≤ L) (kk : ∀ M1 N1 : Mem, Rel M1 N1 → LW p l e s m below meth c b g M1 N1 1680 (Lv b s.heap.size i) []) : LW p l e s m below meth c b g M N 384 (Lv b s.heap.size i) [] := by
  obtain ⟨v, M1, N1, e1, e2, hR1⟩ := q_name hR (xs (i + 1)) (xs (i + 2))
  refine L_aload (pc := 384) X 1 2 rfl dL_law_384 ?_
  refine L_arg (pc := 385) (j := 1) X rfl rfl (by omega) dL_law_385 dL_law_386 dL_law_387 dL_law_388 dL_law_389 ?_
  refine L_arg (pc := 390) (j := 2) X rfl rfl (by omega) dL_law_390 dL_law_391 dL_law_392 dL_law_393 dL_law_394 ?_
  refine L_callC (pc := 395) (Y' := m_X9_name) X yf_X9_name rfl (by decide) (ok_X9_name _ _ _ _ e1) tw_564 tw_565 tw_563 rfl rfl (Nat.le_of_ble_eq_true rfl) dL_law_395 ?_
  refine L_aload (pc := 398) X 2 1 rfl dL_law_398 ?_
  refine L_arg (pc := 399) (j := 1) X rfl rfl (by omega) dL_law_399 dL_law_400 dL_law_401 dL_law_402 dL_law_403 ?_
  refine L_arg (pc := 404) (j := 2) X rfl rfl (by omega) dL_law_404 dL_law_405 dL_law_406 dL_law_407 dL_law_408 ?_
  refine L_callM (pc := 409) (Y' := m_X10_name) X yf_X10_name rfl (by decide) (ok_X10_name _ _ _ _ e2) tw_1314 tw_1315 tw_1313 rfl rfl (Nat.le_of_ble_eq_true rfl) dL_law_409 ?_
  exact L_eq (pc := 412) X dL_law_412 (by decide) (kk _ _ hR1)
theorem L_feed (X : Lc p s m meth c b L xs g) (hR : Rel M N) (hi : i + 6 ≤ L) (kk : ∀ M1 N1 : Mem, Rel M1 N1 → LW p l e s m below meth c b g M1 N1 1680 (Lv b s.heap.size i) []) : LW p l e s m below meth c b g M N 417 (Lv b s.heap.size i) [] := by
  obtain ⟨v, M1, N1, e1, e2, hR1⟩ := q_feed hR (xs (i + 1)) (xs (i + 2)) (xs (i + 3))
  refine L_aload (pc := 417) X 1 2 rfl dL_law_417 ?_
  refine L_arg (pc := 418) (j := 1) X rfl rfl (by omega) dL_law_418 dL_law_419 dL_law_420 dL_law_421 dL_law_422 ?_
  refine L_arg (pc := 423) (j := 2) X rfl rfl (by omega) dL_law_423 dL_law_424 dL_law_425 dL_law_426 dL_law_427 ?_
  refine L_arg (pc := 428) (j := 3) X rfl rfl (by omega) dL_law_428 dL_law_429 dL_law_430 dL_law_431 dL_law_432 ?_
  refine L_callC (pc := 433) (Y' := m_X9_feed) X yf_X9_feed rfl (by decide) (ok_X9_feed _ _ _ _ _ e1) tw_568 tw_569 tw_567 rfl rfl (Nat.le_of_ble_eq_true rfl) dL_law_433 ?_
  refine L_aload (pc := 436) X 2 1 rfl dL_law_436 ?_
  refine L_arg (pc := 437) (j := 1) X rfl rfl (by omega) dL_law_437 dL_law_438 dL_law_439 dL_law_440 dL_law_441 ?_
  refine L_arg (pc := 442) (j := 2) X rfl rfl (by omega) dL_law_442 dL_law_443 dL_law_444 dL_law_445 dL_law_446 ?_
  refine L_arg (pc := 447) (j := 3) X rfl rfl (by omega) dL_law_447 dL_law_448 dL_law_449 dL_law_450 dL_law_451 ?_
  refine L_callM (pc := 452) (Y' := m_X10_feed) X yf_X10_feed rfl (by decide) (ok_X10_feed _ _ _ _ _ e2) tw_1319 tw_1320 tw_1318 rfl rfl (Nat.le_of_ble_eq_true rfl) dL_law_452 ?_
  exact L_eq (pc := 455) X dL_law_455 (by decide) (kk _ _ hR1)
theorem L_trim (X : Lc p s m meth c b L xs g) (hR : Rel M N) (hi : i + 6 ≤ L) (kk : ∀ M1 N1 : Mem, Rel M1 N1 → LW p l e s m below meth c b g M1 N1 1680 (Lv b s.heap.size i) []) : LW p l e s m below meth c b g M N 460 (Lv b s.heap.size i) [] := by
  obtain ⟨v, M1, N1, e1, e2, hR1⟩ := q_trim hR (xs (i + 1))
  refine L_aload (pc := 460) X 1 2 rfl dL_law_460 ?_
  refine L_arg (pc := 461) (j := 1) X rfl rfl (by omega) dL_law_461 dL_law_462 dL_law_463 dL_law_464 dL_law_465 ?_
  refine L_callC (pc := 466) (Y' := m_X9_trim) X yf_X9_trim rfl (by decide) (ok_X9_trim _ _ _ e1) tw_576 tw_577 tw_575 rfl rfl (Nat.le_of_ble_eq_true rfl) dL_law_466 ?_
  refine L_aload (pc := 469) X 2 1 rfl dL_law_469 ?_
  refine L_arg (pc := 470) (j := 1) X rfl rfl (by omega) dL_law_470 dL_law_471 dL_law_472 dL_law_473 dL_law_474 ?_
  refine L_callM (pc := 475) (Y' := m_X10_trim) X yf_X10_trim rfl (by decide) (ok_X10_trim _ _ _ e2) tw_1323 tw_1324 tw_1322 rfl rfl (Nat.le_of_ble_eq_true rfl) dL_law_475 ?_
  exact L_eq (pc := 478) X dL_law_478 (by decide) (kk _ _ hR1)
theorem L_law (X : Lc p s m meth c b L xs g) (hR : Rel M N) (hi : i + 6 ≤ L) (kk : ∀ M1 N1 : Mem, Rel M1 N1 → LW p l e s m below meth c b g M1 N1 1680 (Lv b s.heap.size i) []) : LW p l e s m below meth c b g M N 483 (Lv b s.heap.size i) [] := by
  obtain ⟨v, M1, N1, e1, e2, hR1⟩ := q_law hR 
  refine L_aload (pc := 483) X 1 2 rfl dL_law_483 ?_
  refine L_callC (pc := 484) (Y' := m_X9_law) X yf_X9_law rfl (by decide) (ok_X9_law  _ _ e1) tw_580 tw_581 tw_579 rfl rfl (Nat.le_of_ble_eq_true rfl) dL_law_484 ?_
  refine L_aload (pc := 487) X 2 1 rfl dL_law_487 ?_
  refine L_callM (pc := 488) (Y' := m_X10_law) X yf_X10_law rfl (by decide) (ok_X10_law  _ _ e2) tw_1327 tw_1328 tw_1326 rfl rfl (Nat.le_of_ble_eq_true rfl) dL_law_488 ?_
  exact L_eq (pc := 491) X dL_law_491 (by decide) (kk _ _ hR1)
theorem L_of (X : Lc p s m meth c b L xs g) (hR : Rel M N) (hi : i + 6 ≤ L) (kk : ∀ M1 N1 : Mem, Rel M1 N1 → LW p l e s m below meth c b g M1 N1 1680 (Lv b s.heap.size i) []) : LW p l e s m below meth c b g M N 496 (Lv b s.heap.size i) [] := by
  obtain ⟨v, M1, N1, e1, e2, hR1⟩ := q_of hR (xs (i + 1)) (xs (i + 2))
  refine L_aload (pc := 496) X 1 2 rfl dL_law_496 ?_
  refine L_arg (pc := 497) (j := 1) X rfl rfl (by omega) dL_law_497 dL_law_498 dL_law_499 dL_law_500 dL_law_501 ?_
  refine L_arg (pc := 502) (j := 2) X rfl rfl (by omega) dL_law_502 dL_law_503 dL_law_504 dL_law_505 dL_law_506 ?_
  refine L_callC (pc := 507) (Y' := m_X9_of) X yf_X9_of rfl (by decide) (ok_X9_of _ _ _ _ e1) tw_705 tw_706 tw_704 rfl rfl (Nat.le_of_ble_eq_true rfl) dL_law_507 ?_
  refine L_aload (pc := 510) X 2 1 rfl dL_law_510 ?_
  refine L_arg (pc := 511) (j := 1) X rfl rfl (by omega) dL_law_511 dL_law_512 dL_law_513 dL_law_514 dL_law_515 ?_
  refine L_arg (pc := 516) (j := 2) X rfl rfl (by omega) dL_law_516 dL_law_517 dL_law_518 dL_law_519 dL_law_520 ?_
  refine L_callM (pc := 521) (Y' := m_X10_of) X yf_X10_of rfl (by decide) (ok_X10_of _ _ _ _ e2) tw_1398 tw_1399 tw_1397 rfl rfl (Nat.le_of_ble_eq_true rfl) dL_law_521 ?_
  exact L_eq (pc := 524) X dL_law_524 (by decide) (kk _ _ hR1)
theorem L_why (X : Lc p s m meth c b L xs g) (hR : Rel M N) (hi : i + 6 ≤ L) (kk : ∀ M1 N1 : Mem, Rel M1 N1 → LW p l e s m below meth c b g M1 N1 1680 (Lv b s.heap.size i) []) : LW p l e s m below meth c b g M N 529 (Lv b s.heap.size i) [] := by
  obtain ⟨v, M1, N1, e1, e2, hR1⟩ := q_why hR (xs (i + 1)) (xs (i + 2))
  refine L_aload (pc := 529) X 1 2 rfl dL_law_529 ?_
  refine L_arg (pc := 530) (j := 1) X rfl rfl (by omega) dL_law_530 dL_law_531 dL_law_532 dL_law_533 dL_law_534 ?_
  refine L_arg (pc := 535) (j := 2) X rfl rfl (by omega) dL_law_535 dL_law_536 dL_law_537 dL_law_538 dL_law_539 ?_
  refine L_callC (pc := 540) (Y' := m_X9_why) X yf_X9_why rfl (by decide) (ok_X9_why _ _ _ _ e1) tw_709 tw_710 tw_708 rfl rfl (Nat.le_of_ble_eq_true rfl) dL_law_540 ?_
  refine L_aload (pc := 543) X 2 1 rfl dL_law_543 ?_
  refine L_arg (pc := 544) (j := 1) X rfl rfl (by omega) dL_law_544 dL_law_545 dL_law_546 dL_law_547 dL_law_548 ?_
  refine L_arg (pc := 549) (j := 2) X rfl rfl (by omega) dL_law_549 dL_law_550 dL_law_551 dL_law_552 dL_law_553 ?_
  refine L_callM (pc := 554) (Y' := m_X10_why) X yf_X10_why rfl (by decide) (ok_X10_why _ _ _ _ e2) tw_1407 tw_1408 tw_1406 rfl rfl (Nat.le_of_ble_eq_true rfl) dL_law_554 ?_
  exact L_eq (pc := 557) X dL_law_557 (by decide) (kk _ _ hR1)
theorem L_cape (X : Lc p s m meth c b L xs g) (hR : Rel M N) (hi : i + 6 ≤ L) (kk : ∀ M1 N1 : Mem, Rel M1 N1 → LW p l e s m below meth c b g M1 N1 1680 (Lv b s.heap.size i) []) : LW p l e s m below meth c b g M N 562 (Lv b s.heap.size i) [] := by
  obtain ⟨v, M1, N1, e1, e2, hR1⟩ := q_cape hR (xs (i + 1)) (xs (i + 2))
  refine L_aload (pc := 562) X 1 2 rfl dL_law_562 ?_
  refine L_arg (pc := 563) (j := 1) X rfl rfl (by omega) dL_law_563 dL_law_564 dL_law_565 dL_law_566 dL_law_567 ?_
  refine L_arg (pc := 568) (j := 2) X rfl rfl (by omega) dL_law_568 dL_law_569 dL_law_570 dL_law_571 dL_law_572 ?_
  refine L_callC (pc := 573) (Y' := m_X9_cape) X yf_X9_cape rfl (by decide) (ok_X9_cape _ _ _ _ e1) tw_714 tw_715 tw_713 rfl rfl (Nat.le_of_ble_eq_true rfl) dL_law_573 ?_
  refine L_aload (pc := 576) X 2 1 rfl dL_law_576 ?_
  refine L_arg (pc := 577) (j := 1) X rfl rfl (by omega) dL_law_577 dL_law_578 dL_law_579 dL_law_580 dL_law_581 ?_
  refine L_arg (pc := 582) (j := 2) X rfl rfl (by omega) dL_law_582 dL_law_583 dL_law_584 dL_law_585 dL_law_586 ?_
  refine L_callM (pc := 587) (Y' := m_X10_cape) X yf_X10_cape rfl (by decide) (ok_X10_cape _ _ _ _ e2) tw_1414 tw_1415 tw_1413 rfl rfl (Nat.le_of_ble_eq_true rfl) dL_law_587 ?_
  exact L_eq (pc := 590) X dL_law_590 (by decide) (kk _ _ hR1)
theorem L_capes (X : Lc p s m meth c b L xs g) (hR : Rel M N) (hi : i + 6 ≤ L) (kk : ∀ M1 N1 : Mem, Rel M1 N1 → LW p l e s m below meth c b g M1 N1 1680 (Lv b s.heap.size i) []) : LW p l e s m below meth c b g M N 595 (Lv b s.heap.size i) [] := by
  obtain ⟨v, M1, N1, e1, e2, hR1⟩ := q_capes hR (xs (i + 1))
  refine L_aload (pc := 595) X 1 2 rfl dL_law_595 ?_
  refine L_arg (pc := 596) (j := 1) X rfl rfl (by omega) dL_law_596 dL_law_597 dL_law_598 dL_law_599 dL_law_600 ?_
  refine L_callC (pc := 601) (Y' := m_X9_capes) X yf_X9_capes rfl (by decide) (ok_X9_capes _ _ _ e1) tw_757 tw_758 tw_756 rfl rfl (Nat.le_of_ble_eq_true rfl) dL_law_601 ?_
  refine L_aload (pc := 604) X 2 1 rfl dL_law_604 ?_
  refine L_arg (pc := 605) (j := 1) X rfl rfl (by omega) dL_law_605 dL_law_606 dL_law_607 dL_law_608 dL_law_609 ?_
  refine L_callM (pc := 610) (Y' := m_X10_capes) X yf_X10_capes rfl (by decide) (ok_X10_capes _ _ _ e2) tw_1439 tw_1440 tw_1438 rfl rfl (Nat.le_of_ble_eq_true rfl) dL_law_610 ?_
  exact L_eq (pc := 613) X dL_law_613 (by decide) (kk _ _ hR1)
theorem L_next (X : Lc p s m meth c b L xs g) (hR : Rel M N) (hi : i + 6 ≤ L) (kk : ∀ M1 N1 : Mem, Rel M1 N1 → LW p l e s m below meth c b g M1 N1 1680 (Lv b s.heap.size i) []) : LW p l e s m below meth c b g M N 618 (Lv b s.heap.size i) [] := by
  obtain ⟨v, M1, N1, e1, e2, hR1⟩ := q_next hR 
  refine L_aload (pc := 618) X 1 2 rfl dL_law_618 ?_
  refine L_callC (pc := 619) (Y' := m_X9_next) X yf_X9_next rfl (by decide) (ok_X9_next  _ _ e1) tw_761 tw_762 tw_760 rfl rfl (Nat.le_of_ble_eq_true rfl) dL_law_619 ?_
  refine L_aload (pc := 622) X 2 1 rfl dL_law_622 ?_
  refine L_callM (pc := 623) (Y' := m_X10_next) X yf_X10_next rfl (by decide) (ok_X10_next  _ _ e2) tw_1443 tw_1444 tw_1442 rfl rfl (Nat.le_of_ble_eq_true rfl) dL_law_623 ?_
  exact L_eq (pc := 626) X dL_law_626 (by decide) (kk _ _ hR1)
theorem L_choose (X : Lc p s m meth c b L xs g) (hR : Rel M N) (hi : i + 6 ≤ L) (kk : ∀ M1 N1 : Mem, Rel M1 N1 → LW p l e s m below meth c b g M1 N1 1680 (Lv b s.heap.size i) []) : LW p l e s m below meth c b g M N 631 (Lv b s.heap.size i) [] := by
  obtain ⟨v, M1, N1, e1, e2, hR1⟩ := q_choose hR (xs (i + 1))
  refine L_aload (pc := 631) X 1 2 rfl dL_law_631 ?_
  refine L_arg (pc := 632) (j := 1) X rfl rfl (by omega) dL_law_632 dL_law_633 dL_law_634 dL_law_635 dL_law_636 ?_
  refine L_callC (pc := 637) (Y' := m_X9_choose) X yf_X9_choose rfl (by decide) (ok_X9_choose _ _ _ e1) tw_765 tw_766 tw_764 rfl rfl (Nat.le_of_ble_eq_true rfl) dL_law_637 ?_
  refine L_aload (pc := 640) X 2 1 rfl dL_law_640 ?_
  refine L_arg (pc := 641) (j := 1) X rfl rfl (by omega) dL_law_641 dL_law_642 dL_law_643 dL_law_644 dL_law_645 ?_
  refine L_callM (pc := 646) (Y' := m_X10_choose) X yf_X10_choose rfl (by decide) (ok_X10_choose _ _ _ e2) tw_1447 tw_1448 tw_1446 rfl rfl (Nat.le_of_ble_eq_true rfl) dL_law_646 ?_
  exact L_eq (pc := 649) X dL_law_649 (by decide) (kk _ _ hR1)
theorem L_clear (X : Lc p s m meth c b L xs g) (hR : Rel M N) (hi : i + 6 ≤ L) (kk : ∀ M1 N1 : Mem, Rel M1 N1 → LW p l e s m below meth c b g M1 N1 1680 (Lv b s.heap.size i) []) : LW p l e s m below meth c b g M N 654 (Lv b s.heap.size i) [] := by
  obtain ⟨v, M1, N1, e1, e2, hR1⟩ := q_clear hR 
  refine L_aload (pc := 654) X 1 2 rfl dL_law_654 ?_
  refine L_callC (pc := 655) (Y' := m_X9_clear) X yf_X9_clear rfl (by decide) (ok_X9_clear  _ _ e1) tw_774 tw_775 tw_773 rfl rfl (Nat.le_of_ble_eq_true rfl) dL_law_655 ?_
  refine L_aload (pc := 658) X 2 1 rfl dL_law_658 ?_
  refine L_callM (pc := 659) (Y' := m_X10_clear) X yf_X10_clear rfl (by decide) (ok_X10_clear  _ _ e2) tw_1456 tw_1457 tw_1455 rfl rfl (Nat.le_of_ble_eq_true rfl) dL_law_659 ?_
  exact L_eq (pc := 662) X dL_law_662 (by decide) (kk _ _ hR1)
theorem L_match (X : Lc p s m meth c b L xs g) (hR : Rel M N) (hi : i + 6 ≤ L) (kk : ∀ M1 N1 : Mem, Rel M1 N1 → LW p l e s m below meth c b g M1 N1 1680 (Lv b s.heap.size i) []) : LW p l e s m below meth c b g M N 667 (Lv b s.heap.size i) [] := by
  obtain ⟨v, M1, N1, e1, e2, hR1⟩ := q_match hR (xs (i + 1)) (xs (i + 2)) (xs (i + 3))
  refine L_aload (pc := 667) X 1 2 rfl dL_law_667 ?_
  refine L_arg (pc := 668) (j := 1) X rfl rfl (by omega) dL_law_668 dL_law_669 dL_law_670 dL_law_671 dL_law_672 ?_
  refine L_arg (pc := 673) (j := 2) X rfl rfl (by omega) dL_law_673 dL_law_674 dL_law_675 dL_law_676 dL_law_677 ?_
  refine L_arg (pc := 678) (j := 3) X rfl rfl (by omega) dL_law_678 dL_law_679 dL_law_680 dL_law_681 dL_law_682 ?_
  refine L_callC (pc := 683) (Y' := m_X9_match) X yf_X9_match rfl (by decide) (ok_X9_match _ _ _ _ _ e1) tw_782 tw_783 tw_781 rfl rfl (Nat.le_of_ble_eq_true rfl) dL_law_683 ?_
  refine L_aload (pc := 686) X 2 1 rfl dL_law_686 ?_
  refine L_arg (pc := 687) (j := 1) X rfl rfl (by omega) dL_law_687 dL_law_688 dL_law_689 dL_law_690 dL_law_691 ?_
  refine L_arg (pc := 692) (j := 2) X rfl rfl (by omega) dL_law_692 dL_law_693 dL_law_694 dL_law_695 dL_law_696 ?_
  refine L_arg (pc := 697) (j := 3) X rfl rfl (by omega) dL_law_697 dL_law_698 dL_law_699 dL_law_700 dL_law_701 ?_
  refine L_callM (pc := 702) (Y' := m_X10_match) X yf_X10_match rfl (by decide) (ok_X10_match _ _ _ _ _ e2) tw_1460 tw_1461 tw_1459 rfl rfl (Nat.le_of_ble_eq_true rfl) dL_law_702 ?_
  exact L_eq (pc := 705) X dL_law_705 (by decide) (kk _ _ hR1)
theorem L_join (X : Lc p s m meth c b L xs g) (hR : Rel M N) (hi : i + 6 ≤ L) (kk : ∀ M1 N1 : Mem, Rel M1 N1 → LW p l e s m below meth c b g M1 N1 1680 (Lv b s.heap.size i) []) : LW p l e s m below meth c b g M N 710 (Lv b s.heap.size i) [] := by
  obtain ⟨v, M1, N1, e1, e2, hR1⟩ := q_join hR (xs (i + 1)) (xs (i + 2))
  refine L_aload (pc := 710) X 1 2 rfl dL_law_710 ?_
  refine L_arg (pc := 711) (j := 1) X rfl rfl (by omega) dL_law_711 dL_law_712 dL_law_713 dL_law_714 dL_law_715 ?_
  refine L_arg (pc := 716) (j := 2) X rfl rfl (by omega) dL_law_716 dL_law_717 dL_law_718 dL_law_719 dL_law_720 ?_
  refine L_callC (pc := 721) (Y' := m_X9_join) X yf_X9_join rfl (by decide) (ok_X9_join _ _ _ _ e1) tw_812 tw_813 tw_811 rfl rfl (Nat.le_of_ble_eq_true rfl) dL_law_721 ?_
  refine L_aload (pc := 724) X 2 1 rfl dL_law_724 ?_
  refine L_arg (pc := 725) (j := 1) X rfl rfl (by omega) dL_law_725 dL_law_726 dL_law_727 dL_law_728 dL_law_729 ?_
  refine L_arg (pc := 730) (j := 2) X rfl rfl (by omega) dL_law_730 dL_law_731 dL_law_732 dL_law_733 dL_law_734 ?_
  refine L_callM (pc := 735) (Y' := m_X10_join) X yf_X10_join rfl (by decide) (ok_X10_join _ _ _ _ e2) tw_1483 tw_1484 tw_1482 rfl rfl (Nat.le_of_ble_eq_true rfl) dL_law_735 ?_
  exact L_eq (pc := 738) X dL_law_738 (by decide) (kk _ _ hR1)
theorem L_passage (X : Lc p s m meth c b L xs g) (hR : Rel M N) (hi : i + 6 ≤ L) (kk : ∀ M1 N1 : Mem, Rel M1 N1 → LW p l e s m below meth c b g M1 N1 1680 (Lv b s.heap.size i) []) : LW p l e s m below meth c b g M N 743 (Lv b s.heap.size i) [] := by
  obtain ⟨v, M1, N1, e1, e2, hR1⟩ := q_passage hR (xs (i + 1)) (xs (i + 2)) (xs (i + 3))
  refine L_aload (pc := 743) X 1 2 rfl dL_law_743 ?_
  refine L_arg (pc := 744) (j := 1) X rfl rfl (by omega) dL_law_744 dL_law_745 dL_law_746 dL_law_747 dL_law_748 ?_
  refine L_arg (pc := 749) (j := 2) X rfl rfl (by omega) dL_law_749 dL_law_750 dL_law_751 dL_law_752 dL_law_753 ?_
  refine L_arg (pc := 754) (j := 3) X rfl rfl (by omega) dL_law_754 dL_law_755 dL_law_756 dL_law_757 dL_law_758 ?_
  refine L_callC (pc := 759) (Y' := m_X9_passage) X yf_X9_passage rfl (by decide) (ok_X9_passage _ _ _ _ _ e1) tw_817 tw_818 tw_816 rfl rfl (Nat.le_of_ble_eq_true rfl) dL_law_759 ?_
  refine L_aload (pc := 762) X 2 1 rfl dL_law_762 ?_
  refine L_arg (pc := 763) (j := 1) X rfl rfl (by omega) dL_law_763 dL_law_764 dL_law_765 dL_law_766 dL_law_767 ?_
  refine L_arg (pc := 768) (j := 2) X rfl rfl (by omega) dL_law_768 dL_law_769 dL_law_770 dL_law_771 dL_law_772 ?_
  refine L_arg (pc := 773) (j := 3) X rfl rfl (by omega) dL_law_773 dL_law_774 dL_law_775 dL_law_776 dL_law_777 ?_
  refine L_callM (pc := 778) (Y' := m_X10_passage) X yf_X10_passage rfl (by decide) (ok_X10_passage _ _ _ _ _ e2) tw_1487 tw_1488 tw_1486 rfl rfl (Nat.le_of_ble_eq_true rfl) dL_law_778 ?_
  exact L_eq (pc := 781) X dL_law_781 (by decide) (kk _ _ hR1)
theorem L_between (X : Lc p s m meth c b L xs g) (hR : Rel M N) (hi : i + 6 ≤ L) (kk : ∀ M1 N1 : Mem, Rel M1 N1 → LW p l e s m below meth c b g M1 N1 1680 (Lv b s.heap.size i) []) : LW p l e s m below meth c b g M N 786 (Lv b s.heap.size i) [] := by
  obtain ⟨v, M1, N1, e1, e2, hR1⟩ := q_between hR (xs (i + 1)) (xs (i + 2))
  refine L_aload (pc := 786) X 1 2 rfl dL_law_786 ?_
  refine L_arg (pc := 787) (j := 1) X rfl rfl (by omega) dL_law_787 dL_law_788 dL_law_789 dL_law_790 dL_law_791 ?_
  refine L_arg (pc := 792) (j := 2) X rfl rfl (by omega) dL_law_792 dL_law_793 dL_law_794 dL_law_795 dL_law_796 ?_
  refine L_callC (pc := 797) (Y' := m_X9_between) X yf_X9_between rfl (by decide) (ok_X9_between _ _ _ _ e1) tw_826 tw_827 tw_825 rfl rfl (Nat.le_of_ble_eq_true rfl) dL_law_797 ?_
  refine L_aload (pc := 800) X 2 1 rfl dL_law_800 ?_
  refine L_arg (pc := 801) (j := 1) X rfl rfl (by omega) dL_law_801 dL_law_802 dL_law_803 dL_law_804 dL_law_805 ?_
  refine L_arg (pc := 806) (j := 2) X rfl rfl (by omega) dL_law_806 dL_law_807 dL_law_808 dL_law_809 dL_law_810 ?_
  refine L_callM (pc := 811) (Y' := m_X10_between) X yf_X10_between rfl (by decide) (ok_X10_between _ _ _ _ e2) tw_1495 tw_1496 tw_1494 rfl rfl (Nat.le_of_ble_eq_true rfl) dL_law_811 ?_
  exact L_eq (pc := 814) X dL_law_814 (by decide) (kk _ _ hR1)
theorem L_same (X : Lc p s m meth c b L xs g) (hR : Rel M N) (hi : i + 6 ≤ L) (kk : ∀ M1 N1 : Mem, Rel M1 N1 → LW p l e s m below meth c b g M1 N1 1680 (Lv b s.heap.size i) []) : LW p l e s m below meth c b g M N 819 (Lv b s.heap.size i) [] := by
  obtain ⟨v, M1, N1, e1, e2, hR1⟩ := q_same hR (xs (i + 1)) (xs (i + 2))
  refine L_aload (pc := 819) X 1 2 rfl dL_law_819 ?_
  refine L_arg (pc := 820) (j := 1) X rfl rfl (by omega) dL_law_820 dL_law_821 dL_law_822 dL_law_823 dL_law_824 ?_
  refine L_arg (pc := 825) (j := 2) X rfl rfl (by omega) dL_law_825 dL_law_826 dL_law_827 dL_law_828 dL_law_829 ?_
  refine L_callC (pc := 830) (Y' := m_X9_same) X yf_X9_same rfl (by decide) (ok_X9_same _ _ _ _ e1) tw_835 tw_836 tw_834 rfl rfl (Nat.le_of_ble_eq_true rfl) dL_law_830 ?_
  refine L_aload (pc := 833) X 2 1 rfl dL_law_833 ?_
  refine L_arg (pc := 834) (j := 1) X rfl rfl (by omega) dL_law_834 dL_law_835 dL_law_836 dL_law_837 dL_law_838 ?_
  refine L_arg (pc := 839) (j := 2) X rfl rfl (by omega) dL_law_839 dL_law_840 dL_law_841 dL_law_842 dL_law_843 ?_
  refine L_callM (pc := 844) (Y' := m_X10_same) X yf_X10_same rfl (by decide) (ok_X10_same _ _ _ _ e2) tw_1503 tw_1504 tw_1502 rfl rfl (Nat.le_of_ble_eq_true rfl) dL_law_844 ?_
  exact L_eq (pc := 847) X dL_law_847 (by decide) (kk _ _ hR1)
theorem L_kept (X : Lc p s m meth c b L xs g) (hR : Rel M N) (hi : i + 6 ≤ L) (kk : ∀ M1 N1 : Mem, Rel M1 N1 → LW p l e s m below meth c b g M1 N1 1680 (Lv b s.heap.size i) []) : LW p l e s m below meth c b g M N 852 (Lv b s.heap.size i) [] := by
  obtain ⟨v, M1, N1, e1, e2, hR1⟩ := q_kept hR (xs (i + 1))
  refine L_aload (pc := 852) X 1 2 rfl dL_law_852 ?_
  refine L_arg (pc := 853) (j := 1) X rfl rfl (by omega) dL_law_853 dL_law_854 dL_law_855 dL_law_856 dL_law_857 ?_
  refine L_callC (pc := 858) (Y' := m_X9_kept) X yf_X9_kept rfl (by decide) (ok_X9_kept _ _ _ e1) tw_843 tw_844 tw_842 rfl rfl (Nat.le_of_ble_eq_true rfl) dL_law_858 ?_
  refine L_aload (pc := 861) X 2 1 rfl dL_law_861 ?_
  refine L_arg (pc := 862) (j := 1) X rfl rfl (by omega) dL_law_862 dL_law_863 dL_law_864 dL_law_865 dL_law_866 ?_
  refine L_callM (pc := 867) (Y' := m_X10_kept) X yf_X10_kept rfl (by decide) (ok_X10_kept _ _ _ e2) tw_1507 tw_1508 tw_1506 rfl rfl (Nat.le_of_ble_eq_true rfl) dL_law_867 ?_
  exact L_eq (pc := 870) X dL_law_870 (by decide) (kk _ _ hR1)
theorem L_set (X : Lc p s m meth c b L xs g) (hR : Rel M N) (hi : i + 6 ≤ L) (kk : ∀ M1 N1 : Mem, Rel M1 N1 → LW p l e s m below meth c b g M1 N1 1680 (Lv b s.heap.size i) []) : LW p l e s m below meth c b g M N 875 (Lv b s.heap.size i) [] := by
  obtain ⟨v, M1, N1, e1, e2, hR1⟩ := q_set hR (xs (i + 1)) (xs (i + 2)) (xs (i + 3))
  refine L_aload (pc := 875) X 1 2 rfl dL_law_875 ?_
  refine L_arg (pc := 876) (j := 1) X rfl rfl (by omega) dL_law_876 dL_law_877 dL_law_878 dL_law_879 dL_law_880 ?_
  refine L_arg (pc := 881) (j := 2) X rfl rfl (by omega) dL_law_881 dL_law_882 dL_law_883 dL_law_884 dL_law_885 ?_
  refine L_arg (pc := 886) (j := 3) X rfl rfl (by omega) dL_law_886 dL_law_887 dL_law_888 dL_law_889 dL_law_890 ?_
  refine L_callC (pc := 891) (Y' := m_X9_set) X yf_X9_set rfl (by decide) (ok_X9_set _ _ _ _ _ e1) tw_847 tw_848 tw_846 rfl rfl (Nat.le_of_ble_eq_true rfl) dL_law_891 ?_
  refine L_aload (pc := 894) X 2 1 rfl dL_law_894 ?_
  refine L_arg (pc := 895) (j := 1) X rfl rfl (by omega) dL_law_895 dL_law_896 dL_law_897 dL_law_898 dL_law_899 ?_
  refine L_arg (pc := 900) (j := 2) X rfl rfl (by omega) dL_law_900 dL_law_901 dL_law_902 dL_law_903 dL_law_904 ?_
  refine L_arg (pc := 905) (j := 3) X rfl rfl (by omega) dL_law_905 dL_law_906 dL_law_907 dL_law_908 dL_law_909 ?_
  refine L_callM (pc := 910) (Y' := m_X10_set) X yf_X10_set rfl (by decide) (ok_X10_set _ _ _ _ _ e2) tw_1511 tw_1512 tw_1510 rfl rfl (Nat.le_of_ble_eq_true rfl) dL_law_910 ?_
  exact L_eq (pc := 913) X dL_law_913 (by decide) (kk _ _ hR1)
theorem L_clock (X : Lc p s m meth c b L xs g) (hR : Rel M N) (hi : i + 6 ≤ L) (kk : ∀ M1 N1 : Mem, Rel M1 N1 → LW p l e s m below meth c b g M1 N1 1680 (Lv b s.heap.size i) []) : LW p l e s m below meth c b g M N 918 (Lv b s.heap.size i) [] := by
  obtain ⟨v, M1, N1, e1, e2, hR1⟩ := q_clock hR (xs (i + 1)) (xs (i + 2)) (xs (i + 3))
  refine L_aload (pc := 918) X 1 2 rfl dL_law_918 ?_
  refine L_arg (pc := 919) (j := 1) X rfl rfl (by omega) dL_law_919 dL_law_920 dL_law_921 dL_law_922 dL_law_923 ?_
  refine L_arg (pc := 924) (j := 2) X rfl rfl (by omega) dL_law_924 dL_law_925 dL_law_926 dL_law_927 dL_law_928 ?_
  refine L_arg (pc := 929) (j := 3) X rfl rfl (by omega) dL_law_929 dL_law_930 dL_law_931 dL_law_932 dL_law_933 ?_
  refine L_callC (pc := 934) (Y' := m_X9_clock) X yf_X9_clock rfl (by decide) (ok_X9_clock _ _ _ _ _ e1) tw_851 tw_852 tw_850 rfl rfl (Nat.le_of_ble_eq_true rfl) dL_law_934 ?_
  refine L_aload (pc := 937) X 2 1 rfl dL_law_937 ?_
  refine L_arg (pc := 938) (j := 1) X rfl rfl (by omega) dL_law_938 dL_law_939 dL_law_940 dL_law_941 dL_law_942 ?_
  refine L_arg (pc := 943) (j := 2) X rfl rfl (by omega) dL_law_943 dL_law_944 dL_law_945 dL_law_946 dL_law_947 ?_
  refine L_arg (pc := 948) (j := 3) X rfl rfl (by omega) dL_law_948 dL_law_949 dL_law_950 dL_law_951 dL_law_952 ?_
  refine L_callM (pc := 953) (Y' := m_X10_clock) X yf_X10_clock rfl (by decide) (ok_X10_clock _ _ _ _ _ e2) tw_1517 tw_1518 tw_1516 rfl rfl (Nat.le_of_ble_eq_true rfl) dL_law_953 ?_
  exact L_eq (pc := 956) X dL_law_956 (by decide) (kk _ _ hR1)
theorem L_smooth (X : Lc p s m meth c b L xs g) (hR : Rel M N) (hi : i + 6 ≤ L) (kk : ∀ M1 N1 : Mem, Rel M1 N1 → LW p l e s m below meth c b g M1 N1 1680 (Lv b s.heap.size i) []) : LW p l e s m below meth c b g M N 961 (Lv b s.heap.size i) [] := by
  obtain ⟨v, M1, N1, e1, e2, hR1⟩ := q_smooth hR (xs (i + 1))
  refine L_aload (pc := 961) X 1 2 rfl dL_law_961 ?_
  refine L_arg (pc := 962) (j := 1) X rfl rfl (by omega) dL_law_962 dL_law_963 dL_law_964 dL_law_965 dL_law_966 ?_
  refine L_callC (pc := 967) (Y' := m_X9_smooth) X yf_X9_smooth rfl (by decide) (ok_X9_smooth _ _ _ e1) tw_880 tw_881 tw_879 rfl rfl (Nat.le_of_ble_eq_true rfl) dL_law_967 ?_
  refine L_aload (pc := 970) X 2 1 rfl dL_law_970 ?_
  refine L_arg (pc := 971) (j := 1) X rfl rfl (by omega) dL_law_971 dL_law_972 dL_law_973 dL_law_974 dL_law_975 ?_
  refine L_callM (pc := 976) (Y' := m_X10_smooth) X yf_X10_smooth rfl (by decide) (ok_X10_smooth _ _ _ e2) tw_1533 tw_1534 tw_1532 rfl rfl (Nat.le_of_ble_eq_true rfl) dL_law_976 ?_
  exact L_eq (pc := 979) X dL_law_979 (by decide) (kk _ _ hR1)
theorem L_changes (X : Lc p s m meth c b L xs g) (hR : Rel M N) (hi : i + 6 ≤ L) (kk : ∀ M1 N1 : Mem, Rel M1 N1 → LW p l e s m below meth c b g M1 N1 1680 (Lv b s.heap.size i) []) : LW p l e s m below meth c b g M N 984 (Lv b s.heap.size i) [] := by
  obtain ⟨v, M1, N1, e1, e2, hR1⟩ := q_changes hR (xs (i + 1)) (xs (i + 2))
  refine L_aload (pc := 984) X 1 2 rfl dL_law_984 ?_
  refine L_arg (pc := 985) (j := 1) X rfl rfl (by omega) dL_law_985 dL_law_986 dL_law_987 dL_law_988 dL_law_989 ?_
  refine L_arg (pc := 990) (j := 2) X rfl rfl (by omega) dL_law_990 dL_law_991 dL_law_992 dL_law_993 dL_law_994 ?_
  refine L_callC (pc := 995) (Y' := m_X9_changes) X yf_X9_changes rfl (by decide) (ok_X9_changes _ _ _ _ e1) tw_899 tw_900 tw_898 rfl rfl (Nat.le_of_ble_eq_true rfl) dL_law_995 ?_
  refine L_aload (pc := 998) X 2 1 rfl dL_law_998 ?_
  refine L_arg (pc := 999) (j := 1) X rfl rfl (by omega) dL_law_999 dL_law_1000 dL_law_1001 dL_law_1002 dL_law_1003 ?_
  refine L_arg (pc := 1004) (j := 2) X rfl rfl (by omega) dL_law_1004 dL_law_1005 dL_law_1006 dL_law_1007 dL_law_1008 ?_
  refine L_callM (pc := 1009) (Y' := m_X10_changes) X yf_X10_changes rfl (by decide) (ok_X10_changes _ _ _ _ e2) tw_1545 tw_1546 tw_1544 rfl rfl (Nat.le_of_ble_eq_true rfl) dL_law_1009 ?_
  exact L_eq (pc := 1012) X dL_law_1012 (by decide) (kk _ _ hR1)
theorem L_from (X : Lc p s m meth c b L xs g) (hR : Rel M N) (hi : i + 6 ≤ L) (kk : ∀ M1 N1 : Mem, Rel M1 N1 → LW p l e s m below meth c b g M1 N1 1680 (Lv b s.heap.size i) []) : LW p l e s m below meth c b g M N 1017 (Lv b s.heap.size i) [] := by
  obtain ⟨v, M1, N1, e1, e2, hR1⟩ := q_from hR (xs (i + 1))
  refine L_aload (pc := 1017) X 1 2 rfl dL_law_1017 ?_
  refine L_arg (pc := 1018) (j := 1) X rfl rfl (by omega) dL_law_1018 dL_law_1019 dL_law_1020 dL_law_1021 dL_law_1022 ?_
  refine L_callC (pc := 1023) (Y' := m_X9_from) X yf_X9_from rfl (by decide) (ok_X9_from _ _ _ e1) tw_907 tw_908 tw_906 rfl rfl (Nat.le_of_ble_eq_true rfl) dL_law_1023 ?_
  refine L_aload (pc := 1026) X 2 1 rfl dL_law_1026 ?_
  refine L_arg (pc := 1027) (j := 1) X rfl rfl (by omega) dL_law_1027 dL_law_1028 dL_law_1029 dL_law_1030 dL_law_1031 ?_
  refine L_callM (pc := 1032) (Y' := m_X10_from) X yf_X10_from rfl (by decide) (ok_X10_from _ _ _ e2) tw_1553 tw_1554 tw_1552 rfl rfl (Nat.le_of_ble_eq_true rfl) dL_law_1032 ?_
  exact L_eq (pc := 1035) X dL_law_1035 (by decide) (kk _ _ hR1)
theorem L_court (X : Lc p s m meth c b L xs g) (hR : Rel M N) (hi : i + 6 ≤ L) (kk : ∀ M1 N1 : Mem, Rel M1 N1 → LW p l e s m below meth c b g M1 N1 1680 (Lv b s.heap.size i) []) : LW p l e s m below meth c b g M N 1040 (Lv b s.heap.size i) [] := by
  obtain ⟨v, M1, N1, e1, e2, hR1⟩ := q_court hR (xs (i + 1)) (xs (i + 2)) (xs (i + 3)) (xs (i + 4))
  refine L_aload (pc := 1040) X 1 2 rfl dL_law_1040 ?_
  refine L_arg (pc := 1041) (j := 1) X rfl rfl (by omega) dL_law_1041 dL_law_1042 dL_law_1043 dL_law_1044 dL_law_1045 ?_
  refine L_arg (pc := 1046) (j := 2) X rfl rfl (by omega) dL_law_1046 dL_law_1047 dL_law_1048 dL_law_1049 dL_law_1050 ?_
  refine L_arg (pc := 1051) (j := 3) X rfl rfl (by omega) dL_law_1051 dL_law_1052 dL_law_1053 dL_law_1054 dL_law_1055 ?_
  refine L_arg (pc := 1056) (j := 4) X rfl rfl (by omega) dL_law_1056 dL_law_1057 dL_law_1058 dL_law_1059 dL_law_1060 ?_
  refine L_callC (pc := 1061) (Y' := m_X9_court) X yf_X9_court rfl (by decide) (ok_X9_court _ _ _ _ _ _ e1) tw_911 tw_912 tw_910 rfl rfl (Nat.le_of_ble_eq_true rfl) dL_law_1061 ?_
  refine L_aload (pc := 1064) X 2 1 rfl dL_law_1064 ?_
  refine L_arg (pc := 1065) (j := 1) X rfl rfl (by omega) dL_law_1065 dL_law_1066 dL_law_1067 dL_law_1068 dL_law_1069 ?_
  refine L_arg (pc := 1070) (j := 2) X rfl rfl (by omega) dL_law_1070 dL_law_1071 dL_law_1072 dL_law_1073 dL_law_1074 ?_
  refine L_arg (pc := 1075) (j := 3) X rfl rfl (by omega) dL_law_1075 dL_law_1076 dL_law_1077 dL_law_1078 dL_law_1079 ?_
  refine L_arg (pc := 1080) (j := 4) X rfl rfl (by omega) dL_law_1080 dL_law_1081 dL_law_1082 dL_law_1083 dL_law_1084 ?_
  refine L_callM (pc := 1085) (Y' := m_X10_court) X yf_X10_court rfl (by decide) (ok_X10_court _ _ _ _ _ _ e2) tw_1557 tw_1558 tw_1556 rfl rfl (Nat.le_of_ble_eq_true rfl) dL_law_1085 ?_
  exact L_eq (pc := 1088) X dL_law_1088 (by decide) (kk _ _ hR1)
theorem L_survey (X : Lc p s m meth c b L xs g) (hR : Rel M N) (hi : i + 6 ≤ L) (kk : ∀ M1 N1 : Mem, Rel M1 N1 → LW p l e s m below meth c b g M1 N1 1680 (Lv b s.heap.size i) []) : LW p l e s m below meth c b g M N 1093 (Lv b s.heap.size i) [] := by
  obtain ⟨v, M1, N1, e1, e2, hR1⟩ := q_survey hR (xs (i + 1)) (xs (i + 2))
  refine L_aload (pc := 1093) X 1 2 rfl dL_law_1093 ?_
  refine L_arg (pc := 1094) (j := 1) X rfl rfl (by omega) dL_law_1094 dL_law_1095 dL_law_1096 dL_law_1097 dL_law_1098 ?_
  refine L_arg (pc := 1099) (j := 2) X rfl rfl (by omega) dL_law_1099 dL_law_1100 dL_law_1101 dL_law_1102 dL_law_1103 ?_
  refine L_callC (pc := 1104) (Y' := m_X9_survey) X yf_X9_survey rfl (by decide) (ok_X9_survey _ _ _ _ e1) tw_915 tw_916 tw_914 rfl rfl (Nat.le_of_ble_eq_true rfl) dL_law_1104 ?_
  refine L_aload (pc := 1107) X 2 1 rfl dL_law_1107 ?_
  refine L_arg (pc := 1108) (j := 1) X rfl rfl (by omega) dL_law_1108 dL_law_1109 dL_law_1110 dL_law_1111 dL_law_1112 ?_
  refine L_arg (pc := 1113) (j := 2) X rfl rfl (by omega) dL_law_1113 dL_law_1114 dL_law_1115 dL_law_1116 dL_law_1117 ?_
  refine L_callM (pc := 1118) (Y' := m_X10_survey) X yf_X10_survey rfl (by decide) (ok_X10_survey _ _ _ _ e2) tw_1562 tw_1563 tw_1561 rfl rfl (Nat.le_of_ble_eq_true rfl) dL_law_1118 ?_
  exact L_eq (pc := 1121) X dL_law_1121 (by decide) (kk _ _ hR1)
theorem L_held (X : Lc p s m meth c b L xs g) (hR : Rel M N) (hi : i + 6 ≤ L) (kk : ∀ M1 N1 : Mem, Rel M1 N1 → LW p l e s m below meth c b g M1 N1 1680 (Lv b s.heap.size i) []) : LW p l e s m below meth c b g M N 1126 (Lv b s.heap.size i) [] := by
  obtain ⟨v, M1, N1, e1, e2, hR1⟩ := q_held hR 
  refine L_aload (pc := 1126) X 1 2 rfl dL_law_1126 ?_
  refine L_callC (pc := 1127) (Y' := m_X9_held) X yf_X9_held rfl (by decide) (ok_X9_held  _ _ e1) tw_919 tw_920 tw_918 rfl rfl (Nat.le_of_ble_eq_true rfl) dL_law_1127 ?_
  refine L_aload (pc := 1130) X 2 1 rfl dL_law_1130 ?_
  refine L_callM (pc := 1131) (Y' := m_X10_held) X yf_X10_held rfl (by decide) (ok_X10_held  _ _ e2) tw_1566 tw_1567 tw_1565 rfl rfl (Nat.le_of_ble_eq_true rfl) dL_law_1131 ?_
  exact L_eq (pc := 1134) X dL_law_1134 (by decide) (kk _ _ hR1)
theorem L_misses (X : Lc p s m meth c b L xs g) (hR : Rel M N) (hi : i + 6 ≤ L) (kk : ∀ M1 N1 : Mem, Rel M1 N1 → LW p l e s m below meth c b g M1 N1 1680 (Lv b s.heap.size i) []) : LW p l e s m below meth c b g M N 1139 (Lv b s.heap.size i) [] := by
  obtain ⟨v, M1, N1, e1, e2, hR1⟩ := q_misses hR (xs (i + 1)) (xs (i + 2))
  refine L_aload (pc := 1139) X 1 2 rfl dL_law_1139 ?_
  refine L_arg (pc := 1140) (j := 1) X rfl rfl (by omega) dL_law_1140 dL_law_1141 dL_law_1142 dL_law_1143 dL_law_1144 ?_
  refine L_arg (pc := 1145) (j := 2) X rfl rfl (by omega) dL_law_1145 dL_law_1146 dL_law_1147 dL_law_1148 dL_law_1149 ?_
  refine L_callC (pc := 1150) (Y' := m_X9_misses) X yf_X9_misses rfl (by decide) (ok_X9_misses _ _ _ _ e1) tw_923 tw_924 tw_922 rfl rfl (Nat.le_of_ble_eq_true rfl) dL_law_1150 ?_
  refine L_aload (pc := 1153) X 2 1 rfl dL_law_1153 ?_
  refine L_arg (pc := 1154) (j := 1) X rfl rfl (by omega) dL_law_1154 dL_law_1155 dL_law_1156 dL_law_1157 dL_law_1158 ?_
  refine L_arg (pc := 1159) (j := 2) X rfl rfl (by omega) dL_law_1159 dL_law_1160 dL_law_1161 dL_law_1162 dL_law_1163 ?_
  refine L_callM (pc := 1164) (Y' := m_X10_misses) X yf_X10_misses rfl (by decide) (ok_X10_misses _ _ _ _ e2) tw_1570 tw_1571 tw_1569 rfl rfl (Nat.le_of_ble_eq_true rfl) dL_law_1164 ?_
  exact L_eq (pc := 1167) X dL_law_1167 (by decide) (kk _ _ hR1)
theorem L_best (X : Lc p s m meth c b L xs g) (hR : Rel M N) (hi : i + 6 ≤ L) (kk : ∀ M1 N1 : Mem, Rel M1 N1 → LW p l e s m below meth c b g M1 N1 1680 (Lv b s.heap.size i) []) : LW p l e s m below meth c b g M N 1172 (Lv b s.heap.size i) [] := by
  obtain ⟨v, M1, N1, e1, e2, hR1⟩ := q_best hR 
  refine L_aload (pc := 1172) X 1 2 rfl dL_law_1172 ?_
  refine L_callC (pc := 1173) (Y' := m_X9_best) X yf_X9_best rfl (by decide) (ok_X9_best  _ _ e1) tw_941 tw_942 tw_940 rfl rfl (Nat.le_of_ble_eq_true rfl) dL_law_1173 ?_
  refine L_aload (pc := 1176) X 2 1 rfl dL_law_1176 ?_
  refine L_callM (pc := 1177) (Y' := m_X10_best) X yf_X10_best rfl (by decide) (ok_X10_best  _ _ e2) tw_1578 tw_1579 tw_1577 rfl rfl (Nat.le_of_ble_eq_true rfl) dL_law_1177 ?_
  exact L_eq (pc := 1180) X dL_law_1180 (by decide) (kk _ _ hR1)
theorem L_seed (X : Lc p s m meth c b L xs g) (hR : Rel M N) (hi : i + 6 ≤ L) (kk : ∀ M1 N1 : Mem, Rel M1 N1 → LW p l e s m below meth c b g M1 N1 1680 (Lv b s.heap.size i) []) : LW p l e s m below meth c b g M N 1185 (Lv b s.heap.size i) [] := by
  obtain ⟨v, M1, N1, e1, e2, hR1⟩ := q_seed hR (xs (i + 1))
  refine L_aload (pc := 1185) X 1 2 rfl dL_law_1185 ?_
  refine L_arg (pc := 1186) (j := 1) X rfl rfl (by omega) dL_law_1186 dL_law_1187 dL_law_1188 dL_law_1189 dL_law_1190 ?_
  refine L_callC (pc := 1191) (Y' := m_X9_seed) X yf_X9_seed rfl (by decide) (ok_X9_seed _ _ _ e1) tw_945 tw_946 tw_944 rfl rfl (Nat.le_of_ble_eq_true rfl) dL_law_1191 ?_
  refine L_aload (pc := 1194) X 2 1 rfl dL_law_1194 ?_
  refine L_arg (pc := 1195) (j := 1) X rfl rfl (by omega) dL_law_1195 dL_law_1196 dL_law_1197 dL_law_1198 dL_law_1199 ?_
  refine L_callM (pc := 1200) (Y' := m_X10_seed) X yf_X10_seed rfl (by decide) (ok_X10_seed _ _ _ e2) tw_1582 tw_1583 tw_1581 rfl rfl (Nat.le_of_ble_eq_true rfl) dL_law_1200 ?_
  exact L_eq (pc := 1203) X dL_law_1203 (by decide) (kk _ _ hR1)
theorem L_share (X : Lc p s m meth c b L xs g) (hR : Rel M N) (hi : i + 6 ≤ L) (kk : ∀ M1 N1 : Mem, Rel M1 N1 → LW p l e s m below meth c b g M1 N1 1680 (Lv b s.heap.size i) []) : LW p l e s m below meth c b g M N 1208 (Lv b s.heap.size i) [] := by
  obtain ⟨v, M1, N1, e1, e2, hR1⟩ := q_share hR (xs (i + 1)) (xs (i + 2)) (xs (i + 3))
  refine L_aload (pc := 1208) X 1 2 rfl dL_law_1208 ?_
  refine L_arg (pc := 1209) (j := 1) X rfl rfl (by omega) dL_law_1209 dL_law_1210 dL_law_1211 dL_law_1212 dL_law_1213 ?_
  refine L_arg (pc := 1214) (j := 2) X rfl rfl (by omega) dL_law_1214 dL_law_1215 dL_law_1216 dL_law_1217 dL_law_1218 ?_
  refine L_arg (pc := 1219) (j := 3) X rfl rfl (by omega) dL_law_1219 dL_law_1220 dL_law_1221 dL_law_1222 dL_law_1223 ?_
  refine L_callC (pc := 1224) (Y' := m_X9_share) X yf_X9_share rfl (by decide) (ok_X9_share _ _ _ _ _ e1) tw_949 tw_950 tw_948 rfl rfl (Nat.le_of_ble_eq_true rfl) dL_law_1224 ?_
  refine L_aload (pc := 1227) X 2 1 rfl dL_law_1227 ?_
  refine L_arg (pc := 1228) (j := 1) X rfl rfl (by omega) dL_law_1228 dL_law_1229 dL_law_1230 dL_law_1231 dL_law_1232 ?_
  refine L_arg (pc := 1233) (j := 2) X rfl rfl (by omega) dL_law_1233 dL_law_1234 dL_law_1235 dL_law_1236 dL_law_1237 ?_
  refine L_arg (pc := 1238) (j := 3) X rfl rfl (by omega) dL_law_1238 dL_law_1239 dL_law_1240 dL_law_1241 dL_law_1242 ?_
  refine L_callM (pc := 1243) (Y' := m_X10_share) X yf_X10_share rfl (by decide) (ok_X10_share _ _ _ _ _ e2) tw_1586 tw_1587 tw_1585 rfl rfl (Nat.le_of_ble_eq_true rfl) dL_law_1243 ?_
  exact L_eq (pc := 1246) X dL_law_1246 (by decide) (kk _ _ hR1)
theorem L_sheet (X : Lc p s m meth c b L xs g) (hR : Rel M N) (hi : i + 6 ≤ L) (kk : ∀ M1 N1 : Mem, Rel M1 N1 → LW p l e s m below meth c b g M1 N1 1680 (Lv b s.heap.size i) []) : LW p l e s m below meth c b g M N 1251 (Lv b s.heap.size i) [] := by
  obtain ⟨v, M1, N1, e1, e2, hR1⟩ := q_sheet hR (xs (i + 1)) (xs (i + 2)) (xs (i + 3))
  refine L_aload (pc := 1251) X 1 2 rfl dL_law_1251 ?_
  refine L_arg (pc := 1252) (j := 1) X rfl rfl (by omega) dL_law_1252 dL_law_1253 dL_law_1254 dL_law_1255 dL_law_1256 ?_
  refine L_arg (pc := 1257) (j := 2) X rfl rfl (by omega) dL_law_1257 dL_law_1258 dL_law_1259 dL_law_1260 dL_law_1261 ?_
  refine L_arg (pc := 1262) (j := 3) X rfl rfl (by omega) dL_law_1262 dL_law_1263 dL_law_1264 dL_law_1265 dL_law_1266 ?_
  refine L_callC (pc := 1267) (Y' := m_X9_sheet) X yf_X9_sheet rfl (by decide) (ok_X9_sheet _ _ _ _ _ e1) tw_964 tw_965 tw_963 rfl rfl (Nat.le_of_ble_eq_true rfl) dL_law_1267 ?_
  refine L_aload (pc := 1270) X 2 1 rfl dL_law_1270 ?_
  refine L_arg (pc := 1271) (j := 1) X rfl rfl (by omega) dL_law_1271 dL_law_1272 dL_law_1273 dL_law_1274 dL_law_1275 ?_
  refine L_arg (pc := 1276) (j := 2) X rfl rfl (by omega) dL_law_1276 dL_law_1277 dL_law_1278 dL_law_1279 dL_law_1280 ?_
  refine L_arg (pc := 1281) (j := 3) X rfl rfl (by omega) dL_law_1281 dL_law_1282 dL_law_1283 dL_law_1284 dL_law_1285 ?_
  refine L_callM (pc := 1286) (Y' := m_X10_sheet) X yf_X10_sheet rfl (by decide) (ok_X10_sheet _ _ _ _ _ e2) tw_1596 tw_1597 tw_1595 rfl rfl (Nat.le_of_ble_eq_true rfl) dL_law_1286 ?_
  exact L_eq (pc := 1289) X dL_law_1289 (by decide) (kk _ _ hR1)
theorem L_write (X : Lc p s m meth c b L xs g) (hR : Rel M N) (hi : i + 6 ≤ L) (kk : ∀ M1 N1 : Mem, Rel M1 N1 → LW p l e s m below meth c b g M1 N1 1680 (Lv b s.heap.size i) []) : LW p l e s m below meth c b g M N 1294 (Lv b s.heap.size i) [] := by
  obtain ⟨v, M1, N1, e1, e2, hR1⟩ := q_write hR (xs (i + 1)) (xs (i + 2)) (xs (i + 3))
  refine L_aload (pc := 1294) X 1 2 rfl dL_law_1294 ?_
  refine L_arg (pc := 1295) (j := 1) X rfl rfl (by omega) dL_law_1295 dL_law_1296 dL_law_1297 dL_law_1298 dL_law_1299 ?_
  refine L_arg (pc := 1300) (j := 2) X rfl rfl (by omega) dL_law_1300 dL_law_1301 dL_law_1302 dL_law_1303 dL_law_1304 ?_
  refine L_arg (pc := 1305) (j := 3) X rfl rfl (by omega) dL_law_1305 dL_law_1306 dL_law_1307 dL_law_1308 dL_law_1309 ?_
  refine L_callC (pc := 1310) (Y' := m_X9_write) X yf_X9_write rfl (by decide) (ok_X9_write _ _ _ _ _ e1) tw_973 tw_974 tw_972 rfl rfl (Nat.le_of_ble_eq_true rfl) dL_law_1310 ?_
  refine L_aload (pc := 1313) X 2 1 rfl dL_law_1313 ?_
  refine L_arg (pc := 1314) (j := 1) X rfl rfl (by omega) dL_law_1314 dL_law_1315 dL_law_1316 dL_law_1317 dL_law_1318 ?_
  refine L_arg (pc := 1319) (j := 2) X rfl rfl (by omega) dL_law_1319 dL_law_1320 dL_law_1321 dL_law_1322 dL_law_1323 ?_
  refine L_arg (pc := 1324) (j := 3) X rfl rfl (by omega) dL_law_1324 dL_law_1325 dL_law_1326 dL_law_1327 dL_law_1328 ?_
  refine L_callM (pc := 1329) (Y' := m_X10_write) X yf_X10_write rfl (by decide) (ok_X10_write _ _ _ _ _ e2) tw_1601 tw_1602 tw_1600 rfl rfl (Nat.le_of_ble_eq_true rfl) dL_law_1329 ?_
  exact L_eq (pc := 1332) X dL_law_1332 (by decide) (kk _ _ hR1)
theorem L_log (X : Lc p s m meth c b L xs g) (hR : Rel M N) (hi : i + 6 ≤ L) (kk : ∀ M1 N1 : Mem, Rel M1 N1 → LW p l e s m below meth c b g M1 N1 1680 (Lv b s.heap.size i) []) : LW p l e s m below meth c b g M N 1337 (Lv b s.heap.size i) [] := by
  obtain ⟨v, M1, N1, e1, e2, hR1⟩ := q_log hR (xs (i + 1)) (xs (i + 2))
  refine L_aload (pc := 1337) X 1 2 rfl dL_law_1337 ?_
  refine L_arg (pc := 1338) (j := 1) X rfl rfl (by omega) dL_law_1338 dL_law_1339 dL_law_1340 dL_law_1341 dL_law_1342 ?_
  refine L_arg (pc := 1343) (j := 2) X rfl rfl (by omega) dL_law_1343 dL_law_1344 dL_law_1345 dL_law_1346 dL_law_1347 ?_
  refine L_callC (pc := 1348) (Y' := m_X9_log) X yf_X9_log rfl (by decide) (ok_X9_log _ _ _ _ e1) tw_980 tw_981 tw_979 rfl rfl (Nat.le_of_ble_eq_true rfl) dL_law_1348 ?_
  refine L_aload (pc := 1351) X 2 1 rfl dL_law_1351 ?_
  refine L_arg (pc := 1352) (j := 1) X rfl rfl (by omega) dL_law_1352 dL_law_1353 dL_law_1354 dL_law_1355 dL_law_1356 ?_
  refine L_arg (pc := 1357) (j := 2) X rfl rfl (by omega) dL_law_1357 dL_law_1358 dL_law_1359 dL_law_1360 dL_law_1361 ?_
  refine L_callM (pc := 1362) (Y' := m_X10_log) X yf_X10_log rfl (by decide) (ok_X10_log _ _ _ _ e2) tw_1608 tw_1609 tw_1607 rfl rfl (Nat.le_of_ble_eq_true rfl) dL_law_1362 ?_
  exact L_eq (pc := 1365) X dL_law_1365 (by decide) (kk _ _ hR1)
theorem L_copy (X : Lc p s m meth c b L xs g) (hR : Rel M N) (hi : i + 6 ≤ L) (kk : ∀ M1 N1 : Mem, Rel M1 N1 → LW p l e s m below meth c b g M1 N1 1680 (Lv b s.heap.size i) []) : LW p l e s m below meth c b g M N 1370 (Lv b s.heap.size i) [] := by
  obtain ⟨v, M1, N1, e1, e2, hR1⟩ := q_copy hR (xs (i + 1)) (xs (i + 2)) (xs (i + 3)) (xs (i + 4)) (xs (i + 5))
  refine L_aload (pc := 1370) X 1 2 rfl dL_law_1370 ?_
  refine L_arg (pc := 1371) (j := 1) X rfl rfl (by omega) dL_law_1371 dL_law_1372 dL_law_1373 dL_law_1374 dL_law_1375 ?_
  refine L_arg (pc := 1376) (j := 2) X rfl rfl (by omega) dL_law_1376 dL_law_1377 dL_law_1378 dL_law_1379 dL_law_1380 ?_
  refine L_arg (pc := 1381) (j := 3) X rfl rfl (by omega) dL_law_1381 dL_law_1382 dL_law_1383 dL_law_1384 dL_law_1385 ?_
  refine L_arg (pc := 1386) (j := 4) X rfl rfl (by omega) dL_law_1386 dL_law_1387 dL_law_1388 dL_law_1389 dL_law_1390 ?_
  refine L_arg (pc := 1391) (j := 5) X rfl rfl (by omega) dL_law_1391 dL_law_1392 dL_law_1393 dL_law_1394 dL_law_1395 ?_
  refine L_callC (pc := 1396) (Y' := m_X9_copy) X yf_X9_copy rfl (by decide) (ok_X9_copy _ _ _ _ _ _ _ e1) tw_989 tw_990 tw_988 rfl rfl (Nat.le_of_ble_eq_true rfl) dL_law_1396 ?_
  refine L_aload (pc := 1399) X 2 1 rfl dL_law_1399 ?_
  refine L_arg (pc := 1400) (j := 1) X rfl rfl (by omega) dL_law_1400 dL_law_1401 dL_law_1402 dL_law_1403 dL_law_1404 ?_
  refine L_arg (pc := 1405) (j := 2) X rfl rfl (by omega) dL_law_1405 dL_law_1406 dL_law_1407 dL_law_1408 dL_law_1409 ?_
  refine L_arg (pc := 1410) (j := 3) X rfl rfl (by omega) dL_law_1410 dL_law_1411 dL_law_1412 dL_law_1413 dL_law_1414 ?_
  refine L_arg (pc := 1415) (j := 4) X rfl rfl (by omega) dL_law_1415 dL_law_1416 dL_law_1417 dL_law_1418 dL_law_1419 ?_
  refine L_arg (pc := 1420) (j := 5) X rfl rfl (by omega) dL_law_1420 dL_law_1421 dL_law_1422 dL_law_1423 dL_law_1424 ?_
  refine L_callM (pc := 1425) (Y' := m_X10_copy) X yf_X10_copy rfl (by decide) (ok_X10_copy _ _ _ _ _ _ _ e2) tw_1612 tw_1613 tw_1611 rfl rfl (Nat.le_of_ble_eq_true rfl) dL_law_1425 ?_
  exact L_eq (pc := 1428) X dL_law_1428 (by decide) (kk _ _ hR1)
theorem L_lay (X : Lc p s m meth c b L xs g) (hR : Rel M N) (hi : i + 6 ≤ L) (kk : ∀ M1 N1 : Mem, Rel M1 N1 → LW p l e s m below meth c b g M1 N1 1680 (Lv b s.heap.size i) []) : LW p l e s m below meth c b g M N 1433 (Lv b s.heap.size i) [] := by
  obtain ⟨v, M1, N1, e1, e2, hR1⟩ := q_lay hR (xs (i + 1)) (xs (i + 2)) (xs (i + 3))
  refine L_aload (pc := 1433) X 1 2 rfl dL_law_1433 ?_
  refine L_arg (pc := 1434) (j := 1) X rfl rfl (by omega) dL_law_1434 dL_law_1435 dL_law_1436 dL_law_1437 dL_law_1438 ?_
  refine L_arg (pc := 1439) (j := 2) X rfl rfl (by omega) dL_law_1439 dL_law_1440 dL_law_1441 dL_law_1442 dL_law_1443 ?_
  refine L_arg (pc := 1444) (j := 3) X rfl rfl (by omega) dL_law_1444 dL_law_1445 dL_law_1446 dL_law_1447 dL_law_1448 ?_
  refine L_callC (pc := 1449) (Y' := m_X9_lay) X yf_X9_lay rfl (by decide) (ok_X9_lay _ _ _ _ _ e1) tw_998 tw_999 tw_997 rfl rfl (Nat.le_of_ble_eq_true rfl) dL_law_1449 ?_
  refine L_aload (pc := 1452) X 2 1 rfl dL_law_1452 ?_
  refine L_arg (pc := 1453) (j := 1) X rfl rfl (by omega) dL_law_1453 dL_law_1454 dL_law_1455 dL_law_1456 dL_law_1457 ?_
  refine L_arg (pc := 1458) (j := 2) X rfl rfl (by omega) dL_law_1458 dL_law_1459 dL_law_1460 dL_law_1461 dL_law_1462 ?_
  refine L_arg (pc := 1463) (j := 3) X rfl rfl (by omega) dL_law_1463 dL_law_1464 dL_law_1465 dL_law_1466 dL_law_1467 ?_
  refine L_callM (pc := 1468) (Y' := m_X10_lay) X yf_X10_lay rfl (by decide) (ok_X10_lay _ _ _ _ _ e2) tw_1616 tw_1617 tw_1615 rfl rfl (Nat.le_of_ble_eq_true rfl) dL_law_1468 ?_
  exact L_eq (pc := 1471) X dL_law_1471 (by decide) (kk _ _ hR1)
theorem L_ask (X : Lc p s m meth c b L xs g) (hR : Rel M N) (hi : i + 6 ≤ L) (kk : ∀ M1 N1 : Mem, Rel M1 N1 → LW p l e s m below meth c b g M1 N1 1680 (Lv b s.heap.size i) []) : LW p l e s m below meth c b g M N 1476 (Lv b s.heap.size i) [] := by
  obtain ⟨v, M1, N1, e1, e2, hR1⟩ := q_ask hR (xs (i + 1)) (xs (i + 2))
  refine L_aload (pc := 1476) X 1 2 rfl dL_law_1476 ?_
  refine L_arg (pc := 1477) (j := 1) X rfl rfl (by omega) dL_law_1477 dL_law_1478 dL_law_1479 dL_law_1480 dL_law_1481 ?_
  refine L_arg (pc := 1482) (j := 2) X rfl rfl (by omega) dL_law_1482 dL_law_1483 dL_law_1484 dL_law_1485 dL_law_1486 ?_
  refine L_callC (pc := 1487) (Y' := m_X9_ask) X yf_X9_ask rfl (by decide) (ok_X9_ask _ _ _ _ e1) tw_1007 tw_1008 tw_1006 rfl rfl (Nat.le_of_ble_eq_true rfl) dL_law_1487 ?_
  refine L_aload (pc := 1490) X 2 1 rfl dL_law_1490 ?_
  refine L_arg (pc := 1491) (j := 1) X rfl rfl (by omega) dL_law_1491 dL_law_1492 dL_law_1493 dL_law_1494 dL_law_1495 ?_
  refine L_arg (pc := 1496) (j := 2) X rfl rfl (by omega) dL_law_1496 dL_law_1497 dL_law_1498 dL_law_1499 dL_law_1500 ?_
  refine L_callM (pc := 1501) (Y' := m_X10_ask) X yf_X10_ask rfl (by decide) (ok_X10_ask _ _ _ _ e2) tw_1623 tw_1624 tw_1622 rfl rfl (Nat.le_of_ble_eq_true rfl) dL_law_1501 ?_
  exact L_eq (pc := 1504) X dL_law_1504 (by decide) (kk _ _ hR1)
theorem L_item (X : Lc p s m meth c b L xs g) (hR : Rel M N) (hi : i + 6 ≤ L) (kk : ∀ M1 N1 : Mem, Rel M1 N1 → LW p l e s m below meth c b g M1 N1 1680 (Lv b s.heap.size i) []) : LW p l e s m below meth c b g M N 1509 (Lv b s.heap.size i) [] := by
  obtain ⟨v, M1, N1, e1, e2, hR1⟩ := q_item hR (xs (i + 1)) (xs (i + 2))
  refine L_aload (pc := 1509) X 1 2 rfl dL_law_1509 ?_
  refine L_arg (pc := 1510) (j := 1) X rfl rfl (by omega) dL_law_1510 dL_law_1511 dL_law_1512 dL_law_1513 dL_law_1514 ?_
  refine L_arg (pc := 1515) (j := 2) X rfl rfl (by omega) dL_law_1515 dL_law_1516 dL_law_1517 dL_law_1518 dL_law_1519 ?_
  refine L_callC (pc := 1520) (Y' := m_X9_item) X yf_X9_item rfl (by decide) (ok_X9_item _ _ _ _ e1) tw_1015 tw_1016 tw_1014 rfl rfl (Nat.le_of_ble_eq_true rfl) dL_law_1520 ?_
  refine L_aload (pc := 1523) X 2 1 rfl dL_law_1523 ?_
  refine L_arg (pc := 1524) (j := 1) X rfl rfl (by omega) dL_law_1524 dL_law_1525 dL_law_1526 dL_law_1527 dL_law_1528 ?_
  refine L_arg (pc := 1529) (j := 2) X rfl rfl (by omega) dL_law_1529 dL_law_1530 dL_law_1531 dL_law_1532 dL_law_1533 ?_
  refine L_callM (pc := 1534) (Y' := m_X10_item) X yf_X10_item rfl (by decide) (ok_X10_item _ _ _ _ e2) tw_1627 tw_1628 tw_1626 rfl rfl (Nat.le_of_ble_eq_true rfl) dL_law_1534 ?_
  exact L_eq (pc := 1537) X dL_law_1537 (by decide) (kk _ _ hR1)
theorem L_rest (X : Lc p s m meth c b L xs g) (hR : Rel M N) (hi : i + 6 ≤ L) (kk : ∀ M1 N1 : Mem, Rel M1 N1 → LW p l e s m below meth c b g M1 N1 1680 (Lv b s.heap.size i) []) : LW p l e s m below meth c b g M N 1542 (Lv b s.heap.size i) [] := by
  obtain ⟨v, M1, N1, e1, e2, hR1⟩ := q_rest hR (xs (i + 1)) (xs (i + 2))
  refine L_aload (pc := 1542) X 1 2 rfl dL_law_1542 ?_
  refine L_arg (pc := 1543) (j := 1) X rfl rfl (by omega) dL_law_1543 dL_law_1544 dL_law_1545 dL_law_1546 dL_law_1547 ?_
  refine L_arg (pc := 1548) (j := 2) X rfl rfl (by omega) dL_law_1548 dL_law_1549 dL_law_1550 dL_law_1551 dL_law_1552 ?_
  refine L_callC (pc := 1553) (Y' := m_X9_rest) X yf_X9_rest rfl (by decide) (ok_X9_rest _ _ _ _ e1) tw_1020 tw_1021 tw_1019 rfl rfl (Nat.le_of_ble_eq_true rfl) dL_law_1553 ?_
  refine L_aload (pc := 1556) X 2 1 rfl dL_law_1556 ?_
  refine L_arg (pc := 1557) (j := 1) X rfl rfl (by omega) dL_law_1557 dL_law_1558 dL_law_1559 dL_law_1560 dL_law_1561 ?_
  refine L_arg (pc := 1562) (j := 2) X rfl rfl (by omega) dL_law_1562 dL_law_1563 dL_law_1564 dL_law_1565 dL_law_1566 ?_
  refine L_callM (pc := 1567) (Y' := m_X10_rest) X yf_X10_rest rfl (by decide) (ok_X10_rest _ _ _ _ e2) tw_1631 tw_1632 tw_1630 rfl rfl (Nat.le_of_ble_eq_true rfl) dL_law_1567 ?_
  exact L_eq (pc := 1570) X dL_law_1570 (by decide) (kk _ _ hR1)
theorem L_tell (X : Lc p s m meth c b L xs g) (hR : Rel M N) (hi : i + 6 ≤ L) (kk : ∀ M1 N1 : Mem, Rel M1 N1 → LW p l e s m below meth c b g M1 N1 1680 (Lv b s.heap.size i) []) : LW p l e s m below meth c b g M N 1575 (Lv b s.heap.size i) [] := by
  obtain ⟨v, M1, N1, e1, e2, hR1⟩ := q_tell hR (xs (i + 1))
  refine L_aload (pc := 1575) X 1 2 rfl dL_law_1575 ?_
  refine L_arg (pc := 1576) (j := 1) X rfl rfl (by omega) dL_law_1576 dL_law_1577 dL_law_1578 dL_law_1579 dL_law_1580 ?_
  refine L_callC (pc := 1581) (Y' := m_X9_tell) X yf_X9_tell rfl (by decide) (ok_X9_tell _ _ _ e1) tw_1024 tw_1025 tw_1023 rfl rfl (Nat.le_of_ble_eq_true rfl) dL_law_1581 ?_
  refine L_aload (pc := 1584) X 2 1 rfl dL_law_1584 ?_
  refine L_arg (pc := 1585) (j := 1) X rfl rfl (by omega) dL_law_1585 dL_law_1586 dL_law_1587 dL_law_1588 dL_law_1589 ?_
  refine L_callM (pc := 1590) (Y' := m_X10_tell) X yf_X10_tell rfl (by decide) (ok_X10_tell _ _ _ e2) tw_1635 tw_1636 tw_1634 rfl rfl (Nat.le_of_ble_eq_true rfl) dL_law_1590 ?_
  exact L_eq (pc := 1593) X dL_law_1593 (by decide) (kk _ _ hR1)
theorem L_check (X : Lc p s m meth c b L xs g) (hR : Rel M N) (hi : i + 6 ≤ L) (kk : ∀ M1 N1 : Mem, Rel M1 N1 → LW p l e s m below meth c b g M1 N1 1680 (Lv b s.heap.size i) []) : LW p l e s m below meth c b g M N 1598 (Lv b s.heap.size i) [] := by
  obtain ⟨v, M1, N1, e1, e2, hR1⟩ := q_check hR (xs (i + 1)) (xs (i + 2))
  refine L_aload (pc := 1598) X 1 2 rfl dL_law_1598 ?_
  refine L_arg (pc := 1599) (j := 1) X rfl rfl (by omega) dL_law_1599 dL_law_1600 dL_law_1601 dL_law_1602 dL_law_1603 ?_
  refine L_arg (pc := 1604) (j := 2) X rfl rfl (by omega) dL_law_1604 dL_law_1605 dL_law_1606 dL_law_1607 dL_law_1608 ?_
  refine L_callC (pc := 1609) (Y' := m_X9_check) X yf_X9_check rfl (by decide) (ok_X9_check _ _ _ _ e1) tw_1028 tw_1029 tw_1027 rfl rfl (Nat.le_of_ble_eq_true rfl) dL_law_1609 ?_
  refine L_aload (pc := 1612) X 2 1 rfl dL_law_1612 ?_
  refine L_arg (pc := 1613) (j := 1) X rfl rfl (by omega) dL_law_1613 dL_law_1614 dL_law_1615 dL_law_1616 dL_law_1617 ?_
  refine L_arg (pc := 1618) (j := 2) X rfl rfl (by omega) dL_law_1618 dL_law_1619 dL_law_1620 dL_law_1621 dL_law_1622 ?_
  refine L_callM (pc := 1623) (Y' := m_X10_check) X yf_X10_check rfl (by decide) (ok_X10_check _ _ _ _ e2) tw_1639 tw_1640 tw_1638 rfl rfl (Nat.le_of_ble_eq_true rfl) dL_law_1623 ?_
  exact L_eq (pc := 1626) X dL_law_1626 (by decide) (kk _ _ hR1)
theorem L_keep (X : Lc p s m meth c b L xs g) (hR : Rel M N) (hi : i + 6 ≤ L) (kk : ∀ M1 N1 : Mem, Rel M1 N1 → LW p l e s m below meth c b g M1 N1 1680 (Lv b s.heap.size i) []) : LW p l e s m below meth c b g M N 1631 (Lv b s.heap.size i) [] := by
  obtain ⟨v, M1, N1, e1, e2, hR1⟩ := q_keep hR 
  refine L_aload (pc := 1631) X 1 2 rfl dL_law_1631 ?_
  refine L_callC (pc := 1632) (Y' := m_X9_keep) X yf_X9_keep rfl (by decide) (ok_X9_keep  _ _ e1) tw_1040 tw_1041 tw_1039 rfl rfl (Nat.le_of_ble_eq_true rfl) dL_law_1632 ?_
  refine L_aload (pc := 1635) X 2 1 rfl dL_law_1635 ?_
  refine L_callM (pc := 1636) (Y' := m_X10_keep) X yf_X10_keep rfl (by decide) (ok_X10_keep  _ _ e2) tw_1652 tw_1653 tw_1651 rfl rfl (Nat.le_of_ble_eq_true rfl) dL_law_1636 ?_
  exact L_eq (pc := 1639) X dL_law_1639 (by decide) (kk _ _ hR1)
theorem L_back (X : Lc p s m meth c b L xs g) (hR : Rel M N) (hi : i + 6 ≤ L) (kk : ∀ M1 N1 : Mem, Rel M1 N1 → LW p l e s m below meth c b g M1 N1 1680 (Lv b s.heap.size i) []) : LW p l e s m below meth c b g M N 1644 (Lv b s.heap.size i) [] := by
  obtain ⟨v, M1, N1, e1, e2, hR1⟩ := q_back hR 
  refine L_aload (pc := 1644) X 1 2 rfl dL_law_1644 ?_
  refine L_callC (pc := 1645) (Y' := m_X9_back) X yf_X9_back rfl (by decide) (ok_X9_back  _ _ e1) tw_1053 tw_1054 tw_1052 rfl rfl (Nat.le_of_ble_eq_true rfl) dL_law_1645 ?_
  refine L_aload (pc := 1648) X 2 1 rfl dL_law_1648 ?_
  refine L_callM (pc := 1649) (Y' := m_X10_back) X yf_X10_back rfl (by decide) (ok_X10_back  _ _ e2) tw_1656 tw_1657 tw_1655 rfl rfl (Nat.le_of_ble_eq_true rfl) dL_law_1649 ?_
  exact L_eq (pc := 1652) X dL_law_1652 (by decide) (kk _ _ hR1)
theorem L_count (X : Lc p s m meth c b L xs g) (hR : Rel M N) (hi : i + 6 ≤ L) (kk : ∀ M1 N1 : Mem, Rel M1 N1 → LW p l e s m below meth c b g M1 N1 1680 (Lv b s.heap.size i) []) : LW p l e s m below meth c b g M N 1657 (Lv b s.heap.size i) [] := by
  obtain ⟨v, M1, N1, e1, e2, hR1⟩ := q_count hR (xs (i + 1))
  refine L_aload (pc := 1657) X 1 2 rfl dL_law_1657 ?_
  refine L_arg (pc := 1658) (j := 1) X rfl rfl (by omega) dL_law_1658 dL_law_1659 dL_law_1660 dL_law_1661 dL_law_1662 ?_
  refine L_callC (pc := 1663) (Y' := m_X9_count) X yf_X9_count rfl (by decide) (ok_X9_count _ _ _ e1) tw_1057 tw_1058 tw_1056 rfl rfl (Nat.le_of_ble_eq_true rfl) dL_law_1663 ?_
  refine L_aload (pc := 1666) X 2 1 rfl dL_law_1666 ?_
  refine L_arg (pc := 1667) (j := 1) X rfl rfl (by omega) dL_law_1667 dL_law_1668 dL_law_1669 dL_law_1670 dL_law_1671 ?_
  refine L_callM (pc := 1672) (Y' := m_X10_count) X yf_X10_count rfl (by decide) (ok_X10_count _ _ _ e2) tw_1660 tw_1661 tw_1659 rfl rfl (Nat.le_of_ble_eq_true rfl) dL_law_1672 ?_
  exact L_eq (pc := 1675) X dL_law_1675 (by decide) (kk _ _ hR1)
theorem L_switch (X : Lc p s m meth c b L xs g) (hR : Rel M N) (hi : i + 6 ≤ L) (y : Int32) (kk : ∀ M1 N1 : Mem, Rel M1 N1 → LW p l e s m below meth c b g M1 N1 1680 (Lv b s.heap.size i) []) : LW p l e s m below meth c b g M N 33 (Lv b s.heap.size i) [.int y] := by
  have go : ∀ (k : Int32) (tgt : Nat), y = k → tswb 33 0 45 #[199, 252, 285, 318, 351, 384, 427, 450, 463, 496, 529, 562, 585, 598, 621, 634, 677, 710, 753, 786, 819, 842, 885, 928, 951, 984, 1007, 1060, 1093, 1106, 1139, 1152, 1175, 1218, 1261, 1304, 1337, 1400, 1443, 1476, 1509, 1542, 1565, 1598, 1611, 1624] k tgt = true → LW p l e s m below meth c b g M N tgt (Lv b s.heap.size i) [] → LW p l e s m below meth c b g M N 33 (Lv b s.heap.size i) [.int y] := by
    intro k tgt hk hb0 k1 H locs ls hC hM hS hl
    subst hk
    unfold tswb at hb0
    simp only [Bool.and_eq_true, decide_eq_true_eq] at hb0
    obtain ⟨⟨h1, h2⟩, h3⟩ := hb0
    cases ho2 : (#[199, 252, 285, 318, 351, 384, 427, 450, 463, 496, 529, 562, 585, 598, 621, 634, 677, 710, 753, 786, 819, 842, 885, 928, 951, 984, 1007, 1060, 1093, 1106, 1139, 1152, 1175, 1218, 1261, 1304, 1337, 1400, 1443, 1476, 1509, 1542, 1565, 1598, 1611, 1624] : Array Int)[(y.toInt - 0).toNat]? with
    | none => rw [ho2] at h3; cases h3
    | some o =>
      rw [ho2] at h3
      exact lv_tableIn X.1.1 X.1.2.1 dL_law_33 h1 h2 ho2 (of_decide_eq_true h3) (k1 H locs ls hC hM hS hl)
  by_cases h0 : y = 0
  · exact go 0 232 h0 (by decide +kernel) (L_mark X hR hi kk)
  by_cases h1 : y = 1
  · exact go 1 285 h1 (by decide +kernel) (L_told X hR hi kk)
  by_cases h2 : y = 2
  · exact go 2 318 h2 (by decide +kernel) (L_as X hR hi kk)
  by_cases h3 : y = 3
  · exact go 3 351 h3 (by decide +kernel) (L_put X hR hi kk)
  by_cases h4 : y = 4
  · exact go 4 384 h4 (by decide +kernel) (L_name X hR hi kk)
  by_cases h5 : y = 5
  · exact go 5 417 h5 (by decide +kernel) (L_feed X hR hi kk)
  by_cases h6 : y = 6
  · exact go 6 460 h6 (by decide +kernel) (L_trim X hR hi kk)
  by_cases h7 : y = 7
  · exact go 7 483 h7 (by decide +kernel) (L_law X hR hi kk)
  by_cases h8 : y = 8
  · exact go 8 496 h8 (by decide +kernel) (L_of X hR hi kk)
  by_cases h9 : y = 9
  · exact go 9 529 h9 (by decide +kernel) (L_why X hR hi kk)
  by_cases h10 : y = 10
  · exact go 10 562 h10 (by decide +kernel) (L_cape X hR hi kk)
  by_cases h11 : y = 11
  · exact go 11 595 h11 (by decide +kernel) (L_capes X hR hi kk)
  by_cases h12 : y = 12
  · exact go 12 618 h12 (by decide +kernel) (L_next X hR hi kk)
  by_cases h13 : y = 13
  · exact go 13 631 h13 (by decide +kernel) (L_choose X hR hi kk)
  by_cases h14 : y = 14
  · exact go 14 654 h14 (by decide +kernel) (L_clear X hR hi kk)
  by_cases h15 : y = 15
  · exact go 15 667 h15 (by decide +kernel) (L_match X hR hi kk)
  by_cases h16 : y = 16
  · exact go 16 710 h16 (by decide +kernel) (L_join X hR hi kk)
  by_cases h17 : y = 17
  · exact go 17 743 h17 (by decide +kernel) (L_passage X hR hi kk)
  by_cases h18 : y = 18
  · exact go 18 786 h18 (by decide +kernel) (L_between X hR hi kk)
  by_cases h19 : y = 19
  · exact go 19 819 h19 (by decide +kernel) (L_same X hR hi kk)
  by_cases h20 : y = 20
  · exact go 20 852 h20 (by decide +kernel) (L_kept X hR hi kk)
  by_cases h21 : y = 21
  · exact go 21 875 h21 (by decide +kernel) (L_set X hR hi kk)
  by_cases h22 : y = 22
  · exact go 22 918 h22 (by decide +kernel) (L_clock X hR hi kk)
  by_cases h23 : y = 23
  · exact go 23 961 h23 (by decide +kernel) (L_smooth X hR hi kk)
  by_cases h24 : y = 24
  · exact go 24 984 h24 (by decide +kernel) (L_changes X hR hi kk)
  by_cases h25 : y = 25
  · exact go 25 1017 h25 (by decide +kernel) (L_from X hR hi kk)
  by_cases h26 : y = 26
  · exact go 26 1040 h26 (by decide +kernel) (L_court X hR hi kk)
  by_cases h27 : y = 27
  · exact go 27 1093 h27 (by decide +kernel) (L_survey X hR hi kk)
  by_cases h28 : y = 28
  · exact go 28 1126 h28 (by decide +kernel) (L_held X hR hi kk)
  by_cases h29 : y = 29
  · exact go 29 1139 h29 (by decide +kernel) (L_misses X hR hi kk)
  by_cases h30 : y = 30
  · exact go 30 1172 h30 (by decide +kernel) (L_best X hR hi kk)
  by_cases h31 : y = 31
  · exact go 31 1185 h31 (by decide +kernel) (L_seed X hR hi kk)
  by_cases h32 : y = 32
  · exact go 32 1208 h32 (by decide +kernel) (L_share X hR hi kk)
  by_cases h33 : y = 33
  · exact go 33 1251 h33 (by decide +kernel) (L_sheet X hR hi kk)
  by_cases h34 : y = 34
  · exact go 34 1294 h34 (by decide +kernel) (L_write X hR hi kk)
  by_cases h35 : y = 35
  · exact go 35 1337 h35 (by decide +kernel) (L_log X hR hi kk)
  by_cases h36 : y = 36
  · exact go 36 1370 h36 (by decide +kernel) (L_copy X hR hi kk)
  by_cases h37 : y = 37
  · exact go 37 1433 h37 (by decide +kernel) (L_lay X hR hi kk)
  by_cases h38 : y = 38
  · exact go 38 1476 h38 (by decide +kernel) (L_ask X hR hi kk)
  by_cases h39 : y = 39
  · exact go 39 1509 h39 (by decide +kernel) (L_item X hR hi kk)
  by_cases h40 : y = 40
  · exact go 40 1542 h40 (by decide +kernel) (L_rest X hR hi kk)
  by_cases h41 : y = 41
  · exact go 41 1575 h41 (by decide +kernel) (L_tell X hR hi kk)
  by_cases h42 : y = 42
  · exact go 42 1598 h42 (by decide +kernel) (L_check X hR hi kk)
  by_cases h43 : y = 43
  · exact go 43 1631 h43 (by decide +kernel) (L_keep X hR hi kk)
  by_cases h44 : y = 44
  · exact go 44 1644 h44 (by decide +kernel) (L_back X hR hi kk)
  by_cases h45 : y = 45
  · exact go 45 1657 h45 (by decide +kernel) (L_count X hR hi kk)
  intro H locs ls hC hM hS hl
  refine lv_tableOut (tgt := 1680) X.1.1 X.1.2.1 dL_law_33 (tsw_out [0, 1, 2, 3, 4, 5, 6, 7, 8, 9, 10, 11, 12, 13, 14, 15, 16, 17, 18, 19, 20, 21, 22, 23, 24, 25, 26, 27, 28, 29, 30, 31, 32, 33, 34, 35, 36, 37, 38, 39, 40, 41, 42, 43, 44, 45] (by decide +kernel) ?_) (by decide) (kk M N hR H locs ls hC hM hS hl)
  intro k hk
  rcases List.mem_cons.mp hk with rfl | hk
  · exact h0
  rcases List.mem_cons.mp hk with rfl | hk
  · exact h1
  rcases List.mem_cons.mp hk with rfl | hk
  · exact h2
  rcases List.mem_cons.mp hk with rfl | hk
  · exact h3
  rcases List.mem_cons.mp hk with rfl | hk
  · exact h4
  rcases List.mem_cons.mp hk with rfl | hk
  · exact h5
  rcases List.mem_cons.mp hk with rfl | hk
  · exact h6
  rcases List.mem_cons.mp hk with rfl | hk
  · exact h7
  rcases List.mem_cons.mp hk with rfl | hk
  · exact h8
  rcases List.mem_cons.mp hk with rfl | hk
  · exact h9
  rcases List.mem_cons.mp hk with rfl | hk
  · exact h10
  rcases List.mem_cons.mp hk with rfl | hk
  · exact h11
  rcases List.mem_cons.mp hk with rfl | hk
  · exact h12
  rcases List.mem_cons.mp hk with rfl | hk
  · exact h13
  rcases List.mem_cons.mp hk with rfl | hk
  · exact h14
  rcases List.mem_cons.mp hk with rfl | hk
  · exact h15
  rcases List.mem_cons.mp hk with rfl | hk
  · exact h16
  rcases List.mem_cons.mp hk with rfl | hk
  · exact h17
  rcases List.mem_cons.mp hk with rfl | hk
  · exact h18
  rcases List.mem_cons.mp hk with rfl | hk
  · exact h19
  rcases List.mem_cons.mp hk with rfl | hk
  · exact h20
  rcases List.mem_cons.mp hk with rfl | hk
  · exact h21
  rcases List.mem_cons.mp hk with rfl | hk
  · exact h22
  rcases List.mem_cons.mp hk with rfl | hk
  · exact h23
  rcases List.mem_cons.mp hk with rfl | hk
  · exact h24
  rcases List.mem_cons.mp hk with rfl | hk
  · exact h25
  rcases List.mem_cons.mp hk with rfl | hk
  · exact h26
  rcases List.mem_cons.mp hk with rfl | hk
  · exact h27
  rcases List.mem_cons.mp hk with rfl | hk
  · exact h28
  rcases List.mem_cons.mp hk with rfl | hk
  · exact h29
  rcases List.mem_cons.mp hk with rfl | hk
  · exact h30
  rcases List.mem_cons.mp hk with rfl | hk
  · exact h31
  rcases List.mem_cons.mp hk with rfl | hk
  · exact h32
  rcases List.mem_cons.mp hk with rfl | hk
  · exact h33
  rcases List.mem_cons.mp hk with rfl | hk
  · exact h34
  rcases List.mem_cons.mp hk with rfl | hk
  · exact h35
  rcases List.mem_cons.mp hk with rfl | hk
  · exact h36
  rcases List.mem_cons.mp hk with rfl | hk
  · exact h37
  rcases List.mem_cons.mp hk with rfl | hk
  · exact h38
  rcases List.mem_cons.mp hk with rfl | hk
  · exact h39
  rcases List.mem_cons.mp hk with rfl | hk
  · exact h40
  rcases List.mem_cons.mp hk with rfl | hk
  · exact h41
  rcases List.mem_cons.mp hk with rfl | hk
  · exact h42
  rcases List.mem_cons.mp hk with rfl | hk
  · exact h43
  rcases List.mem_cons.mp hk with rfl | hk
  · exact h44
  rcases List.mem_cons.mp hk with rfl | hk
  · exact h45
  cases hk
end LCS
