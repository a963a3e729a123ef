section WC
variable {p : Program} {l : Launch} {e : Env} {s : State} {m : MethodId} {args : Array Value} {below : List Frame} {meth : Method} {c : Code} {B : Nat} {D : va_G} {Y : Nat → ClassId} {o : Ou} {Q : State → Prop} {b LN : Nat} {xs : Nat → Int32} {k sl : Nat}
set_option maxRecDepth 100000 in
theorem w_law_0 (C : Cx p s m args c cL_law 9 RL B D Y) (hX : XI B s) (hl9 : l.stackTraces = false) (hXs : va_X b LN xs s s.heap) (hbl : b < s.heap.size) (hbA : ¬ B ≤ b) {M M2 : Mem} {x5 a1 a2 a3 : Int32} (h1 : vp_in (x5 + 1) LN) (h2 : vp_in (x5 + 2) LN) (h3 : vp_in (x5 + 3) LN) (e1 : xs (x5 + 1).toNatClampNeg = a1) (e2 : xs (x5 + 2).toNatClampNeg = a2) (e3 : xs (x5 + 3).toNatClampNeg = a3) (hkc : k + 4 ≤ room_1.cells) (hks : sl + 24 ≤ room_1.slots) (hf : f_law_0 M a1 a2 a3 = some (some M2)) (K : ∀ o2, At p l e room_1 s m args below meth c 9 (k + 4) (sl + 24) Q B D Y o2 4081 M2 [(0, .ref b), (1, .ref (B + 0)), (2, .ref (B + 47)), (3, .ref (B + 110)), (4, .ref (B + 111)), (5, .int x5)] []) : At p l e room_1 s m args below meth c 9 k sl Q B D Y o 280 M [(0, .ref b), (1, .ref (B + 0)), (2, .ref (B + 47)), (3, .ref (B + 110)), (4, .ref (B + 111)), (5, .int x5)] [] := by
  dsimp only [f_law_0] at hf
  refine A_aload_n C (pc := 280) 1 rfl dL_law_280 ?_
  refine A_aload_n C (pc := 281) 0 rfl dL_law_281 ?_
  refine A_iload C (pc := 282) 5 rfl dL_law_282 ?_
  refine A_iconst C (pc := 284) ic_1 dL_law_284 ?_
  refine A_iadd C (pc := 285) dL_law_285 ?_
  refine A_sld C (pc := 286) hXs hbl hbA h1 e1 dL_law_286 ?_
  refine A_aload_n C (pc := 287) 0 rfl dL_law_287 ?_
  refine A_iload C (pc := 288) 5 rfl dL_law_288 ?_
  refine A_iconst C (pc := 290) ic_2 dL_law_290 ?_
  refine A_iadd C (pc := 291) dL_law_291 ?_
  refine A_sld C (pc := 292) hXs hbl hbA h2 e2 dL_law_292 ?_
  refine A_aload_n C (pc := 293) 3 rfl dL_law_293 ?_
  obtain ⟨z294, h294, hf⟩ := bd_i hf
  refine L_callS C (pc := 294) hX (A := [.ref (B + 0), .int a1, .int a2, .ref (B + 110)]) (rest := []) kl_L_192 kw_L_lay (m_L_lay l hl9 B D Y o h294) rfl rfl (Nat.le_of_ble_eq_true rfl) ⟨rfl, rfl, Nat.le_of_ble_eq_true rfl, Nat.le_of_ble_eq_true rfl⟩ ⟨by omega, by omega⟩ dL_law_294 ?_
  refine A_istore C (pc := 297) [(0, .ref b), (1, .ref (B + 0)), (2, .ref (B + 47)), (3, .ref (B + 110)), (4, .ref (B + 111)), (5, .int x5), (6, .int z294.1)] (by decide) [1, 2, 3, 4, 5, 6, 0] rfl dL_law_297 ?_
  refine A_aload_n C (pc := 299) 2 rfl dL_law_299 ?_
  refine A_aload_n C (pc := 300) 0 rfl dL_law_300 ?_
  refine A_iload C (pc := 301) 5 rfl dL_law_301 ?_
  refine A_iconst C (pc := 303) ic_1 dL_law_303 ?_
  refine A_iadd C (pc := 304) dL_law_304 ?_
  refine A_sld C (pc := 305) hXs hbl hbA h1 e1 dL_law_305 ?_
  refine A_aload_n C (pc := 306) 0 rfl dL_law_306 ?_
  refine A_iload C (pc := 307) 5 rfl dL_law_307 ?_
  refine A_iconst C (pc := 309) ic_2 dL_law_309 ?_
  refine A_iadd C (pc := 310) dL_law_310 ?_
  refine A_sld C (pc := 311) hXs hbl hbA h2 e2 dL_law_311 ?_
  obtain ⟨z312, h312, hf⟩ := bd_i hf
  refine A_callV1 C (pc := 312) (A := [.int a1, .int a2]) (rest := []) k_L_197 ky_X7_lay kv_X7_lay (m_X7_lay l B D Y _ h312) (by decide) rfl rfl rfl rfl (Nat.le_of_ble_eq_true rfl) ⟨rfl, rfl, Nat.le_of_ble_eq_true rfl, Nat.le_of_ble_eq_true rfl⟩ ⟨by omega, by omega⟩ dL_law_312 ?_
  refine A_istore C (pc := 315) [(0, .ref b), (1, .ref (B + 0)), (2, .ref (B + 47)), (3, .ref (B + 110)), (4, .ref (B + 111)), (5, .int x5), (6, .int z294.1), (7, .int z312.1)] (by decide) [1, 2, 3, 4, 5, 6, 7, 0] rfl dL_law_315 ?_
  refine A_aload_n C (pc := 317) 2 rfl dL_law_317 ?_
  obtain ⟨z318, h318, hf⟩ := bd_i hf
  refine A_callV1 C (pc := 318) (A := []) (rest := []) k_L_198 ky_X7_thrown kv_X7_thrown (m_X7_thrown l B D Y _ h318) (by decide) rfl rfl rfl rfl (Nat.le_of_ble_eq_true rfl) ⟨rfl, rfl, Nat.le_of_ble_eq_true rfl, Nat.le_of_ble_eq_true rfl⟩ ⟨by omega, by omega⟩ dL_law_318 ?_
  refine A_iload C (pc := 321) 6 rfl dL_law_321 ?_
  refine A_icmp_eq C (pc := 323) 328 (by decide) dL_law_323 hf (fun _ hf => ?_) (fun _ hf => ?_)
  · refine A_iload C (pc := 328) 6 rfl dL_law_328 ?_
    refine A_if_ne C (pc := 330) 345 (by decide) dL_law_330 hf (fun _ hf => ?_) (fun _ hf => ?_)
    · refine A_goto C (pc := 345) 4081 (by decide) dL_law_345 ?_
      cases hf
      refine A_sub [0, 1, 2, 3, 4, 5] rfl ?_
      exact A_widen (by omega) (by omega) (K _)
    · refine A_aload_n C (pc := 333) 3 rfl dL_law_333 ?_
      refine A_iconst C (pc := 334) ic_0 dL_law_334 ?_
      obtain ⟨w335, e335, hf⟩ := bd_i hf
      refine A_laldO C (pc := 335) e335 dL_law_335 ?_
      refine A_iload C (pc := 336) 7 rfl dL_law_336 ?_
      refine A_i2l C (pc := 338) dL_law_338 ?_
      refine A_lcmp C (pc := 339) dL_law_339 ?_
      refine A_if_eq C (pc := 340) 345 (by decide) dL_law_340 hf (fun _ hf => ?_) (fun _ hf => ?_)
      · refine A_goto C (pc := 345) 4081 (by decide) dL_law_345 ?_
        cases hf
        refine A_sub [0, 1, 2, 3, 4, 5] rfl ?_
        exact A_widen (by omega) (by omega) (K _)
      · refine A_iconst C (pc := 343) ic_0 dL_law_343 ?_
        cases hf
  · refine A_iconst C (pc := 326) ic_0 dL_law_326 ?_
    cases hf
set_option maxRecDepth 100000 in
theorem w_law_1 (C : Cx p s m args c cL_law 9 RL B D Y) (hX : XI B s) (hl9 : l.stackTraces = false) (hXs : va_X b LN xs s s.heap) (hbl : b < s.heap.size) (hbA : ¬ B ≤ b) {M M2 : Mem} {x5 a1 a2 a3 : Int32} (h1 : vp_in (x5 + 1) LN) (h2 : vp_in (x5 + 2) LN) (h3 : vp_in (x5 + 3) LN) (e1 : xs (x5 + 1).toNatClampNeg = a1) (e2 : xs (x5 + 2).toNatClampNeg = a2) (e3 : xs (x5 + 3).toNatClampNeg = a3) (hkc : k + 4 ≤ room_1.cells) (hks : sl + 24 ≤ room_1.slots) (hf : f_law_1 M a1 a2 a3 = some (some M2)) (K : ∀ o2, At p l e room_1 s m args below meth c 9 (k + 4) (sl + 24) Q B D Y o2 4081 M2 [(0, .ref b), (1, .ref (B + 0)), (2, .ref (B + 47)), (3, .ref (B + 110)), (4, .ref (B + 111)), (5, .int x5)] []) : At p l e room_1 s m args below meth c 9 k sl Q B D Y o 348 M [(0, .ref b), (1, .ref (B + 0)), (2, .ref (B + 47)), (3, .ref (B + 110)), (4, .ref (B + 111)), (5, .int x5)] [] := by
  dsimp only [f_law_1] at hf
  refine A_aload_n C (pc := 348) 1 rfl dL_law_348 ?_
  refine A_aload_n C (pc := 349) 0 rfl dL_law_349 ?_
  refine A_iload C (pc := 350) 5 rfl dL_law_350 ?_
  refine A_iconst C (pc := 352) ic_1 dL_law_352 ?_
  refine A_iadd C (pc := 353) dL_law_353 ?_
  refine A_sld C (pc := 354) hXs hbl hbA h1 e1 dL_law_354 ?_
  refine A_aload_n C (pc := 355) 0 rfl dL_law_355 ?_
  refine A_iload C (pc := 356) 5 rfl dL_law_356 ?_
  refine A_iconst C (pc := 358) ic_2 dL_law_358 ?_
  refine A_iadd C (pc := 359) dL_law_359 ?_
  refine A_sld C (pc := 360) hXs hbl hbA h2 e2 dL_law_360 ?_
  refine A_aload_n C (pc := 361) 3 rfl dL_law_361 ?_
  obtain ⟨z362, h362, hf⟩ := bd_i hf
  refine L_callS C (pc := 362) hX (A := [.ref (B + 0), .int a1, .int a2, .ref (B + 110)]) (rest := []) kl_L_202 kw_L_chain (m_L_chain l hl9 B D Y o h362) rfl rfl (Nat.le_of_ble_eq_true rfl) ⟨rfl, rfl, Nat.le_of_ble_eq_true rfl, Nat.le_of_ble_eq_true rfl⟩ ⟨by omega, by omega⟩ dL_law_362 ?_
  refine A_istore C (pc := 365) [(0, .ref b), (1, .ref (B + 0)), (2, .ref (B + 47)), (3, .ref (B + 110)), (4, .ref (B + 111)), (5, .int x5), (6, .int z362.1)] (by decide) [1, 2, 3, 4, 5, 6, 0] rfl dL_law_365 ?_
  refine A_aload_n C (pc := 367) 2 rfl dL_law_367 ?_
  refine A_aload_n C (pc := 368) 0 rfl dL_law_368 ?_
  refine A_iload C (pc := 369) 5 rfl dL_law_369 ?_
  refine A_iconst C (pc := 371) ic_1 dL_law_371 ?_
  refine A_iadd C (pc := 372) dL_law_372 ?_
  refine A_sld C (pc := 373) hXs hbl hbA h1 e1 dL_law_373 ?_
  refine A_aload_n C (pc := 374) 0 rfl dL_law_374 ?_
  refine A_iload C (pc := 375) 5 rfl dL_law_375 ?_
  refine A_iconst C (pc := 377) ic_2 dL_law_377 ?_
  refine A_iadd C (pc := 378) dL_law_378 ?_
  refine A_sld C (pc := 379) hXs hbl hbA h2 e2 dL_law_379 ?_
  obtain ⟨z380, h380, hf⟩ := bd_i hf
  refine A_callV1 C (pc := 380) (A := [.int a1, .int a2]) (rest := []) k_L_204 ky_X7_chain kv_X7_chain (m_X7_chain l B D Y _ h380) (by decide) rfl rfl rfl rfl (Nat.le_of_ble_eq_true rfl) ⟨rfl, rfl, Nat.le_of_ble_eq_true rfl, Nat.le_of_ble_eq_true rfl⟩ ⟨by omega, by omega⟩ dL_law_380 ?_
  refine A_istore C (pc := 383) [(0, .ref b), (1, .ref (B + 0)), (2, .ref (B + 47)), (3, .ref (B + 110)), (4, .ref (B + 111)), (5, .int x5), (6, .int z362.1), (7, .int z380.1)] (by decide) [1, 2, 3, 4, 5, 6, 7, 0] rfl dL_law_383 ?_
  refine A_aload_n C (pc := 385) 2 rfl dL_law_385 ?_
  obtain ⟨z386, h386, hf⟩ := bd_i hf
  refine A_callV1 C (pc := 386) (A := []) (rest := []) k_L_198 ky_X7_thrown kv_X7_thrown (m_X7_thrown l B D Y _ h386) (by decide) rfl rfl rfl rfl (Nat.le_of_ble_eq_true rfl) ⟨rfl, rfl, Nat.le_of_ble_eq_true rfl, Nat.le_of_ble_eq_true rfl⟩ ⟨by omega, by omega⟩ dL_law_386 ?_
  refine A_iload C (pc := 389) 6 rfl dL_law_389 ?_
  refine A_icmp_eq C (pc := 391) 396 (by decide) dL_law_391 hf (fun _ hf => ?_) (fun _ hf => ?_)
  · refine A_iload C (pc := 396) 6 rfl dL_law_396 ?_
    refine A_if_ne C (pc := 398) 413 (by decide) dL_law_398 hf (fun _ hf => ?_) (fun _ hf => ?_)
    · refine A_goto C (pc := 413) 4081 (by decide) dL_law_413 ?_
      cases hf
      refine A_sub [0, 1, 2, 3, 4, 5] rfl ?_
      exact A_widen (by omega) (by omega) (K _)
    · refine A_aload_n C (pc := 401) 3 rfl dL_law_401 ?_
      refine A_iconst C (pc := 402) ic_0 dL_law_402 ?_
      obtain ⟨w403, e403, hf⟩ := bd_i hf
      refine A_laldO C (pc := 403) e403 dL_law_403 ?_
      refine A_iload C (pc := 404) 7 rfl dL_law_404 ?_
      refine A_i2l C (pc := 406) dL_law_406 ?_
      refine A_lcmp C (pc := 407) dL_law_407 ?_
      refine A_if_eq C (pc := 408) 413 (by decide) dL_law_408 hf (fun _ hf => ?_) (fun _ hf => ?_)
      · refine A_goto C (pc := 413) 4081 (by decide) dL_law_413 ?_
        cases hf
        refine A_sub [0, 1, 2, 3, 4, 5] rfl ?_
        exact A_widen (by omega) (by omega) (K _)
      · refine A_iconst C (pc := 411) ic_0 dL_law_411 ?_
        cases hf
  · refine A_iconst C (pc := 394) ic_0 dL_law_394 ?_
    cases hf
set_option maxRecDepth 100000 in
theorem w_law_2 (C : Cx p s m args c cL_law 9 RL B D Y) (hX : XI B s) (hl9 : l.stackTraces = false) (hXs : va_X b LN xs s s.heap) (hbl : b < s.heap.size) (hbA : ¬ B ≤ b) {M M2 : Mem} {x5 a1 a2 a3 : Int32} (h1 : vp_in (x5 + 1) LN) (h2 : vp_in (x5 + 2) LN) (h3 : vp_in (x5 + 3) LN) (e1 : xs (x5 + 1).toNatClampNeg = a1) (e2 : xs (x5 + 2).toNatClampNeg = a2) (e3 : xs (x5 + 3).toNatClampNeg = a3) (hkc : k + 4 ≤ room_1.cells) (hks : sl + 24 ≤ room_1.slots) (hf : f_law_2 M a1 a2 a3 = some (some M2)) (K : ∀ o2, At p l e room_1 s m args below meth c 9 (k + 4) (sl + 24) Q B D Y o2 4081 M2 [(0, .ref b), (1, .ref (B + 0)), (2, .ref (B + 47)), (3, .ref (B + 110)), (4, .ref (B + 111)), (5, .int x5)] []) : At p l e room_1 s m args below meth c 9 k sl Q B D Y o 416 M [(0, .ref b), (1, .ref (B + 0)), (2, .ref (B + 47)), (3, .ref (B + 110)), (4, .ref (B + 111)), (5, .int x5)] [] := by
  dsimp only [f_law_2] at hf
  refine A_aload_n C (pc := 416) 1 rfl dL_law_416 ?_
  refine A_aload_n C (pc := 417) 0 rfl dL_law_417 ?_
  refine A_iload C (pc := 418) 5 rfl dL_law_418 ?_
  refine A_iconst C (pc := 420) ic_1 dL_law_420 ?_
  refine A_iadd C (pc := 421) dL_law_421 ?_
  refine A_sld C (pc := 422) hXs hbl hbA h1 e1 dL_law_422 ?_
  refine A_aload_n C (pc := 423) 0 rfl dL_law_423 ?_
  refine A_iload C (pc := 424) 5 rfl dL_law_424 ?_
  refine A_iconst C (pc := 426) ic_2 dL_law_426 ?_
  refine A_iadd C (pc := 427) dL_law_427 ?_
  refine A_sld C (pc := 428) hXs hbl hbA h2 e2 dL_law_428 ?_
  refine A_aload_n C (pc := 429) 3 rfl dL_law_429 ?_
  obtain ⟨z430, h430, hf⟩ := bd_i hf
  refine L_callS C (pc := 430) hX (A := [.ref (B + 0), .int a1, .int a2, .ref (B + 110)]) (rest := []) kl_L_205 kw_L_add (m_L_add l hl9 B D Y o h430) rfl rfl (Nat.le_of_ble_eq_true rfl) ⟨rfl, rfl, Nat.le_of_ble_eq_true rfl, Nat.le_of_ble_eq_true rfl⟩ ⟨by omega, by omega⟩ dL_law_430 ?_
  refine A_istore C (pc := 433) [(0, .ref b), (1, .ref (B + 0)), (2, .ref (B + 47)), (3, .ref (B + 110)), (4, .ref (B + 111)), (5, .int x5), (6, .int z430.1)] (by decide) [1, 2, 3, 4, 5, 6, 0] rfl dL_law_433 ?_
  refine A_aload_n C (pc := 435) 2 rfl dL_law_435 ?_
  refine A_aload_n C (pc := 436) 0 rfl dL_law_436 ?_
  refine A_iload C (pc := 437) 5 rfl dL_law_437 ?_
  refine A_iconst C (pc := 439) ic_1 dL_law_439 ?_
  refine A_iadd C (pc := 440) dL_law_440 ?_
  refine A_sld C (pc := 441) hXs hbl hbA h1 e1 dL_law_441 ?_
  refine A_aload_n C (pc := 442) 0 rfl dL_law_442 ?_
  refine A_iload C (pc := 443) 5 rfl dL_law_443 ?_
  refine A_iconst C (pc := 445) ic_2 dL_law_445 ?_
  refine A_iadd C (pc := 446) dL_law_446 ?_
  refine A_sld C (pc := 447) hXs hbl hbA h2 e2 dL_law_447 ?_
  obtain ⟨z448, h448, hf⟩ := bd_i hf
  refine A_callV1 C (pc := 448) (A := [.int a1, .int a2]) (rest := []) k_L_207 ky_X7_add kv_X7_add (m_X7_add l B D Y _ h448) (by decide) rfl rfl rfl rfl (Nat.le_of_ble_eq_true rfl) ⟨rfl, rfl, Nat.le_of_ble_eq_true rfl, Nat.le_of_ble_eq_true rfl⟩ ⟨by omega, by omega⟩ dL_law_448 ?_
  refine A_istore C (pc := 451) [(0, .ref b), (1, .ref (B + 0)), (2, .ref (B + 47)), (3, .ref (B + 110)), (4, .ref (B + 111)), (5, .int x5), (6, .int z430.1), (7, .int z448.1)] (by decide) [1, 2, 3, 4, 5, 6, 7, 0] rfl dL_law_451 ?_
  refine A_aload_n C (pc := 453) 2 rfl dL_law_453 ?_
  obtain ⟨z454, h454, hf⟩ := bd_i hf
  refine A_callV1 C (pc := 454) (A := []) (rest := []) k_L_198 ky_X7_thrown kv_X7_thrown (m_X7_thrown l B D Y _ h454) (by decide) rfl rfl rfl rfl (Nat.le_of_ble_eq_true rfl) ⟨rfl, rfl, Nat.le_of_ble_eq_true rfl, Nat.le_of_ble_eq_true rfl⟩ ⟨by omega, by omega⟩ dL_law_454 ?_
  refine A_iload C (pc := 457) 6 rfl dL_law_457 ?_
  refine A_icmp_eq C (pc := 459) 464 (by decide) dL_law_459 hf (fun _ hf => ?_) (fun _ hf => ?_)
  · refine A_iload C (pc := 464) 6 rfl dL_law_464 ?_
    refine A_if_ne C (pc := 466) 481 (by decide) dL_law_466 hf (fun _ hf => ?_) (fun _ hf => ?_)
    · refine A_goto C (pc := 481) 4081 (by decide) dL_law_481 ?_
      cases hf
      refine A_sub [0, 1, 2, 3, 4, 5] rfl ?_
      exact A_widen (by omega) (by omega) (K _)
    · refine A_aload_n C (pc := 469) 3 rfl dL_law_469 ?_
      refine A_iconst C (pc := 470) ic_0 dL_law_470 ?_
      obtain ⟨w471, e471, hf⟩ := bd_i hf
      refine A_laldO C (pc := 471) e471 dL_law_471 ?_
      refine A_iload C (pc := 472) 7 rfl dL_law_472 ?_
      refine A_i2l C (pc := 474) dL_law_474 ?_
      refine A_lcmp C (pc := 475) dL_law_475 ?_
      refine A_if_eq C (pc := 476) 481 (by decide) dL_law_476 hf (fun _ hf => ?_) (fun _ hf => ?_)
      · refine A_goto C (pc := 481) 4081 (by decide) dL_law_481 ?_
        cases hf
        refine A_sub [0, 1, 2, 3, 4, 5] rfl ?_
        exact A_widen (by omega) (by omega) (K _)
      · refine A_iconst C (pc := 479) ic_0 dL_law_479 ?_
        cases hf
  · refine A_iconst C (pc := 462) ic_0 dL_law_462 ?_
    cases hf
set_option maxRecDepth 100000 in
theorem w_law_3 (C : Cx p s m args c cL_law 9 RL B D Y) (hX : XI B s) (hl9 : l.stackTraces = false) (hXs : va_X b LN xs s s.heap) (hbl : b < s.heap.size) (hbA : ¬ B ≤ b) {M M2 : Mem} {x5 a1 a2 a3 : Int32} (h1 : vp_in (x5 + 1) LN) (h2 : vp_in (x5 + 2) LN) (h3 : vp_in (x5 + 3) LN) (e1 : xs (x5 + 1).toNatClampNeg = a1) (e2 : xs (x5 + 2).toNatClampNeg = a2) (e3 : xs (x5 + 3).toNatClampNeg = a3) (hkc : k + 4 ≤ room_1.cells) (hks : sl + 24 ≤ room_1.slots) (hf : f_law_3 M a1 a2 a3 = some (some M2)) (K : ∀ o2, At p l e room_1 s m args below meth c 9 (k + 4) (sl + 24) Q B D Y o2 4081 M2 [(0, .ref b), (1, .ref (B + 0)), (2, .ref (B + 47)), (3, .ref (B + 110)), (4, .ref (B + 111)), (5, .int x5)] []) : At p l e room_1 s m args below meth c 9 k sl Q B D Y o 484 M [(0, .ref b), (1, .ref (B + 0)), (2, .ref (B + 47)), (3, .ref (B + 110)), (4, .ref (B + 111)), (5, .int x5)] [] := by
  dsimp only [f_law_3] at hf
  refine A_aload_n C (pc := 484) 1 rfl dL_law_484 ?_
  refine A_aload_n C (pc := 485) 0 rfl dL_law_485 ?_
  refine A_iload C (pc := 486) 5 rfl dL_law_486 ?_
  refine A_iconst C (pc := 488) ic_1 dL_law_488 ?_
  refine A_iadd C (pc := 489) dL_law_489 ?_
  refine A_sld C (pc := 490) hXs hbl hbA h1 e1 dL_law_490 ?_
  refine A_aload_n C (pc := 491) 0 rfl dL_law_491 ?_
  refine A_iload C (pc := 492) 5 rfl dL_law_492 ?_
  refine A_iconst C (pc := 494) ic_2 dL_law_494 ?_
  refine A_iadd C (pc := 495) dL_law_495 ?_
  refine A_sld C (pc := 496) hXs hbl hbA h2 e2 dL_law_496 ?_
  refine A_aload_n C (pc := 497) 3 rfl dL_law_497 ?_
  obtain ⟨z498, h498, hf⟩ := bd_i hf
  refine L_callS C (pc := 498) hX (A := [.ref (B + 0), .int a1, .int a2, .ref (B + 110)]) (rest := []) kl_L_208 kw_L_drop (m_L_drop l hl9 B D Y o h498) rfl rfl (Nat.le_of_ble_eq_true rfl) ⟨rfl, rfl, Nat.le_of_ble_eq_true rfl, Nat.le_of_ble_eq_true rfl⟩ ⟨by omega, by omega⟩ dL_law_498 ?_
  refine A_istore C (pc := 501) [(0, .ref b), (1, .ref (B + 0)), (2, .ref (B + 47)), (3, .ref (B + 110)), (4, .ref (B + 111)), (5, .int x5), (6, .int z498.1)] (by decide) [1, 2, 3, 4, 5, 6, 0] rfl dL_law_501 ?_
  refine A_aload_n C (pc := 503) 2 rfl dL_law_503 ?_
  refine A_aload_n C (pc := 504) 0 rfl dL_law_504 ?_
  refine A_iload C (pc := 505) 5 rfl dL_law_505 ?_
  refine A_iconst C (pc := 507) ic_1 dL_law_507 ?_
  refine A_iadd C (pc := 508) dL_law_508 ?_
  refine A_sld C (pc := 509) hXs hbl hbA h1 e1 dL_law_509 ?_
  refine A_aload_n C (pc := 510) 0 rfl dL_law_510 ?_
  refine A_iload C (pc := 511) 5 rfl dL_law_511 ?_
  refine A_iconst C (pc := 513) ic_2 dL_law_513 ?_
  refine A_iadd C (pc := 514) dL_law_514 ?_
  refine A_sld C (pc := 515) hXs hbl hbA h2 e2 dL_law_515 ?_
  obtain ⟨z516, h516, hf⟩ := bd_i hf
  refine A_callV1 C (pc := 516) (A := [.int a1, .int a2]) (rest := []) k_L_210 ky_X7_drop kv_X7_drop (m_X7_drop l B D Y _ h516) (by decide) rfl rfl rfl rfl (Nat.le_of_ble_eq_true rfl) ⟨rfl, rfl, Nat.le_of_ble_eq_true rfl, Nat.le_of_ble_eq_true rfl⟩ ⟨by omega, by omega⟩ dL_law_516 ?_
  refine A_istore C (pc := 519) [(0, .ref b), (1, .ref (B + 0)), (2, .ref (B + 47)), (3, .ref (B + 110)), (4, .ref (B + 111)), (5, .int x5), (6, .int z498.1), (7, .int z516.1)] (by decide) [1, 2, 3, 4, 5, 6, 7, 0] rfl dL_law_519 ?_
  refine A_aload_n C (pc := 521) 2 rfl dL_law_521 ?_
  obtain ⟨z522, h522, hf⟩ := bd_i hf
  refine A_callV1 C (pc := 522) (A := []) (rest := []) k_L_198 ky_X7_thrown kv_X7_thrown (m_X7_thrown l B D Y _ h522) (by decide) rfl rfl rfl rfl (Nat.le_of_ble_eq_true rfl) ⟨rfl, rfl, Nat.le_of_ble_eq_true rfl, Nat.le_of_ble_eq_true rfl⟩ ⟨by omega, by omega⟩ dL_law_522 ?_
  refine A_iload C (pc := 525) 6 rfl dL_law_525 ?_
  refine A_icmp_eq C (pc := 527) 532 (by decide) dL_law_527 hf (fun _ hf => ?_) (fun _ hf => ?_)
  · refine A_iload C (pc := 532) 6 rfl dL_law_532 ?_
    refine A_if_ne C (pc := 534) 549 (by decide) dL_law_534 hf (fun _ hf => ?_) (fun _ hf => ?_)
    · refine A_goto C (pc := 549) 4081 (by decide) dL_law_549 ?_
      cases hf
      refine A_sub [0, 1, 2, 3, 4, 5] rfl ?_
      exact A_widen (by omega) (by omega) (K _)
    · refine A_aload_n C (pc := 537) 3 rfl dL_law_537 ?_
      refine A_iconst C (pc := 538) ic_0 dL_law_538 ?_
      obtain ⟨w539, e539, hf⟩ := bd_i hf
      refine A_laldO C (pc := 539) e539 dL_law_539 ?_
      refine A_iload C (pc := 540) 7 rfl dL_law_540 ?_
      refine A_i2l C (pc := 542) dL_law_542 ?_
      refine A_lcmp C (pc := 543) dL_law_543 ?_
      refine A_if_eq C (pc := 544) 549 (by decide) dL_law_544 hf (fun _ hf => ?_) (fun _ hf => ?_)
      · refine A_goto C (pc := 549) 4081 (by decide) dL_law_549 ?_
        cases hf
        refine A_sub [0, 1, 2, 3, 4, 5] rfl ?_
        exact A_widen (by omega) (by omega) (K _)
      · refine A_iconst C (pc := 547) ic_0 dL_law_547 ?_
        cases hf
  · refine A_iconst C (pc := 530) ic_0 dL_law_530 ?_
    cases hf
set_option maxRecDepth 100000 in
theorem w_law_4 (C : Cx p s m args c cL_law 9 RL B D Y) (hX : XI B s) (hl9 : l.stackTraces = false) (hXs : va_X b LN xs s s.heap) (hbl : b < s.heap.size) (hbA : ¬ B ≤ b) {M M2 : Mem} {x5 a1 a2 a3 : Int32} (h1 : vp_in (x5 + 1) LN) (h2 : vp_in (x5 + 2) LN) (h3 : vp_in (x5 + 3) LN) (e1 : xs (x5 + 1).toNatClampNeg = a1) (e2 : xs (x5 + 2).toNatClampNeg = a2) (e3 : xs (x5 + 3).toNatClampNeg = a3) (hkc : k + 4 ≤ room_1.cells) (hks : sl + 24 ≤ room_1.slots) (hf : f_law_4 M a1 a2 a3 = some (some M2)) (K : ∀ o2, At p l e room_1 s m args below meth c 9 (k + 4) (sl + 24) Q B D Y o2 4081 M2 [(0, .ref b), (1, .ref (B + 0)), (2, .ref (B + 47)), (3, .ref (B + 110)), (4, .ref (B + 111)), (5, .int x5)] []) : At p l e room_1 s m args below meth c 9 k sl Q B D Y o 552 M [(0, .ref b), (1, .ref (B + 0)), (2, .ref (B + 47)), (3, .ref (B + 110)), (4, .ref (B + 111)), (5, .int x5)] [] := by
  dsimp only [f_law_4] at hf
  refine A_aload_n C (pc := 552) 1 rfl dL_law_552 ?_
  refine A_aload_n C (pc := 553) 0 rfl dL_law_553 ?_
  refine A_iload C (pc := 554) 5 rfl dL_law_554 ?_
  refine A_iconst C (pc := 556) ic_1 dL_law_556 ?_
  refine A_iadd C (pc := 557) dL_law_557 ?_
  refine A_sld C (pc := 558) hXs hbl hbA h1 e1 dL_law_558 ?_
  refine A_aload_n C (pc := 559) 0 rfl dL_law_559 ?_
  refine A_iload C (pc := 560) 5 rfl dL_law_560 ?_
  refine A_iconst C (pc := 562) ic_2 dL_law_562 ?_
  refine A_iadd C (pc := 563) dL_law_563 ?_
  refine A_sld C (pc := 564) hXs hbl hbA h2 e2 dL_law_564 ?_
  refine A_aload_n C (pc := 565) 3 rfl dL_law_565 ?_
  obtain ⟨z566, h566, hf⟩ := bd_i hf
  refine L_callS C (pc := 566) hX (A := [.ref (B + 0), .int a1, .int a2, .ref (B + 110)]) (rest := []) kl_L_211 kw_L_keep (m_L_keep l hl9 B D Y o h566) rfl rfl (Nat.le_of_ble_eq_true rfl) ⟨rfl, rfl, Nat.le_of_ble_eq_true rfl, Nat.le_of_ble_eq_true rfl⟩ ⟨by omega, by omega⟩ dL_law_566 ?_
  refine A_istore C (pc := 569) [(0, .ref b), (1, .ref (B + 0)), (2, .ref (B + 47)), (3, .ref (B + 110)), (4, .ref (B + 111)), (5, .int x5), (6, .int z566.1)] (by decide) [1, 2, 3, 4, 5, 6, 0] rfl dL_law_569 ?_
  refine A_aload_n C (pc := 571) 2 rfl dL_law_571 ?_
  refine A_aload_n C (pc := 572) 0 rfl dL_law_572 ?_
  refine A_iload C (pc := 573) 5 rfl dL_law_573 ?_
  refine A_iconst C (pc := 575) ic_1 dL_law_575 ?_
  refine A_iadd C (pc := 576) dL_law_576 ?_
  refine A_sld C (pc := 577) hXs hbl hbA h1 e1 dL_law_577 ?_
  refine A_aload_n C (pc := 578) 0 rfl dL_law_578 ?_
  refine A_iload C (pc := 579) 5 rfl dL_law_579 ?_
  refine A_iconst C (pc := 581) ic_2 dL_law_581 ?_
  refine A_iadd C (pc := 582) dL_law_582 ?_
  refine A_sld C (pc := 583) hXs hbl hbA h2 e2 dL_law_583 ?_
  obtain ⟨z584, h584, hf⟩ := bd_i hf
  refine A_callV1 C (pc := 584) (A := [.int a1, .int a2]) (rest := []) k_L_213 ky_X7_keep kv_X7_keep (m_X7_keep l B D Y _ h584) (by decide) rfl rfl rfl rfl (Nat.le_of_ble_eq_true rfl) ⟨rfl, rfl, Nat.le_of_ble_eq_true rfl, Nat.le_of_ble_eq_true rfl⟩ ⟨by omega, by omega⟩ dL_law_584 ?_
  refine A_istore C (pc := 587) [(0, .ref b), (1, .ref (B + 0)), (2, .ref (B + 47)), (3, .ref (B + 110)), (4, .ref (B + 111)), (5, .int x5), (6, .int z566.1), (7, .int z584.1)] (by decide) [1, 2, 3, 4, 5, 6, 7, 0] rfl dL_law_587 ?_
  refine A_aload_n C (pc := 589) 2 rfl dL_law_589 ?_
  obtain ⟨z590, h590, hf⟩ := bd_i hf
  refine A_callV1 C (pc := 590) (A := []) (rest := []) k_L_198 ky_X7_thrown kv_X7_thrown (m_X7_thrown l B D Y _ h590) (by decide) rfl rfl rfl rfl (Nat.le_of_ble_eq_true rfl) ⟨rfl, rfl, Nat.le_of_ble_eq_true rfl, Nat.le_of_ble_eq_true rfl⟩ ⟨by omega, by omega⟩ dL_law_590 ?_
  refine A_iload C (pc := 593) 6 rfl dL_law_593 ?_
  refine A_icmp_eq C (pc := 595) 600 (by decide) dL_law_595 hf (fun _ hf => ?_) (fun _ hf => ?_)
  · refine A_iload C (pc := 600) 6 rfl dL_law_600 ?_
    refine A_if_ne C (pc := 602) 617 (by decide) dL_law_602 hf (fun _ hf => ?_) (fun _ hf => ?_)
    · refine A_goto C (pc := 617) 4081 (by decide) dL_law_617 ?_
      cases hf
      refine A_sub [0, 1, 2, 3, 4, 5] rfl ?_
      exact A_widen (by omega) (by omega) (K _)
    · refine A_aload_n C (pc := 605) 3 rfl dL_law_605 ?_
      refine A_iconst C (pc := 606) ic_0 dL_law_606 ?_
      obtain ⟨w607, e607, hf⟩ := bd_i hf
      refine A_laldO C (pc := 607) e607 dL_law_607 ?_
      refine A_iload C (pc := 608) 7 rfl dL_law_608 ?_
      refine A_i2l C (pc := 610) dL_law_610 ?_
      refine A_lcmp C (pc := 611) dL_law_611 ?_
      refine A_if_eq C (pc := 612) 617 (by decide) dL_law_612 hf (fun _ hf => ?_) (fun _ hf => ?_)
      · refine A_goto C (pc := 617) 4081 (by decide) dL_law_617 ?_
        cases hf
        refine A_sub [0, 1, 2, 3, 4, 5] rfl ?_
        exact A_widen (by omega) (by omega) (K _)
      · refine A_iconst C (pc := 615) ic_0 dL_law_615 ?_
        cases hf
  · refine A_iconst C (pc := 598) ic_0 dL_law_598 ?_
    cases hf
set_option maxRecDepth 100000 in
theorem w_law_5 (C : Cx p s m args c cL_law 9 RL B D Y) (hX : XI B s) (hl9 : l.stackTraces = false) (hXs : va_X b LN xs s s.heap) (hbl : b < s.heap.size) (hbA : ¬ B ≤ b) {M M2 : Mem} {x5 a1 a2 a3 : Int32} (h1 : vp_in (x5 + 1) LN) (h2 : vp_in (x5 + 2) LN) (h3 : vp_in (x5 + 3) LN) (e1 : xs (x5 + 1).toNatClampNeg = a1) (e2 : xs (x5 + 2).toNatClampNeg = a2) (e3 : xs (x5 + 3).toNatClampNeg = a3) (hkc : k + 4 ≤ room_1.cells) (hks : sl + 24 ≤ room_1.slots) (hf : f_law_5 M a1 a2 a3 = some (some M2)) (K : ∀ o2, At p l e room_1 s m args below meth c 9 (k + 4) (sl + 24) Q B D Y o2 4081 M2 [(0, .ref b), (1, .ref (B + 0)), (2, .ref (B + 47)), (3, .ref (B + 110)), (4, .ref (B + 111)), (5, .int x5)] []) : At p l e room_1 s m args below meth c 9 k sl Q B D Y o 620 M [(0, .ref b), (1, .ref (B + 0)), (2, .ref (B + 47)), (3, .ref (B + 110)), (4, .ref (B + 111)), (5, .int x5)] [] := by
  dsimp only [f_law_5] at hf
  refine A_aload_n C (pc := 620) 1 rfl dL_law_620 ?_
  refine A_aload_n C (pc := 621) 0 rfl dL_law_621 ?_
  refine A_iload C (pc := 622) 5 rfl dL_law_622 ?_
  refine A_iconst C (pc := 624) ic_1 dL_law_624 ?_
  refine A_iadd C (pc := 625) dL_law_625 ?_
  refine A_sld C (pc := 626) hXs hbl hbA h1 e1 dL_law_626 ?_
  refine A_aload_n C (pc := 627) 0 rfl dL_law_627 ?_
  refine A_iload C (pc := 628) 5 rfl dL_law_628 ?_
  refine A_iconst C (pc := 630) ic_2 dL_law_630 ?_
  refine A_iadd C (pc := 631) dL_law_631 ?_
  refine A_sld C (pc := 632) hXs hbl hbA h2 e2 dL_law_632 ?_
  refine A_aload_n C (pc := 633) 0 rfl dL_law_633 ?_
  refine A_iload C (pc := 634) 5 rfl dL_law_634 ?_
  refine A_iconst C (pc := 636) ic_3 dL_law_636 ?_
  refine A_iadd C (pc := 637) dL_law_637 ?_
  refine A_sld C (pc := 638) hXs hbl hbA h3 e3 dL_law_638 ?_
  refine A_aload_n C (pc := 639) 3 rfl dL_law_639 ?_
  obtain ⟨z640, h640, hf⟩ := bd_i hf
  refine L_callS C (pc := 640) hX (A := [.ref (B + 0), .int a1, .int a2, .int a3, .ref (B + 110)]) (rest := []) kl_L_214 kw_L_setValue (m_L_setValue l hl9 B D Y o h640) rfl rfl (Nat.le_of_ble_eq_true rfl) ⟨rfl, rfl, Nat.le_of_ble_eq_true rfl, Nat.le_of_ble_eq_true rfl⟩ ⟨by omega, by omega⟩ dL_law_640 ?_
  refine A_istore C (pc := 643) [(0, .ref b), (1, .ref (B + 0)), (2, .ref (B + 47)), (3, .ref (B + 110)), (4, .ref (B + 111)), (5, .int x5), (6, .int z640.1)] (by decide) [1, 2, 3, 4, 5, 6, 0] rfl dL_law_643 ?_
  refine A_aload_n C (pc := 645) 2 rfl dL_law_645 ?_
  refine A_aload_n C (pc := 646) 0 rfl dL_law_646 ?_
  refine A_iload C (pc := 647) 5 rfl dL_law_647 ?_
  refine A_iconst C (pc := 649) ic_1 dL_law_649 ?_
  refine A_iadd C (pc := 650) dL_law_650 ?_
  refine A_sld C (pc := 651) hXs hbl hbA h1 e1 dL_law_651 ?_
  refine A_aload_n C (pc := 652) 0 rfl dL_law_652 ?_
  refine A_iload C (pc := 653) 5 rfl dL_law_653 ?_
  refine A_iconst C (pc := 655) ic_2 dL_law_655 ?_
  refine A_iadd C (pc := 656) dL_law_656 ?_
  refine A_sld C (pc := 657) hXs hbl hbA h2 e2 dL_law_657 ?_
  refine A_aload_n C (pc := 658) 0 rfl dL_law_658 ?_
  refine A_iload C (pc := 659) 5 rfl dL_law_659 ?_
  refine A_iconst C (pc := 661) ic_3 dL_law_661 ?_
  refine A_iadd C (pc := 662) dL_law_662 ?_
  refine A_sld C (pc := 663) hXs hbl hbA h3 e3 dL_law_663 ?_
  obtain ⟨z664, h664, hf⟩ := bd_i hf
  refine A_callV1 C (pc := 664) (A := [.int a1, .int a2, .int a3]) (rest := []) k_L_217 ky_X7_setValue kv_X7_setValue (m_X7_setValue l B D Y _ h664) (by decide) rfl rfl rfl rfl (Nat.le_of_ble_eq_true rfl) ⟨rfl, rfl, Nat.le_of_ble_eq_true rfl, Nat.le_of_ble_eq_true rfl⟩ ⟨by omega, by omega⟩ dL_law_664 ?_
  refine A_istore C (pc := 667) [(0, .ref b), (1, .ref (B + 0)), (2, .ref (B + 47)), (3, .ref (B + 110)), (4, .ref (B + 111)), (5, .int x5), (6, .int z640.1), (7, .int z664.1)] (by decide) [1, 2, 3, 4, 5, 6, 7, 0] rfl dL_law_667 ?_
  refine A_aload_n C (pc := 669) 2 rfl dL_law_669 ?_
  obtain ⟨z670, h670, hf⟩ := bd_i hf
  refine A_callV1 C (pc := 670) (A := []) (rest := []) k_L_198 ky_X7_thrown kv_X7_thrown (m_X7_thrown l B D Y _ h670) (by decide) rfl rfl rfl rfl (Nat.le_of_ble_eq_true rfl) ⟨rfl, rfl, Nat.le_of_ble_eq_true rfl, Nat.le_of_ble_eq_true rfl⟩ ⟨by omega, by omega⟩ dL_law_670 ?_
  refine A_iload C (pc := 673) 6 rfl dL_law_673 ?_
  refine A_icmp_eq C (pc := 675) 680 (by decide) dL_law_675 hf (fun _ hf => ?_) (fun _ hf => ?_)
  · refine A_iload C (pc := 680) 6 rfl dL_law_680 ?_
    refine A_if_ne C (pc := 682) 697 (by decide) dL_law_682 hf (fun _ hf => ?_) (fun _ hf => ?_)
    · refine A_goto C (pc := 697) 4081 (by decide) dL_law_697 ?_
      cases hf
      refine A_sub [0, 1, 2, 3, 4, 5] rfl ?_
      exact A_widen (by omega) (by omega) (K _)
    · refine A_aload_n C (pc := 685) 3 rfl dL_law_685 ?_
      refine A_iconst C (pc := 686) ic_0 dL_law_686 ?_
      obtain ⟨w687, e687, hf⟩ := bd_i hf
      refine A_laldO C (pc := 687) e687 dL_law_687 ?_
      refine A_iload C (pc := 688) 7 rfl dL_law_688 ?_
      refine A_i2l C (pc := 690) dL_law_690 ?_
      refine A_lcmp C (pc := 691) dL_law_691 ?_
      refine A_if_eq C (pc := 692) 697 (by decide) dL_law_692 hf (fun _ hf => ?_) (fun _ hf => ?_)
      · refine A_goto C (pc := 697) 4081 (by decide) dL_law_697 ?_
        cases hf
        refine A_sub [0, 1, 2, 3, 4, 5] rfl ?_
        exact A_widen (by omega) (by omega) (K _)
      · refine A_iconst C (pc := 695) ic_0 dL_law_695 ?_
        cases hf
  · refine A_iconst C (pc := 678) ic_0 dL_law_678 ?_
    cases hf
set_option maxRecDepth 100000 in
theorem w_law_6 (C : Cx p s m args c cL_law 9 RL B D Y) (hX : XI B s) (hl9 : l.stackTraces = false) (hXs : va_X b LN xs s s.heap) (hbl : b < s.heap.size) (hbA : ¬ B ≤ b) {M M2 : Mem} {x5 a1 a2 a3 : Int32} (h1 : vp_in (x5 + 1) LN) (h2 : vp_in (x5 + 2) LN) (h3 : vp_in (x5 + 3) LN) (e1 : xs (x5 + 1).toNatClampNeg = a1) (e2 : xs (x5 + 2).toNatClampNeg = a2) (e3 : xs (x5 + 3).toNatClampNeg = a3) (hkc : k + 4 ≤ room_1.cells) (hks : sl + 24 ≤ room_1.slots) (hf : f_law_6 M a1 a2 a3 = some (some M2)) (K : ∀ o2, At p l e room_1 s m args below meth c 9 (k + 4) (sl + 24) Q B D Y o2 4081 M2 [(0, .ref b), (1, .ref (B + 0)), (2, .ref (B + 47)), (3, .ref (B + 110)), (4, .ref (B + 111)), (5, .int x5)] []) : At p l e room_1 s m args below meth c 9 k sl Q B D Y o 700 M [(0, .ref b), (1, .ref (B + 0)), (2, .ref (B + 47)), (3, .ref (B + 110)), (4, .ref (B + 111)), (5, .int x5)] [] := by
  dsimp only [f_law_6] at hf
  refine A_aload_n C (pc := 700) 1 rfl dL_law_700 ?_
  refine A_aload_n C (pc := 701) 0 rfl dL_law_701 ?_
  refine A_iload C (pc := 702) 5 rfl dL_law_702 ?_
  refine A_iconst C (pc := 704) ic_1 dL_law_704 ?_
  refine A_iadd C (pc := 705) dL_law_705 ?_
  refine A_sld C (pc := 706) hXs hbl hbA h1 e1 dL_law_706 ?_
  refine A_aload_n C (pc := 707) 0 rfl dL_law_707 ?_
  refine A_iload C (pc := 708) 5 rfl dL_law_708 ?_
  refine A_iconst C (pc := 710) ic_2 dL_law_710 ?_
  refine A_iadd C (pc := 711) dL_law_711 ?_
  refine A_sld C (pc := 712) hXs hbl hbA h2 e2 dL_law_712 ?_
  refine A_aload_n C (pc := 713) 0 rfl dL_law_713 ?_
  refine A_iload C (pc := 714) 5 rfl dL_law_714 ?_
  refine A_iconst C (pc := 716) ic_3 dL_law_716 ?_
  refine A_iadd C (pc := 717) dL_law_717 ?_
  refine A_sld C (pc := 718) hXs hbl hbA h3 e3 dL_law_718 ?_
  refine A_aload_n C (pc := 719) 3 rfl dL_law_719 ?_
  obtain ⟨z720, h720, hf⟩ := bd_i hf
  refine L_callS C (pc := 720) hX (A := [.ref (B + 0), .int a1, .int a2, .int a3, .ref (B + 110)]) (rest := []) kl_L_218 kw_L_put (m_L_put l hl9 B D Y o h720) rfl rfl (Nat.le_of_ble_eq_true rfl) ⟨rfl, rfl, Nat.le_of_ble_eq_true rfl, Nat.le_of_ble_eq_true rfl⟩ ⟨by omega, by omega⟩ dL_law_720 ?_
  refine A_istore C (pc := 723) [(0, .ref b), (1, .ref (B + 0)), (2, .ref (B + 47)), (3, .ref (B + 110)), (4, .ref (B + 111)), (5, .int x5), (6, .int z720.1)] (by decide) [1, 2, 3, 4, 5, 6, 0] rfl dL_law_723 ?_
  refine A_aload_n C (pc := 725) 2 rfl dL_law_725 ?_
  refine A_aload_n C (pc := 726) 0 rfl dL_law_726 ?_
  refine A_iload C (pc := 727) 5 rfl dL_law_727 ?_
  refine A_iconst C (pc := 729) ic_1 dL_law_729 ?_
  refine A_iadd C (pc := 730) dL_law_730 ?_
  refine A_sld C (pc := 731) hXs hbl hbA h1 e1 dL_law_731 ?_
  refine A_aload_n C (pc := 732) 0 rfl dL_law_732 ?_
  refine A_iload C (pc := 733) 5 rfl dL_law_733 ?_
  refine A_iconst C (pc := 735) ic_2 dL_law_735 ?_
  refine A_iadd C (pc := 736) dL_law_736 ?_
  refine A_sld C (pc := 737) hXs hbl hbA h2 e2 dL_law_737 ?_
  refine A_aload_n C (pc := 738) 0 rfl dL_law_738 ?_
  refine A_iload C (pc := 739) 5 rfl dL_law_739 ?_
  refine A_iconst C (pc := 741) ic_3 dL_law_741 ?_
  refine A_iadd C (pc := 742) dL_law_742 ?_
  refine A_sld C (pc := 743) hXs hbl hbA h3 e3 dL_law_743 ?_
  obtain ⟨z744, h744, hf⟩ := bd_i hf
  refine A_callV1 C (pc := 744) (A := [.int a1, .int a2, .int a3]) (rest := []) k_L_220 ky_X7_put kv_X7_put (m_X7_put l B D Y _ h744) (by decide) rfl rfl rfl rfl (Nat.le_of_ble_eq_true rfl) ⟨rfl, rfl, Nat.le_of_ble_eq_true rfl, Nat.le_of_ble_eq_true rfl⟩ ⟨by omega, by omega⟩ dL_law_744 ?_
  refine A_istore C (pc := 747) [(0, .ref b), (1, .ref (B + 0)), (2, .ref (B + 47)), (3, .ref (B + 110)), (4, .ref (B + 111)), (5, .int x5), (6, .int z720.1), (7, .int z744.1)] (by decide) [1, 2, 3, 4, 5, 6, 7, 0] rfl dL_law_747 ?_
  refine A_aload_n C (pc := 749) 2 rfl dL_law_749 ?_
  obtain ⟨z750, h750, hf⟩ := bd_i hf
  refine A_callV1 C (pc := 750) (A := []) (rest := []) k_L_198 ky_X7_thrown kv_X7_thrown (m_X7_thrown l B D Y _ h750) (by decide) rfl rfl rfl rfl (Nat.le_of_ble_eq_true rfl) ⟨rfl, rfl, Nat.le_of_ble_eq_true rfl, Nat.le_of_ble_eq_true rfl⟩ ⟨by omega, by omega⟩ dL_law_750 ?_
  refine A_iload C (pc := 753) 6 rfl dL_law_753 ?_
  refine A_icmp_eq C (pc := 755) 760 (by decide) dL_law_755 hf (fun _ hf => ?_) (fun _ hf => ?_)
  · refine A_iload C (pc := 760) 6 rfl dL_law_760 ?_
    refine A_if_ne C (pc := 762) 777 (by decide) dL_law_762 hf (fun _ hf => ?_) (fun _ hf => ?_)
    · refine A_goto C (pc := 777) 4081 (by decide) dL_law_777 ?_
      cases hf
      refine A_sub [0, 1, 2, 3, 4, 5] rfl ?_
      exact A_widen (by omega) (by omega) (K _)
    · refine A_aload_n C (pc := 765) 3 rfl dL_law_765 ?_
      refine A_iconst C (pc := 766) ic_0 dL_law_766 ?_
      obtain ⟨w767, e767, hf⟩ := bd_i hf
      refine A_laldO C (pc := 767) e767 dL_law_767 ?_
      refine A_iload C (pc := 768) 7 rfl dL_law_768 ?_
      refine A_i2l C (pc := 770) dL_law_770 ?_
      refine A_lcmp C (pc := 771) dL_law_771 ?_
      refine A_if_eq C (pc := 772) 777 (by decide) dL_law_772 hf (fun _ hf => ?_) (fun _ hf => ?_)
      · refine A_goto C (pc := 777) 4081 (by decide) dL_law_777 ?_
        cases hf
        refine A_sub [0, 1, 2, 3, 4, 5] rfl ?_
        exact A_widen (by omega) (by omega) (K _)
      · refine A_iconst C (pc := 775) ic_0 dL_law_775 ?_
        cases hf
  · refine A_iconst C (pc := 758) ic_0 dL_law_758 ?_
    cases hf
set_option maxRecDepth 100000 in
theorem w_law_7 (C : Cx p s m args c cL_law 9 RL B D Y) (hX : XI B s) (hl9 : l.stackTraces = false) (hXs : va_X b LN xs s s.heap) (hbl : b < s.heap.size) (hbA : ¬ B ≤ b) {M M2 : Mem} {x5 a1 a2 a3 : Int32} (h1 : vp_in (x5 + 1) LN) (h2 : vp_in (x5 + 2) LN) (h3 : vp_in (x5 + 3) LN) (e1 : xs (x5 + 1).toNatClampNeg = a1) (e2 : xs (x5 + 2).toNatClampNeg = a2) (e3 : xs (x5 + 3).toNatClampNeg = a3) (hkc : k + 4 ≤ room_1.cells) (hks : sl + 24 ≤ room_1.slots) (hf : f_law_7 M a1 a2 a3 = some (some M2)) (K : ∀ o2, At p l e room_1 s m args below meth c 9 (k + 4) (sl + 24) Q B D Y o2 4081 M2 [(0, .ref b), (1, .ref (B + 0)), (2, .ref (B + 47)), (3, .ref (B + 110)), (4, .ref (B + 111)), (5, .int x5)] []) : At p l e room_1 s m args below meth c 9 k sl Q B D Y o 780 M [(0, .ref b), (1, .ref (B + 0)), (2, .ref (B + 47)), (3, .ref (B + 110)), (4, .ref (B + 111)), (5, .int x5)] [] := by
  dsimp only [f_law_7] at hf
  refine A_aload_n C (pc := 780) 1 rfl dL_law_780 ?_
  refine A_aload_n C (pc := 781) 0 rfl dL_law_781 ?_
  refine A_iload C (pc := 782) 5 rfl dL_law_782 ?_
  refine A_iconst C (pc := 784) ic_1 dL_law_784 ?_
  refine A_iadd C (pc := 785) dL_law_785 ?_
  refine A_sld C (pc := 786) hXs hbl hbA h1 e1 dL_law_786 ?_
  refine A_aload_n C (pc := 787) 0 rfl dL_law_787 ?_
  refine A_iload C (pc := 788) 5 rfl dL_law_788 ?_
  refine A_iconst C (pc := 790) ic_2 dL_law_790 ?_
  refine A_iadd C (pc := 791) dL_law_791 ?_
  refine A_sld C (pc := 792) hXs hbl hbA h2 e2 dL_law_792 ?_
  refine A_aload_n C (pc := 793) 0 rfl dL_law_793 ?_
  refine A_iload C (pc := 794) 5 rfl dL_law_794 ?_
  refine A_iconst C (pc := 796) ic_3 dL_law_796 ?_
  refine A_iadd C (pc := 797) dL_law_797 ?_
  refine A_sld C (pc := 798) hXs hbl hbA h3 e3 dL_law_798 ?_
  refine A_aload_n C (pc := 799) 3 rfl dL_law_799 ?_
  obtain ⟨z800, h800, hf⟩ := bd_i hf
  refine L_callS C (pc := 800) hX (A := [.ref (B + 0), .int a1, .int a2, .int a3, .ref (B + 110)]) (rest := []) kl_L_221 kw_L_loose (m_L_loose l hl9 B D Y o h800) rfl rfl (Nat.le_of_ble_eq_true rfl) ⟨rfl, rfl, Nat.le_of_ble_eq_true rfl, Nat.le_of_ble_eq_true rfl⟩ ⟨by omega, by omega⟩ dL_law_800 ?_
  refine A_istore C (pc := 803) [(0, .ref b), (1, .ref (B + 0)), (2, .ref (B + 47)), (3, .ref (B + 110)), (4, .ref (B + 111)), (5, .int x5), (6, .int z800.1)] (by decide) [1, 2, 3, 4, 5, 6, 0] rfl dL_law_803 ?_
  refine A_aload_n C (pc := 805) 2 rfl dL_law_805 ?_
  refine A_aload_n C (pc := 806) 0 rfl dL_law_806 ?_
  refine A_iload C (pc := 807) 5 rfl dL_law_807 ?_
  refine A_iconst C (pc := 809) ic_1 dL_law_809 ?_
  refine A_iadd C (pc := 810) dL_law_810 ?_
  refine A_sld C (pc := 811) hXs hbl hbA h1 e1 dL_law_811 ?_
  refine A_aload_n C (pc := 812) 0 rfl dL_law_812 ?_
  refine A_iload C (pc := 813) 5 rfl dL_law_813 ?_
  refine A_iconst C (pc := 815) ic_2 dL_law_815 ?_
  refine A_iadd C (pc := 816) dL_law_816 ?_
  refine A_sld C (pc := 817) hXs hbl hbA h2 e2 dL_law_817 ?_
  refine A_aload_n C (pc := 818) 0 rfl dL_law_818 ?_
  refine A_iload C (pc := 819) 5 rfl dL_law_819 ?_
  refine A_iconst C (pc := 821) ic_3 dL_law_821 ?_
  refine A_iadd C (pc := 822) dL_law_822 ?_
  refine A_sld C (pc := 823) hXs hbl hbA h3 e3 dL_law_823 ?_
  obtain ⟨z824, h824, hf⟩ := bd_i hf
  refine A_callV1 C (pc := 824) (A := [.int a1, .int a2, .int a3]) (rest := []) k_L_223 ky_X7_loose kv_X7_loose (m_X7_loose l B D Y _ h824) (by decide) rfl rfl rfl rfl (Nat.le_of_ble_eq_true rfl) ⟨rfl, rfl, Nat.le_of_ble_eq_true rfl, Nat.le_of_ble_eq_true rfl⟩ ⟨by omega, by omega⟩ dL_law_824 ?_
  refine A_istore C (pc := 827) [(0, .ref b), (1, .ref (B + 0)), (2, .ref (B + 47)), (3, .ref (B + 110)), (4, .ref (B + 111)), (5, .int x5), (6, .int z800.1), (7, .int z824.1)] (by decide) [1, 2, 3, 4, 5, 6, 7, 0] rfl dL_law_827 ?_
  refine A_aload_n C (pc := 829) 2 rfl dL_law_829 ?_
  obtain ⟨z830, h830, hf⟩ := bd_i hf
  refine A_callV1 C (pc := 830) (A := []) (rest := []) k_L_198 ky_X7_thrown kv_X7_thrown (m_X7_thrown l B D Y _ h830) (by decide) rfl rfl rfl rfl (Nat.le_of_ble_eq_true rfl) ⟨rfl, rfl, Nat.le_of_ble_eq_true rfl, Nat.le_of_ble_eq_true rfl⟩ ⟨by omega, by omega⟩ dL_law_830 ?_
  refine A_iload C (pc := 833) 6 rfl dL_law_833 ?_
  refine A_icmp_eq C (pc := 835) 840 (by decide) dL_law_835 hf (fun _ hf => ?_) (fun _ hf => ?_)
  · refine A_iload C (pc := 840) 6 rfl dL_law_840 ?_
    refine A_if_ne C (pc := 842) 857 (by decide) dL_law_842 hf (fun _ hf => ?_) (fun _ hf => ?_)
    · refine A_goto C (pc := 857) 4081 (by decide) dL_law_857 ?_
      cases hf
      refine A_sub [0, 1, 2, 3, 4, 5] rfl ?_
      exact A_widen (by omega) (by omega) (K _)
    · refine A_aload_n C (pc := 845) 3 rfl dL_law_845 ?_
      refine A_iconst C (pc := 846) ic_0 dL_law_846 ?_
      obtain ⟨w847, e847, hf⟩ := bd_i hf
      refine A_laldO C (pc := 847) e847 dL_law_847 ?_
      refine A_iload C (pc := 848) 7 rfl dL_law_848 ?_
      refine A_i2l C (pc := 850) dL_law_850 ?_
      refine A_lcmp C (pc := 851) dL_law_851 ?_
      refine A_if_eq C (pc := 852) 857 (by decide) dL_law_852 hf (fun _ hf => ?_) (fun _ hf => ?_)
      · refine A_goto C (pc := 857) 4081 (by decide) dL_law_857 ?_
        cases hf
        refine A_sub [0, 1, 2, 3, 4, 5] rfl ?_
        exact A_widen (by omega) (by omega) (K _)
      · refine A_iconst C (pc := 855) ic_0 dL_law_855 ?_
        cases hf
  · refine A_iconst C (pc := 838) ic_0 dL_law_838 ?_
    cases hf
set_option maxRecDepth 100000 in
theorem w_law_8 (C : Cx p s m args c cL_law 9 RL B D Y) (hX : XI B s) (hl9 : l.stackTraces = false) (hXs : va_X b LN xs s s.heap) (hbl : b < s.heap.size) (hbA : ¬ B ≤ b) {M M2 : Mem} {x5 a1 a2 a3 : Int32} (h1 : vp_in (x5 + 1) LN) (h2 : vp_in (x5 + 2) LN) (h3 : vp_in (x5 + 3) LN) (e1 : xs (x5 + 1).toNatClampNeg = a1) (e2 : xs (x5 + 2).toNatClampNeg = a2) (e3 : xs (x5 + 3).toNatClampNeg = a3) (hkc : k + 4 ≤ room_1.cells) (hks : sl + 24 ≤ room_1.slots) (hf : f_law_8 M a1 a2 a3 = some (some M2)) (K : ∀ o2, At p l e room_1 s m args below meth c 9 (k + 4) (sl + 24) Q B D Y o2 4081 M2 [(0, .ref b), (1, .ref (B + 0)), (2, .ref (B + 47)), (3, .ref (B + 110)), (4, .ref (B + 111)), (5, .int x5)] []) : At p l e room_1 s m args below meth c 9 k sl Q B D Y o 860 M [(0, .ref b), (1, .ref (B + 0)), (2, .ref (B + 47)), (3, .ref (B + 110)), (4, .ref (B + 111)), (5, .int x5)] [] := by
  dsimp only [f_law_8] at hf
  refine A_aload_n C (pc := 860) 1 rfl dL_law_860 ?_
  refine A_aload_n C (pc := 861) 0 rfl dL_law_861 ?_
  refine A_iload C (pc := 862) 5 rfl dL_law_862 ?_
  refine A_iconst C (pc := 864) ic_1 dL_law_864 ?_
  refine A_iadd C (pc := 865) dL_law_865 ?_
  refine A_sld C (pc := 866) hXs hbl hbA h1 e1 dL_law_866 ?_
  refine A_aload_n C (pc := 867) 0 rfl dL_law_867 ?_
  refine A_iload C (pc := 868) 5 rfl dL_law_868 ?_
  refine A_iconst C (pc := 870) ic_2 dL_law_870 ?_
  refine A_iadd C (pc := 871) dL_law_871 ?_
  refine A_sld C (pc := 872) hXs hbl hbA h2 e2 dL_law_872 ?_
  refine A_aload_n C (pc := 873) 3 rfl dL_law_873 ?_
  obtain ⟨z874, h874, hf⟩ := bd_i hf
  refine L_callS C (pc := 874) hX (A := [.ref (B + 0), .int a1, .int a2, .ref (B + 110)]) (rest := []) kl_L_224 kw_L_straighten (m_L_straighten l hl9 B D Y o h874) rfl rfl (Nat.le_of_ble_eq_true rfl) ⟨rfl, rfl, Nat.le_of_ble_eq_true rfl, Nat.le_of_ble_eq_true rfl⟩ ⟨by omega, by omega⟩ dL_law_874 ?_
  refine A_istore C (pc := 877) [(0, .ref b), (1, .ref (B + 0)), (2, .ref (B + 47)), (3, .ref (B + 110)), (4, .ref (B + 111)), (5, .int x5), (6, .int z874.1)] (by decide) [1, 2, 3, 4, 5, 6, 0] rfl dL_law_877 ?_
  refine A_aload_n C (pc := 879) 2 rfl dL_law_879 ?_
  refine A_aload_n C (pc := 880) 0 rfl dL_law_880 ?_
  refine A_iload C (pc := 881) 5 rfl dL_law_881 ?_
  refine A_iconst C (pc := 883) ic_1 dL_law_883 ?_
  refine A_iadd C (pc := 884) dL_law_884 ?_
  refine A_sld C (pc := 885) hXs hbl hbA h1 e1 dL_law_885 ?_
  refine A_aload_n C (pc := 886) 0 rfl dL_law_886 ?_
  refine A_iload C (pc := 887) 5 rfl dL_law_887 ?_
  refine A_iconst C (pc := 889) ic_2 dL_law_889 ?_
  refine A_iadd C (pc := 890) dL_law_890 ?_
  refine A_sld C (pc := 891) hXs hbl hbA h2 e2 dL_law_891 ?_
  obtain ⟨z892, h892, hf⟩ := bd_i hf
  refine A_callV1 C (pc := 892) (A := [.int a1, .int a2]) (rest := []) k_L_226 ky_X7_straighten kv_X7_straighten (m_X7_straighten l B D Y _ h892) (by decide) rfl rfl rfl rfl (Nat.le_of_ble_eq_true rfl) ⟨rfl, rfl, Nat.le_of_ble_eq_true rfl, Nat.le_of_ble_eq_true rfl⟩ ⟨by omega, by omega⟩ dL_law_892 ?_
  refine A_istore C (pc := 895) [(0, .ref b), (1, .ref (B + 0)), (2, .ref (B + 47)), (3, .ref (B + 110)), (4, .ref (B + 111)), (5, .int x5), (6, .int z874.1), (7, .int z892.1)] (by decide) [1, 2, 3, 4, 5, 6, 7, 0] rfl dL_law_895 ?_
  refine A_aload_n C (pc := 897) 2 rfl dL_law_897 ?_
  obtain ⟨z898, h898, hf⟩ := bd_i hf
  refine A_callV1 C (pc := 898) (A := []) (rest := []) k_L_198 ky_X7_thrown kv_X7_thrown (m_X7_thrown l B D Y _ h898) (by decide) rfl rfl rfl rfl (Nat.le_of_ble_eq_true rfl) ⟨rfl, rfl, Nat.le_of_ble_eq_true rfl, Nat.le_of_ble_eq_true rfl⟩ ⟨by omega, by omega⟩ dL_law_898 ?_
  refine A_iload C (pc := 901) 6 rfl dL_law_901 ?_
  refine A_icmp_eq C (pc := 903) 908 (by decide) dL_law_903 hf (fun _ hf => ?_) (fun _ hf => ?_)
  · refine A_iload C (pc := 908) 6 rfl dL_law_908 ?_
    refine A_if_ne C (pc := 910) 925 (by decide) dL_law_910 hf (fun _ hf => ?_) (fun _ hf => ?_)
    · refine A_goto C (pc := 925) 4081 (by decide) dL_law_925 ?_
      cases hf
      refine A_sub [0, 1, 2, 3, 4, 5] rfl ?_
      exact A_widen (by omega) (by omega) (K _)
    · refine A_aload_n C (pc := 913) 3 rfl dL_law_913 ?_
      refine A_iconst C (pc := 914) ic_0 dL_law_914 ?_
      obtain ⟨w915, e915, hf⟩ := bd_i hf
      refine A_laldO C (pc := 915) e915 dL_law_915 ?_
      refine A_iload C (pc := 916) 7 rfl dL_law_916 ?_
      refine A_i2l C (pc := 918) dL_law_918 ?_
      refine A_lcmp C (pc := 919) dL_law_919 ?_
      refine A_if_eq C (pc := 920) 925 (by decide) dL_law_920 hf (fun _ hf => ?_) (fun _ hf => ?_)
      · refine A_goto C (pc := 925) 4081 (by decide) dL_law_925 ?_
        cases hf
        refine A_sub [0, 1, 2, 3, 4, 5] rfl ?_
        exact A_widen (by omega) (by omega) (K _)
      · refine A_iconst C (pc := 923) ic_0 dL_law_923 ?_
        cases hf
  · refine A_iconst C (pc := 906) ic_0 dL_law_906 ?_
    cases hf
set_option maxRecDepth 100000 in
theorem w_law_9 (C : Cx p s m args c cL_law 9 RL B D Y) (hX : XI B s) (hl9 : l.stackTraces = false) (hXs : va_X b LN xs s s.heap) (hbl : b < s.heap.size) (hbA : ¬ B ≤ b) {M M2 : Mem} {x5 a1 a2 a3 : Int32} (h1 : vp_in (x5 + 1) LN) (h2 : vp_in (x5 + 2) LN) (h3 : vp_in (x5 + 3) LN) (e1 : xs (x5 + 1).toNatClampNeg = a1) (e2 : xs (x5 + 2).toNatClampNeg = a2) (e3 : xs (x5 + 3).toNatClampNeg = a3) (hkc : k + 4 ≤ room_1.cells) (hks : sl + 24 ≤ room_1.slots) (hf : f_law_9 M a1 a2 a3 = some (some M2)) (K : ∀ o2, At p l e room_1 s m args below meth c 9 (k + 4) (sl + 24) Q B D Y o2 4081 M2 [(0, .ref b), (1, .ref (B + 0)), (2, .ref (B + 47)), (3, .ref (B + 110)), (4, .ref (B + 111)), (5, .int x5)] []) : At p l e room_1 s m args below meth c 9 k sl Q B D Y o 928 M [(0, .ref b), (1, .ref (B + 0)), (2, .ref (B + 47)), (3, .ref (B + 110)), (4, .ref (B + 111)), (5, .int x5)] [] := by
  dsimp only [f_law_9] at hf
  refine A_aload_n C (pc := 928) 1 rfl dL_law_928 ?_
  refine A_aload_n C (pc := 929) 0 rfl dL_law_929 ?_
  refine A_iload C (pc := 930) 5 rfl dL_law_930 ?_
  refine A_iconst C (pc := 932) ic_1 dL_law_932 ?_
  refine A_iadd C (pc := 933) dL_law_933 ?_
  refine A_sld C (pc := 934) hXs hbl hbA h1 e1 dL_law_934 ?_
  refine A_aload_n C (pc := 935) 3 rfl dL_law_935 ?_
  obtain ⟨z936, h936, hf⟩ := bd_i hf
  refine L_callS C (pc := 936) hX (A := [.ref (B + 0), .int a1, .ref (B + 110)]) (rest := []) kl_L_227 kw_L_turn (m_L_turn l hl9 B D Y o h936) rfl rfl (Nat.le_of_ble_eq_true rfl) ⟨rfl, rfl, Nat.le_of_ble_eq_true rfl, Nat.le_of_ble_eq_true rfl⟩ ⟨by omega, by omega⟩ dL_law_936 ?_
  refine A_istore C (pc := 939) [(0, .ref b), (1, .ref (B + 0)), (2, .ref (B + 47)), (3, .ref (B + 110)), (4, .ref (B + 111)), (5, .int x5), (6, .int z936.1)] (by decide) [1, 2, 3, 4, 5, 6, 0] rfl dL_law_939 ?_
  refine A_aload_n C (pc := 941) 2 rfl dL_law_941 ?_
  refine A_aload_n C (pc := 942) 0 rfl dL_law_942 ?_
  refine A_iload C (pc := 943) 5 rfl dL_law_943 ?_
  refine A_iconst C (pc := 945) ic_1 dL_law_945 ?_
  refine A_iadd C (pc := 946) dL_law_946 ?_
  refine A_sld C (pc := 947) hXs hbl hbA h1 e1 dL_law_947 ?_
  obtain ⟨z948, h948, hf⟩ := bd_i hf
  refine A_callV1 C (pc := 948) (A := [.int a1]) (rest := []) k_L_230 ky_X7_turn kv_X7_turn (m_X7_turn l B D Y _ h948) (by decide) rfl rfl rfl rfl (Nat.le_of_ble_eq_true rfl) ⟨rfl, rfl, Nat.le_of_ble_eq_true rfl, Nat.le_of_ble_eq_true rfl⟩ ⟨by omega, by omega⟩ dL_law_948 ?_
  refine A_istore C (pc := 951) [(0, .ref b), (1, .ref (B + 0)), (2, .ref (B + 47)), (3, .ref (B + 110)), (4, .ref (B + 111)), (5, .int x5), (6, .int z936.1), (7, .int z948.1)] (by decide) [1, 2, 3, 4, 5, 6, 7, 0] rfl dL_law_951 ?_
  refine A_aload_n C (pc := 953) 2 rfl dL_law_953 ?_
  obtain ⟨z954, h954, hf⟩ := bd_i hf
  refine A_callV1 C (pc := 954) (A := []) (rest := []) k_L_198 ky_X7_thrown kv_X7_thrown (m_X7_thrown l B D Y _ h954) (by decide) rfl rfl rfl rfl (Nat.le_of_ble_eq_true rfl) ⟨rfl, rfl, Nat.le_of_ble_eq_true rfl, Nat.le_of_ble_eq_true rfl⟩ ⟨by omega, by omega⟩ dL_law_954 ?_
  refine A_iload C (pc := 957) 6 rfl dL_law_957 ?_
  refine A_icmp_eq C (pc := 959) 964 (by decide) dL_law_959 hf (fun _ hf => ?_) (fun _ hf => ?_)
  · refine A_iload C (pc := 964) 6 rfl dL_law_964 ?_
    refine A_if_ne C (pc := 966) 981 (by decide) dL_law_966 hf (fun _ hf => ?_) (fun _ hf => ?_)
    · refine A_goto C (pc := 981) 4081 (by decide) dL_law_981 ?_
      cases hf
      refine A_sub [0, 1, 2, 3, 4, 5] rfl ?_
      exact A_widen (by omega) (by omega) (K _)
    · refine A_aload_n C (pc := 969) 3 rfl dL_law_969 ?_
      refine A_iconst C (pc := 970) ic_0 dL_law_970 ?_
      obtain ⟨w971, e971, hf⟩ := bd_i hf
      refine A_laldO C (pc := 971) e971 dL_law_971 ?_
      refine A_iload C (pc := 972) 7 rfl dL_law_972 ?_
      refine A_i2l C (pc := 974) dL_law_974 ?_
      refine A_lcmp C (pc := 975) dL_law_975 ?_
      refine A_if_eq C (pc := 976) 981 (by decide) dL_law_976 hf (fun _ hf => ?_) (fun _ hf => ?_)
      · refine A_goto C (pc := 981) 4081 (by decide) dL_law_981 ?_
        cases hf
        refine A_sub [0, 1, 2, 3, 4, 5] rfl ?_
        exact A_widen (by omega) (by omega) (K _)
      · refine A_iconst C (pc := 979) ic_0 dL_law_979 ?_
        cases hf
  · refine A_iconst C (pc := 962) ic_0 dL_law_962 ?_
    cases hf
set_option maxRecDepth 100000 in
theorem w_law_10 (C : Cx p s m args c cL_law 9 RL B D Y) (hX : XI B s) (hl9 : l.stackTraces = false) (hXs : va_X b LN xs s s.heap) (hbl : b < s.heap.size) (hbA : ¬ B ≤ b) {M M2 : Mem} {x5 a1 a2 a3 : Int32} (h1 : vp_in (x5 + 1) LN) (h2 : vp_in (x5 + 2) LN) (h3 : vp_in (x5 + 3) LN) (e1 : xs (x5 + 1).toNatClampNeg = a1) (e2 : xs (x5 + 2).toNatClampNeg = a2) (e3 : xs (x5 + 3).toNatClampNeg = a3) (hkc : k + 4 ≤ room_1.cells) (hks : sl + 24 ≤ room_1.slots) (hf : f_law_10 M a1 a2 a3 = some (some M2)) (K : ∀ o2, At p l e room_1 s m args below meth c 9 (k + 4) (sl + 24) Q B D Y o2 4081 M2 [(0, .ref b), (1, .ref (B + 0)), (2, .ref (B + 47)), (3, .ref (B + 110)), (4, .ref (B + 111)), (5, .int x5)] []) : At p l e room_1 s m args below meth c 9 k sl Q B D Y o 984 M [(0, .ref b), (1, .ref (B + 0)), (2, .ref (B + 47)), (3, .ref (B + 110)), (4, .ref (B + 111)), (5, .int x5)] [] := by
  dsimp only [f_law_10] at hf
  refine A_aload_n C (pc := 984) 1 rfl dL_law_984 ?_
  refine A_aload_n C (pc := 985) 0 rfl dL_law_985 ?_
  refine A_iload C (pc := 986) 5 rfl dL_law_986 ?_
  refine A_iconst C (pc := 988) ic_1 dL_law_988 ?_
  refine A_iadd C (pc := 989) dL_law_989 ?_
  refine A_sld C (pc := 990) hXs hbl hbA h1 e1 dL_law_990 ?_
  refine A_aload_n C (pc := 991) 0 rfl dL_law_991 ?_
  refine A_iload C (pc := 992) 5 rfl dL_law_992 ?_
  refine A_iconst C (pc := 994) ic_2 dL_law_994 ?_
  refine A_iadd C (pc := 995) dL_law_995 ?_
  refine A_sld C (pc := 996) hXs hbl hbA h2 e2 dL_law_996 ?_
  refine A_aload_n C (pc := 997) 3 rfl dL_law_997 ?_
  obtain ⟨z998, h998, hf⟩ := bd_i hf
  refine L_callS C (pc := 998) hX (A := [.ref (B + 0), .int a1, .int a2, .ref (B + 110)]) (rest := []) kl_L_231 kw_L_copy (m_L_copy l hl9 B D Y o h998) rfl rfl (Nat.le_of_ble_eq_true rfl) ⟨rfl, rfl, Nat.le_of_ble_eq_true rfl, Nat.le_of_ble_eq_true rfl⟩ ⟨by omega, by omega⟩ dL_law_998 ?_
  refine A_istore C (pc := 1001) [(0, .ref b), (1, .ref (B + 0)), (2, .ref (B + 47)), (3, .ref (B + 110)), (4, .ref (B + 111)), (5, .int x5), (6, .int z998.1)] (by decide) [1, 2, 3, 4, 5, 6, 0] rfl dL_law_1001 ?_
  refine A_aload_n C (pc := 1003) 2 rfl dL_law_1003 ?_
  refine A_aload_n C (pc := 1004) 0 rfl dL_law_1004 ?_
  refine A_iload C (pc := 1005) 5 rfl dL_law_1005 ?_
  refine A_iconst C (pc := 1007) ic_1 dL_law_1007 ?_
  refine A_iadd C (pc := 1008) dL_law_1008 ?_
  refine A_sld C (pc := 1009) hXs hbl hbA h1 e1 dL_law_1009 ?_
  refine A_aload_n C (pc := 1010) 0 rfl dL_law_1010 ?_
  refine A_iload C (pc := 1011) 5 rfl dL_law_1011 ?_
  refine A_iconst C (pc := 1013) ic_2 dL_law_1013 ?_
  refine A_iadd C (pc := 1014) dL_law_1014 ?_
  refine A_sld C (pc := 1015) hXs hbl hbA h2 e2 dL_law_1015 ?_
  obtain ⟨z1016, h1016, hf⟩ := bd_i hf
  refine A_callV1 C (pc := 1016) (A := [.int a1, .int a2]) (rest := []) k_L_233 ky_X7_copy kv_X7_copy (m_X7_copy l B D Y _ h1016) (by decide) rfl rfl rfl rfl (Nat.le_of_ble_eq_true rfl) ⟨rfl, rfl, Nat.le_of_ble_eq_true rfl, Nat.le_of_ble_eq_true rfl⟩ ⟨by omega, by omega⟩ dL_law_1016 ?_
  refine A_istore C (pc := 1019) [(0, .ref b), (1, .ref (B + 0)), (2, .ref (B + 47)), (3, .ref (B + 110)), (4, .ref (B + 111)), (5, .int x5), (6, .int z998.1), (7, .int z1016.1)] (by decide) [1, 2, 3, 4, 5, 6, 7, 0] rfl dL_law_1019 ?_
  refine A_aload_n C (pc := 1021) 2 rfl dL_law_1021 ?_
  obtain ⟨z1022, h1022, hf⟩ := bd_i hf
  refine A_callV1 C (pc := 1022) (A := []) (rest := []) k_L_198 ky_X7_thrown kv_X7_thrown (m_X7_thrown l B D Y _ h1022) (by decide) rfl rfl rfl rfl (Nat.le_of_ble_eq_true rfl) ⟨rfl, rfl, Nat.le_of_ble_eq_true rfl, Nat.le_of_ble_eq_true rfl⟩ ⟨by omega, by omega⟩ dL_law_1022 ?_
  refine A_iload C (pc := 1025) 6 rfl dL_law_1025 ?_
  refine A_icmp_eq C (pc := 1027) 1032 (by decide) dL_law_1027 hf (fun _ hf => ?_) (fun _ hf => ?_)
  · refine A_iload C (pc := 1032) 6 rfl dL_law_1032 ?_
    refine A_if_ne C (pc := 1034) 1049 (by decide) dL_law_1034 hf (fun _ hf => ?_) (fun _ hf => ?_)
    · refine A_goto C (pc := 1049) 4081 (by decide) dL_law_1049 ?_
      cases hf
      refine A_sub [0, 1, 2, 3, 4, 5] rfl ?_
      exact A_widen (by omega) (by omega) (K _)
    · refine A_aload_n C (pc := 1037) 3 rfl dL_law_1037 ?_
      refine A_iconst C (pc := 1038) ic_0 dL_law_1038 ?_
      obtain ⟨w1039, e1039, hf⟩ := bd_i hf
      refine A_laldO C (pc := 1039) e1039 dL_law_1039 ?_
      refine A_iload C (pc := 1040) 7 rfl dL_law_1040 ?_
      refine A_i2l C (pc := 1042) dL_law_1042 ?_
      refine A_lcmp C (pc := 1043) dL_law_1043 ?_
      refine A_if_eq C (pc := 1044) 1049 (by decide) dL_law_1044 hf (fun _ hf => ?_) (fun _ hf => ?_)
      · refine A_goto C (pc := 1049) 4081 (by decide) dL_law_1049 ?_
        cases hf
        refine A_sub [0, 1, 2, 3, 4, 5] rfl ?_
        exact A_widen (by omega) (by omega) (K _)
      · refine A_iconst C (pc := 1047) ic_0 dL_law_1047 ?_
        cases hf
  · refine A_iconst C (pc := 1030) ic_0 dL_law_1030 ?_
    cases hf
set_option maxRecDepth 100000 in
theorem w_law_11 (C : Cx p s m args c cL_law 9 RL B D Y) (hX : XI B s) (hl9 : l.stackTraces = false) (hXs : va_X b LN xs s s.heap) (hbl : b < s.heap.size) (hbA : ¬ B ≤ b) {M M2 : Mem} {x5 a1 a2 a3 : Int32} (h1 : vp_in (x5 + 1) LN) (h2 : vp_in (x5 + 2) LN) (h3 : vp_in (x5 + 3) LN) (e1 : xs (x5 + 1).toNatClampNeg = a1) (e2 : xs (x5 + 2).toNatClampNeg = a2) (e3 : xs (x5 + 3).toNatClampNeg = a3) (hkc : k + 4 ≤ room_1.cells) (hks : sl + 24 ≤ room_1.slots) (hf : f_law_11 M a1 a2 a3 = some (some M2)) (K : ∀ o2, At p l e room_1 s m args below meth c 9 (k + 4) (sl + 24) Q B D Y o2 4081 M2 [(0, .ref b), (1, .ref (B + 0)), (2, .ref (B + 47)), (3, .ref (B + 110)), (4, .ref (B + 111)), (5, .int x5)] []) : At p l e room_1 s m args below meth c 9 k sl Q B D Y o 1052 M [(0, .ref b), (1, .ref (B + 0)), (2, .ref (B + 47)), (3, .ref (B + 110)), (4, .ref (B + 111)), (5, .int x5)] [] := by
  dsimp only [f_law_11] at hf
  refine A_aload_n C (pc := 1052) 1 rfl dL_law_1052 ?_
  refine A_aload_n C (pc := 1053) 0 rfl dL_law_1053 ?_
  refine A_iload C (pc := 1054) 5 rfl dL_law_1054 ?_
  refine A_iconst C (pc := 1056) ic_1 dL_law_1056 ?_
  refine A_iadd C (pc := 1057) dL_law_1057 ?_
  refine A_sld C (pc := 1058) hXs hbl hbA h1 e1 dL_law_1058 ?_
  refine A_aload_n C (pc := 1059) 0 rfl dL_law_1059 ?_
  refine A_iload C (pc := 1060) 5 rfl dL_law_1060 ?_
  refine A_iconst C (pc := 1062) ic_2 dL_law_1062 ?_
  refine A_iadd C (pc := 1063) dL_law_1063 ?_
  refine A_sld C (pc := 1064) hXs hbl hbA h2 e2 dL_law_1064 ?_
  refine A_aload_n C (pc := 1065) 0 rfl dL_law_1065 ?_
  refine A_iload C (pc := 1066) 5 rfl dL_law_1066 ?_
  refine A_iconst C (pc := 1068) ic_3 dL_law_1068 ?_
  refine A_iadd C (pc := 1069) dL_law_1069 ?_
  refine A_sld C (pc := 1070) hXs hbl hbA h3 e3 dL_law_1070 ?_
  refine A_aload_n C (pc := 1071) 3 rfl dL_law_1071 ?_
  obtain ⟨z1072, h1072, hf⟩ := bd_i hf
  refine L_callS C (pc := 1072) hX (A := [.ref (B + 0), .int a1, .int a2, .int a3, .ref (B + 110)]) (rest := []) kl_L_234 kw_L_beside (m_L_beside l hl9 B D Y o h1072) rfl rfl (Nat.le_of_ble_eq_true rfl) ⟨rfl, rfl, Nat.le_of_ble_eq_true rfl, Nat.le_of_ble_eq_true rfl⟩ ⟨by omega, by omega⟩ dL_law_1072 ?_
  refine A_istore C (pc := 1075) [(0, .ref b), (1, .ref (B + 0)), (2, .ref (B + 47)), (3, .ref (B + 110)), (4, .ref (B + 111)), (5, .int x5), (6, .int z1072.1)] (by decide) [1, 2, 3, 4, 5, 6, 0] rfl dL_law_1075 ?_
  refine A_aload_n C (pc := 1077) 2 rfl dL_law_1077 ?_
  refine A_aload_n C (pc := 1078) 0 rfl dL_law_1078 ?_
  refine A_iload C (pc := 1079) 5 rfl dL_law_1079 ?_
  refine A_iconst C (pc := 1081) ic_1 dL_law_1081 ?_
  refine A_iadd C (pc := 1082) dL_law_1082 ?_
  refine A_sld C (pc := 1083) hXs hbl hbA h1 e1 dL_law_1083 ?_
  refine A_aload_n C (pc := 1084) 0 rfl dL_law_1084 ?_
  refine A_iload C (pc := 1085) 5 rfl dL_law_1085 ?_
  refine A_iconst C (pc := 1087) ic_2 dL_law_1087 ?_
  refine A_iadd C (pc := 1088) dL_law_1088 ?_
  refine A_sld C (pc := 1089) hXs hbl hbA h2 e2 dL_law_1089 ?_
  refine A_aload_n C (pc := 1090) 0 rfl dL_law_1090 ?_
  refine A_iload C (pc := 1091) 5 rfl dL_law_1091 ?_
  refine A_iconst C (pc := 1093) ic_3 dL_law_1093 ?_
  refine A_iadd C (pc := 1094) dL_law_1094 ?_
  refine A_sld C (pc := 1095) hXs hbl hbA h3 e3 dL_law_1095 ?_
  obtain ⟨z1096, h1096, hf⟩ := bd_i hf
  refine A_callV1 C (pc := 1096) (A := [.int a1, .int a2, .int a3]) (rest := []) k_L_236 ky_X7_beside kv_X7_beside (m_X7_beside l B D Y _ h1096) (by decide) rfl rfl rfl rfl (Nat.le_of_ble_eq_true rfl) ⟨rfl, rfl, Nat.le_of_ble_eq_true rfl, Nat.le_of_ble_eq_true rfl⟩ ⟨by omega, by omega⟩ dL_law_1096 ?_
  refine A_istore C (pc := 1099) [(0, .ref b), (1, .ref (B + 0)), (2, .ref (B + 47)), (3, .ref (B + 110)), (4, .ref (B + 111)), (5, .int x5), (6, .int z1072.1), (7, .int z1096.1)] (by decide) [1, 2, 3, 4, 5, 6, 7, 0] rfl dL_law_1099 ?_
  refine A_aload_n C (pc := 1101) 2 rfl dL_law_1101 ?_
  obtain ⟨z1102, h1102, hf⟩ := bd_i hf
  refine A_callV1 C (pc := 1102) (A := []) (rest := []) k_L_198 ky_X7_thrown kv_X7_thrown (m_X7_thrown l B D Y _ h1102) (by decide) rfl rfl rfl rfl (Nat.le_of_ble_eq_true rfl) ⟨rfl, rfl, Nat.le_of_ble_eq_true rfl, Nat.le_of_ble_eq_true rfl⟩ ⟨by omega, by omega⟩ dL_law_1102 ?_
  refine A_iload C (pc := 1105) 6 rfl dL_law_1105 ?_
  refine A_icmp_eq C (pc := 1107) 1112 (by decide) dL_law_1107 hf (fun _ hf => ?_) (fun _ hf => ?_)
  · refine A_iload C (pc := 1112) 6 rfl dL_law_1112 ?_
    refine A_if_ne C (pc := 1114) 1129 (by decide) dL_law_1114 hf (fun _ hf => ?_) (fun _ hf => ?_)
    · refine A_goto C (pc := 1129) 4081 (by decide) dL_law_1129 ?_
      cases hf
      refine A_sub [0, 1, 2, 3, 4, 5] rfl ?_
      exact A_widen (by omega) (by omega) (K _)
    · refine A_aload_n C (pc := 1117) 3 rfl dL_law_1117 ?_
      refine A_iconst C (pc := 1118) ic_0 dL_law_1118 ?_
      obtain ⟨w1119, e1119, hf⟩ := bd_i hf
      refine A_laldO C (pc := 1119) e1119 dL_law_1119 ?_
      refine A_iload C (pc := 1120) 7 rfl dL_law_1120 ?_
      refine A_i2l C (pc := 1122) dL_law_1122 ?_
      refine A_lcmp C (pc := 1123) dL_law_1123 ?_
      refine A_if_eq C (pc := 1124) 1129 (by decide) dL_law_1124 hf (fun _ hf => ?_) (fun _ hf => ?_)
      · refine A_goto C (pc := 1129) 4081 (by decide) dL_law_1129 ?_
        cases hf
        refine A_sub [0, 1, 2, 3, 4, 5] rfl ?_
        exact A_widen (by omega) (by omega) (K _)
      · refine A_iconst C (pc := 1127) ic_0 dL_law_1127 ?_
        cases hf
  · refine A_iconst C (pc := 1110) ic_0 dL_law_1110 ?_
    cases hf
set_option maxRecDepth 100000 in
theorem w_law_12 (C : Cx p s m args c cL_law 9 RL B D Y) (hX : XI B s) (hl9 : l.stackTraces = false) (hXs : va_X b LN xs s s.heap) (hbl : b < s.heap.size) (hbA : ¬ B ≤ b) {M M2 : Mem} {x5 a1 a2 a3 : Int32} (h1 : vp_in (x5 + 1) LN) (h2 : vp_in (x5 + 2) LN) (h3 : vp_in (x5 + 3) LN) (e1 : xs (x5 + 1).toNatClampNeg = a1) (e2 : xs (x5 + 2).toNatClampNeg = a2) (e3 : xs (x5 + 3).toNatClampNeg = a3) (hkc : k + 4 ≤ room_1.cells) (hks : sl + 24 ≤ room_1.slots) (hf : f_law_12 M a1 a2 a3 = some (some M2)) (K : ∀ o2, At p l e room_1 s m args below meth c 9 (k + 4) (sl + 24) Q B D Y o2 4081 M2 [(0, .ref b), (1, .ref (B + 0)), (2, .ref (B + 47)), (3, .ref (B + 110)), (4, .ref (B + 111)), (5, .int x5)] []) : At p l e room_1 s m args below meth c 9 k sl Q B D Y o 1132 M [(0, .ref b), (1, .ref (B + 0)), (2, .ref (B + 47)), (3, .ref (B + 110)), (4, .ref (B + 111)), (5, .int x5)] [] := by
  dsimp only [f_law_12] at hf
  refine A_aload_n C (pc := 1132) 1 rfl dL_law_1132 ?_
  refine A_aload_n C (pc := 1133) 0 rfl dL_law_1133 ?_
  refine A_iload C (pc := 1134) 5 rfl dL_law_1134 ?_
  refine A_iconst C (pc := 1136) ic_1 dL_law_1136 ?_
  refine A_iadd C (pc := 1137) dL_law_1137 ?_
  refine A_sld C (pc := 1138) hXs hbl hbA h1 e1 dL_law_1138 ?_
  refine A_aload_n C (pc := 1139) 0 rfl dL_law_1139 ?_
  refine A_iload C (pc := 1140) 5 rfl dL_law_1140 ?_
  refine A_iconst C (pc := 1142) ic_2 dL_law_1142 ?_
  refine A_iadd C (pc := 1143) dL_law_1143 ?_
  refine A_sld C (pc := 1144) hXs hbl hbA h2 e2 dL_law_1144 ?_
  refine A_aload_n C (pc := 1145) 0 rfl dL_law_1145 ?_
  refine A_iload C (pc := 1146) 5 rfl dL_law_1146 ?_
  refine A_iconst C (pc := 1148) ic_3 dL_law_1148 ?_
  refine A_iadd C (pc := 1149) dL_law_1149 ?_
  refine A_sld C (pc := 1150) hXs hbl hbA h3 e3 dL_law_1150 ?_
  refine A_aload_n C (pc := 1151) 3 rfl dL_law_1151 ?_
  obtain ⟨z1152, h1152, hf⟩ := bd_i hf
  refine L_callS C (pc := 1152) hX (A := [.ref (B + 0), .int a1, .int a2, .int a3, .ref (B + 110)]) (rest := []) kl_L_237 kw_L_above (m_L_above l hl9 B D Y o h1152) rfl rfl (Nat.le_of_ble_eq_true rfl) ⟨rfl, rfl, Nat.le_of_ble_eq_true rfl, Nat.le_of_ble_eq_true rfl⟩ ⟨by omega, by omega⟩ dL_law_1152 ?_
  refine A_istore C (pc := 1155) [(0, .ref b), (1, .ref (B + 0)), (2, .ref (B + 47)), (3, .ref (B + 110)), (4, .ref (B + 111)), (5, .int x5), (6, .int z1152.1)] (by decide) [1, 2, 3, 4, 5, 6, 0] rfl dL_law_1155 ?_
  refine A_aload_n C (pc := 1157) 2 rfl dL_law_1157 ?_
  refine A_aload_n C (pc := 1158) 0 rfl dL_law_1158 ?_
  refine A_iload C (pc := 1159) 5 rfl dL_law_1159 ?_
  refine A_iconst C (pc := 1161) ic_1 dL_law_1161 ?_
  refine A_iadd C (pc := 1162) dL_law_1162 ?_
  refine A_sld C (pc := 1163) hXs hbl hbA h1 e1 dL_law_1163 ?_
  refine A_aload_n C (pc := 1164) 0 rfl dL_law_1164 ?_
  refine A_iload C (pc := 1165) 5 rfl dL_law_1165 ?_
  refine A_iconst C (pc := 1167) ic_2 dL_law_1167 ?_
  refine A_iadd C (pc := 1168) dL_law_1168 ?_
  refine A_sld C (pc := 1169) hXs hbl hbA h2 e2 dL_law_1169 ?_
  refine A_aload_n C (pc := 1170) 0 rfl dL_law_1170 ?_
  refine A_iload C (pc := 1171) 5 rfl dL_law_1171 ?_
  refine A_iconst C (pc := 1173) ic_3 dL_law_1173 ?_
  refine A_iadd C (pc := 1174) dL_law_1174 ?_
  refine A_sld C (pc := 1175) hXs hbl hbA h3 e3 dL_law_1175 ?_
  obtain ⟨z1176, h1176, hf⟩ := bd_i hf
  refine A_callV1 C (pc := 1176) (A := [.int a1, .int a2, .int a3]) (rest := []) k_L_239 ky_X7_above kv_X7_above (m_X7_above l B D Y _ h1176) (by decide) rfl rfl rfl rfl (Nat.le_of_ble_eq_true rfl) ⟨rfl, rfl, Nat.le_of_ble_eq_true rfl, Nat.le_of_ble_eq_true rfl⟩ ⟨by omega, by omega⟩ dL_law_1176 ?_
  refine A_istore C (pc := 1179) [(0, .ref b), (1, .ref (B + 0)), (2, .ref (B + 47)), (3, .ref (B + 110)), (4, .ref (B + 111)), (5, .int x5), (6, .int z1152.1), (7, .int z1176.1)] (by decide) [1, 2, 3, 4, 5, 6, 7, 0] rfl dL_law_1179 ?_
  refine A_aload_n C (pc := 1181) 2 rfl dL_law_1181 ?_
  obtain ⟨z1182, h1182, hf⟩ := bd_i hf
  refine A_callV1 C (pc := 1182) (A := []) (rest := []) k_L_198 ky_X7_thrown kv_X7_thrown (m_X7_thrown l B D Y _ h1182) (by decide) rfl rfl rfl rfl (Nat.le_of_ble_eq_true rfl) ⟨rfl, rfl, Nat.le_of_ble_eq_true rfl, Nat.le_of_ble_eq_true rfl⟩ ⟨by omega, by omega⟩ dL_law_1182 ?_
  refine A_iload C (pc := 1185) 6 rfl dL_law_1185 ?_
  refine A_icmp_eq C (pc := 1187) 1192 (by decide) dL_law_1187 hf (fun _ hf => ?_) (fun _ hf => ?_)
  · refine A_iload C (pc := 1192) 6 rfl dL_law_1192 ?_
    refine A_if_ne C (pc := 1194) 1209 (by decide) dL_law_1194 hf (fun _ hf => ?_) (fun _ hf => ?_)
    · refine A_goto C (pc := 1209) 4081 (by decide) dL_law_1209 ?_
      cases hf
      refine A_sub [0, 1, 2, 3, 4, 5] rfl ?_
      exact A_widen (by omega) (by omega) (K _)
    · refine A_aload_n C (pc := 1197) 3 rfl dL_law_1197 ?_
      refine A_iconst C (pc := 1198) ic_0 dL_law_1198 ?_
      obtain ⟨w1199, e1199, hf⟩ := bd_i hf
      refine A_laldO C (pc := 1199) e1199 dL_law_1199 ?_
      refine A_iload C (pc := 1200) 7 rfl dL_law_1200 ?_
      refine A_i2l C (pc := 1202) dL_law_1202 ?_
      refine A_lcmp C (pc := 1203) dL_law_1203 ?_
      refine A_if_eq C (pc := 1204) 1209 (by decide) dL_law_1204 hf (fun _ hf => ?_) (fun _ hf => ?_)
      · refine A_goto C (pc := 1209) 4081 (by decide) dL_law_1209 ?_
        cases hf
        refine A_sub [0, 1, 2, 3, 4, 5] rfl ?_
        exact A_widen (by omega) (by omega) (K _)
      · refine A_iconst C (pc := 1207) ic_0 dL_law_1207 ?_
        cases hf
  · refine A_iconst C (pc := 1190) ic_0 dL_law_1190 ?_
    cases hf
set_option maxRecDepth 100000 in
theorem w_law_13 (C : Cx p s m args c cL_law 9 RL B D Y) (hX : XI B s) (hl9 : l.stackTraces = false) (hXs : va_X b LN xs s s.heap) (hbl : b < s.heap.size) (hbA : ¬ B ≤ b) {M M2 : Mem} {x5 a1 a2 a3 : Int32} (h1 : vp_in (x5 + 1) LN) (h2 : vp_in (x5 + 2) LN) (h3 : vp_in (x5 + 3) LN) (e1 : xs (x5 + 1).toNatClampNeg = a1) (e2 : xs (x5 + 2).toNatClampNeg = a2) (e3 : xs (x5 + 3).toNatClampNeg = a3) (hkc : k + 4 ≤ room_1.cells) (hks : sl + 24 ≤ room_1.slots) (hf : f_law_13 M a1 a2 a3 = some (some M2)) (K : ∀ o2, At p l e room_1 s m args below meth c 9 (k + 4) (sl + 24) Q B D Y o2 4081 M2 [(0, .ref b), (1, .ref (B + 0)), (2, .ref (B + 47)), (3, .ref (B + 110)), (4, .ref (B + 111)), (5, .int x5)] []) : At p l e room_1 s m args below meth c 9 k sl Q B D Y o 1212 M [(0, .ref b), (1, .ref (B + 0)), (2, .ref (B + 47)), (3, .ref (B + 110)), (4, .ref (B + 111)), (5, .int x5)] [] := by
  dsimp only [f_law_13] at hf
  refine A_aload_n C (pc := 1212) 1 rfl dL_law_1212 ?_
  refine A_aload_n C (pc := 1213) 0 rfl dL_law_1213 ?_
  refine A_iload C (pc := 1214) 5 rfl dL_law_1214 ?_
  refine A_iconst C (pc := 1216) ic_1 dL_law_1216 ?_
  refine A_iadd C (pc := 1217) dL_law_1217 ?_
  refine A_sld C (pc := 1218) hXs hbl hbA h1 e1 dL_law_1218 ?_
  refine A_aload_n C (pc := 1219) 0 rfl dL_law_1219 ?_
  refine A_iload C (pc := 1220) 5 rfl dL_law_1220 ?_
  refine A_iconst C (pc := 1222) ic_2 dL_law_1222 ?_
  refine A_iadd C (pc := 1223) dL_law_1223 ?_
  refine A_sld C (pc := 1224) hXs hbl hbA h2 e2 dL_law_1224 ?_
  refine A_aload_n C (pc := 1225) 0 rfl dL_law_1225 ?_
  refine A_iload C (pc := 1226) 5 rfl dL_law_1226 ?_
  refine A_iconst C (pc := 1228) ic_3 dL_law_1228 ?_
  refine A_iadd C (pc := 1229) dL_law_1229 ?_
  refine A_sld C (pc := 1230) hXs hbl hbA h3 e3 dL_law_1230 ?_
  refine A_aload_n C (pc := 1231) 3 rfl dL_law_1231 ?_
  obtain ⟨z1232, h1232, hf⟩ := bd_i hf
  refine L_callS C (pc := 1232) hX (A := [.ref (B + 0), .int a1, .int a2, .int a3, .ref (B + 110)]) (rest := []) kl_L_240 kw_L_meet (m_L_meet l hl9 B D Y o h1232) rfl rfl (Nat.le_of_ble_eq_true rfl) ⟨rfl, rfl, Nat.le_of_ble_eq_true rfl, Nat.le_of_ble_eq_true rfl⟩ ⟨by omega, by omega⟩ dL_law_1232 ?_
  refine A_istore C (pc := 1235) [(0, .ref b), (1, .ref (B + 0)), (2, .ref (B + 47)), (3, .ref (B + 110)), (4, .ref (B + 111)), (5, .int x5), (6, .int z1232.1)] (by decide) [1, 2, 3, 4, 5, 6, 0] rfl dL_law_1235 ?_
  refine A_aload_n C (pc := 1237) 2 rfl dL_law_1237 ?_
  refine A_aload_n C (pc := 1238) 0 rfl dL_law_1238 ?_
  refine A_iload C (pc := 1239) 5 rfl dL_law_1239 ?_
  refine A_iconst C (pc := 1241) ic_1 dL_law_1241 ?_
  refine A_iadd C (pc := 1242) dL_law_1242 ?_
  refine A_sld C (pc := 1243) hXs hbl hbA h1 e1 dL_law_1243 ?_
  refine A_aload_n C (pc := 1244) 0 rfl dL_law_1244 ?_
  refine A_iload C (pc := 1245) 5 rfl dL_law_1245 ?_
  refine A_iconst C (pc := 1247) ic_2 dL_law_1247 ?_
  refine A_iadd C (pc := 1248) dL_law_1248 ?_
  refine A_sld C (pc := 1249) hXs hbl hbA h2 e2 dL_law_1249 ?_
  refine A_aload_n C (pc := 1250) 0 rfl dL_law_1250 ?_
  refine A_iload C (pc := 1251) 5 rfl dL_law_1251 ?_
  refine A_iconst C (pc := 1253) ic_3 dL_law_1253 ?_
  refine A_iadd C (pc := 1254) dL_law_1254 ?_
  refine A_sld C (pc := 1255) hXs hbl hbA h3 e3 dL_law_1255 ?_
  obtain ⟨z1256, h1256, hf⟩ := bd_i hf
  refine A_callV1 C (pc := 1256) (A := [.int a1, .int a2, .int a3]) (rest := []) k_L_242 ky_X7_meet kv_X7_meet (m_X7_meet l B D Y _ h1256) (by decide) rfl rfl rfl rfl (Nat.le_of_ble_eq_true rfl) ⟨rfl, rfl, Nat.le_of_ble_eq_true rfl, Nat.le_of_ble_eq_true rfl⟩ ⟨by omega, by omega⟩ dL_law_1256 ?_
  refine A_istore C (pc := 1259) [(0, .ref b), (1, .ref (B + 0)), (2, .ref (B + 47)), (3, .ref (B + 110)), (4, .ref (B + 111)), (5, .int x5), (6, .int z1232.1), (7, .int z1256.1)] (by decide) [1, 2, 3, 4, 5, 6, 7, 0] rfl dL_law_1259 ?_
  refine A_aload_n C (pc := 1261) 2 rfl dL_law_1261 ?_
  obtain ⟨z1262, h1262, hf⟩ := bd_i hf
  refine A_callV1 C (pc := 1262) (A := []) (rest := []) k_L_198 ky_X7_thrown kv_X7_thrown (m_X7_thrown l B D Y _ h1262) (by decide) rfl rfl rfl rfl (Nat.le_of_ble_eq_true rfl) ⟨rfl, rfl, Nat.le_of_ble_eq_true rfl, Nat.le_of_ble_eq_true rfl⟩ ⟨by omega, by omega⟩ dL_law_1262 ?_
  refine A_iload C (pc := 1265) 6 rfl dL_law_1265 ?_
  refine A_icmp_eq C (pc := 1267) 1272 (by decide) dL_law_1267 hf (fun _ hf => ?_) (fun _ hf => ?_)
  · refine A_iload C (pc := 1272) 6 rfl dL_law_1272 ?_
    refine A_if_ne C (pc := 1274) 1289 (by decide) dL_law_1274 hf (fun _ hf => ?_) (fun _ hf => ?_)
    · refine A_goto C (pc := 1289) 4081 (by decide) dL_law_1289 ?_
      cases hf
      refine A_sub [0, 1, 2, 3, 4, 5] rfl ?_
      exact A_widen (by omega) (by omega) (K _)
    · refine A_aload_n C (pc := 1277) 3 rfl dL_law_1277 ?_
      refine A_iconst C (pc := 1278) ic_0 dL_law_1278 ?_
      obtain ⟨w1279, e1279, hf⟩ := bd_i hf
      refine A_laldO C (pc := 1279) e1279 dL_law_1279 ?_
      refine A_iload C (pc := 1280) 7 rfl dL_law_1280 ?_
      refine A_i2l C (pc := 1282) dL_law_1282 ?_
      refine A_lcmp C (pc := 1283) dL_law_1283 ?_
      refine A_if_eq C (pc := 1284) 1289 (by decide) dL_law_1284 hf (fun _ hf => ?_) (fun _ hf => ?_)
      · refine A_goto C (pc := 1289) 4081 (by decide) dL_law_1289 ?_
        cases hf
        refine A_sub [0, 1, 2, 3, 4, 5] rfl ?_
        exact A_widen (by omega) (by omega) (K _)
      · refine A_iconst C (pc := 1287) ic_0 dL_law_1287 ?_
        cases hf
  · refine A_iconst C (pc := 1270) ic_0 dL_law_1270 ?_
    cases hf
set_option maxRecDepth 100000 in
theorem w_law_14 (C : Cx p s m args c cL_law 9 RL B D Y) (hX : XI B s) (hl9 : l.stackTraces = false) (hXs : va_X b LN xs s s.heap) (hbl : b < s.heap.size) (hbA : ¬ B ≤ b) {M M2 : Mem} {x5 a1 a2 a3 : Int32} (h1 : vp_in (x5 + 1) LN) (h2 : vp_in (x5 + 2) LN) (h3 : vp_in (x5 + 3) LN) (e1 : xs (x5 + 1).toNatClampNeg = a1) (e2 : xs (x5 + 2).toNatClampNeg = a2) (e3 : xs (x5 + 3).toNatClampNeg = a3) (hkc : k + 4 ≤ room_1.cells) (hks : sl + 24 ≤ room_1.slots) (hf : f_law_14 M a1 a2 a3 = some (some M2)) (K : ∀ o2, At p l e room_1 s m args below meth c 9 (k + 4) (sl + 24) Q B D Y o2 4081 M2 [(0, .ref b), (1, .ref (B + 0)), (2, .ref (B + 47)), (3, .ref (B + 110)), (4, .ref (B + 111)), (5, .int x5)] []) : At p l e room_1 s m args below meth c 9 k sl Q B D Y o 1292 M [(0, .ref b), (1, .ref (B + 0)), (2, .ref (B + 47)), (3, .ref (B + 110)), (4, .ref (B + 111)), (5, .int x5)] [] := by
  dsimp only [f_law_14] at hf
  refine A_aload_n C (pc := 1292) 1 rfl dL_law_1292 ?_
  refine A_aload_n C (pc := 1293) 0 rfl dL_law_1293 ?_
  refine A_iload C (pc := 1294) 5 rfl dL_law_1294 ?_
  refine A_iconst C (pc := 1296) ic_1 dL_law_1296 ?_
  refine A_iadd C (pc := 1297) dL_law_1297 ?_
  refine A_sld C (pc := 1298) hXs hbl hbA h1 e1 dL_law_1298 ?_
  refine A_aload_n C (pc := 1299) 3 rfl dL_law_1299 ?_
  obtain ⟨z1300, h1300, hf⟩ := bd_i hf
  refine L_callS C (pc := 1300) hX (A := [.ref (B + 0), .int a1, .ref (B + 110)]) (rest := []) kl_L_243 kw_L_things (m_L_things l hl9 B D Y o h1300) rfl rfl (Nat.le_of_ble_eq_true rfl) ⟨rfl, rfl, Nat.le_of_ble_eq_true rfl, Nat.le_of_ble_eq_true rfl⟩ ⟨by omega, by omega⟩ dL_law_1300 ?_
  refine A_istore C (pc := 1303) [(0, .ref b), (1, .ref (B + 0)), (2, .ref (B + 47)), (3, .ref (B + 110)), (4, .ref (B + 111)), (5, .int x5), (6, .int z1300.1)] (by decide) [1, 2, 3, 4, 5, 6, 0] rfl dL_law_1303 ?_
  refine A_aload_n C (pc := 1305) 2 rfl dL_law_1305 ?_
  refine A_aload_n C (pc := 1306) 0 rfl dL_law_1306 ?_
  refine A_iload C (pc := 1307) 5 rfl dL_law_1307 ?_
  refine A_iconst C (pc := 1309) ic_1 dL_law_1309 ?_
  refine A_iadd C (pc := 1310) dL_law_1310 ?_
  refine A_sld C (pc := 1311) hXs hbl hbA h1 e1 dL_law_1311 ?_
  obtain ⟨z1312, h1312, hf⟩ := bd_i hf
  refine A_callV1 C (pc := 1312) (A := [.int a1]) (rest := []) k_L_245 ky_X7_things kv_X7_things (m_X7_things l B D Y _ h1312) (by decide) rfl rfl rfl rfl (Nat.le_of_ble_eq_true rfl) ⟨rfl, rfl, Nat.le_of_ble_eq_true rfl, Nat.le_of_ble_eq_true rfl⟩ ⟨by omega, by omega⟩ dL_law_1312 ?_
  refine A_istore C (pc := 1315) [(0, .ref b), (1, .ref (B + 0)), (2, .ref (B + 47)), (3, .ref (B + 110)), (4, .ref (B + 111)), (5, .int x5), (6, .int z1300.1), (7, .int z1312.1)] (by decide) [1, 2, 3, 4, 5, 6, 7, 0] rfl dL_law_1315 ?_
  refine A_aload_n C (pc := 1317) 2 rfl dL_law_1317 ?_
  obtain ⟨z1318, h1318, hf⟩ := bd_i hf
  refine A_callV1 C (pc := 1318) (A := []) (rest := []) k_L_198 ky_X7_thrown kv_X7_thrown (m_X7_thrown l B D Y _ h1318) (by decide) rfl rfl rfl rfl (Nat.le_of_ble_eq_true rfl) ⟨rfl, rfl, Nat.le_of_ble_eq_true rfl, Nat.le_of_ble_eq_true rfl⟩ ⟨by omega, by omega⟩ dL_law_1318 ?_
  refine A_iload C (pc := 1321) 6 rfl dL_law_1321 ?_
  refine A_icmp_eq C (pc := 1323) 1328 (by decide) dL_law_1323 hf (fun _ hf => ?_) (fun _ hf => ?_)
  · refine A_iload C (pc := 1328) 6 rfl dL_law_1328 ?_
    refine A_if_ne C (pc := 1330) 1345 (by decide) dL_law_1330 hf (fun _ hf => ?_) (fun _ hf => ?_)
    · refine A_goto C (pc := 1345) 4081 (by decide) dL_law_1345 ?_
      cases hf
      refine A_sub [0, 1, 2, 3, 4, 5] rfl ?_
      exact A_widen (by omega) (by omega) (K _)
    · refine A_aload_n C (pc := 1333) 3 rfl dL_law_1333 ?_
      refine A_iconst C (pc := 1334) ic_0 dL_law_1334 ?_
      obtain ⟨w1335, e1335, hf⟩ := bd_i hf
      refine A_laldO C (pc := 1335) e1335 dL_law_1335 ?_
      refine A_iload C (pc := 1336) 7 rfl dL_law_1336 ?_
      refine A_i2l C (pc := 1338) dL_law_1338 ?_
      refine A_lcmp C (pc := 1339) dL_law_1339 ?_
      refine A_if_eq C (pc := 1340) 1345 (by decide) dL_law_1340 hf (fun _ hf => ?_) (fun _ hf => ?_)
      · refine A_goto C (pc := 1345) 4081 (by decide) dL_law_1345 ?_
        cases hf
        refine A_sub [0, 1, 2, 3, 4, 5] rfl ?_
        exact A_widen (by omega) (by omega) (K _)
      · refine A_iconst C (pc := 1343) ic_0 dL_law_1343 ?_
        cases hf
  · refine A_iconst C (pc := 1326) ic_0 dL_law_1326 ?_
    cases hf
set_option maxRecDepth 100000 in
theorem w_law_15 (C : Cx p s m args c cL_law 9 RL B D Y) (hX : XI B s) (hl9 : l.stackTraces = false) (hXs : va_X b LN xs s s.heap) (hbl : b < s.heap.size) (hbA : ¬ B ≤ b) {M M2 : Mem} {x5 a1 a2 a3 : Int32} (h1 : vp_in (x5 + 1) LN) (h2 : vp_in (x5 + 2) LN) (h3 : vp_in (x5 + 3) LN) (e1 : xs (x5 + 1).toNatClampNeg = a1) (e2 : xs (x5 + 2).toNatClampNeg = a2) (e3 : xs (x5 + 3).toNatClampNeg = a3) (hkc : k + 4 ≤ room_1.cells) (hks : sl + 24 ≤ room_1.slots) (hf : f_law_15 M a1 a2 a3 = some (some M2)) (K : ∀ o2, At p l e room_1 s m args below meth c 9 (k + 4) (sl + 24) Q B D Y o2 4081 M2 [(0, .ref b), (1, .ref (B + 0)), (2, .ref (B + 47)), (3, .ref (B + 110)), (4, .ref (B + 111)), (5, .int x5)] []) : At p l e room_1 s m args below meth c 9 k sl Q B D Y o 1348 M [(0, .ref b), (1, .ref (B + 0)), (2, .ref (B + 47)), (3, .ref (B + 110)), (4, .ref (B + 111)), (5, .int x5)] [] := by
  dsimp only [f_law_15] at hf
  refine A_aload_n C (pc := 1348) 1 rfl dL_law_1348 ?_
  refine A_aload_n C (pc := 1349) 0 rfl dL_law_1349 ?_
  refine A_iload C (pc := 1350) 5 rfl dL_law_1350 ?_
  refine A_iconst C (pc := 1352) ic_1 dL_law_1352 ?_
  refine A_iadd C (pc := 1353) dL_law_1353 ?_
  refine A_sld C (pc := 1354) hXs hbl hbA h1 e1 dL_law_1354 ?_
  refine A_aload_n C (pc := 1355) 3 rfl dL_law_1355 ?_
  obtain ⟨z1356, h1356, hf⟩ := bd_i hf
  refine L_callS C (pc := 1356) hX (A := [.ref (B + 0), .int a1, .ref (B + 110)]) (rest := []) kl_L_246 kw_L_pairs (m_L_pairs l hl9 B D Y o h1356) rfl rfl (Nat.le_of_ble_eq_true rfl) ⟨rfl, rfl, Nat.le_of_ble_eq_true rfl, Nat.le_of_ble_eq_true rfl⟩ ⟨by omega, by omega⟩ dL_law_1356 ?_
  refine A_istore C (pc := 1359) [(0, .ref b), (1, .ref (B + 0)), (2, .ref (B + 47)), (3, .ref (B + 110)), (4, .ref (B + 111)), (5, .int x5), (6, .int z1356.1)] (by decide) [1, 2, 3, 4, 5, 6, 0] rfl dL_law_1359 ?_
  refine A_aload_n C (pc := 1361) 2 rfl dL_law_1361 ?_
  refine A_aload_n C (pc := 1362) 0 rfl dL_law_1362 ?_
  refine A_iload C (pc := 1363) 5 rfl dL_law_1363 ?_
  refine A_iconst C (pc := 1365) ic_1 dL_law_1365 ?_
  refine A_iadd C (pc := 1366) dL_law_1366 ?_
  refine A_sld C (pc := 1367) hXs hbl hbA h1 e1 dL_law_1367 ?_
  obtain ⟨z1368, h1368, hf⟩ := bd_i hf
  refine A_callV1 C (pc := 1368) (A := [.int a1]) (rest := []) k_L_248 ky_X7_pairs kv_X7_pairs (m_X7_pairs l B D Y _ h1368) (by decide) rfl rfl rfl rfl (Nat.le_of_ble_eq_true rfl) ⟨rfl, rfl, Nat.le_of_ble_eq_true rfl, Nat.le_of_ble_eq_true rfl⟩ ⟨by omega, by omega⟩ dL_law_1368 ?_
  refine A_istore C (pc := 1371) [(0, .ref b), (1, .ref (B + 0)), (2, .ref (B + 47)), (3, .ref (B + 110)), (4, .ref (B + 111)), (5, .int x5), (6, .int z1356.1), (7, .int z1368.1)] (by decide) [1, 2, 3, 4, 5, 6, 7, 0] rfl dL_law_1371 ?_
  refine A_aload_n C (pc := 1373) 2 rfl dL_law_1373 ?_
  obtain ⟨z1374, h1374, hf⟩ := bd_i hf
  refine A_callV1 C (pc := 1374) (A := []) (rest := []) k_L_198 ky_X7_thrown kv_X7_thrown (m_X7_thrown l B D Y _ h1374) (by decide) rfl rfl rfl rfl (Nat.le_of_ble_eq_true rfl) ⟨rfl, rfl, Nat.le_of_ble_eq_true rfl, Nat.le_of_ble_eq_true rfl⟩ ⟨by omega, by omega⟩ dL_law_1374 ?_
  refine A_iload C (pc := 1377) 6 rfl dL_law_1377 ?_
  refine A_icmp_eq C (pc := 1379) 1384 (by decide) dL_law_1379 hf (fun _ hf => ?_) (fun _ hf => ?_)
  · refine A_iload C (pc := 1384) 6 rfl dL_law_1384 ?_
    refine A_if_ne C (pc := 1386) 1401 (by decide) dL_law_1386 hf (fun _ hf => ?_) (fun _ hf => ?_)
    · refine A_goto C (pc := 1401) 4081 (by decide) dL_law_1401 ?_
      cases hf
      refine A_sub [0, 1, 2, 3, 4, 5] rfl ?_
      exact A_widen (by omega) (by omega) (K _)
    · refine A_aload_n C (pc := 1389) 3 rfl dL_law_1389 ?_
      refine A_iconst C (pc := 1390) ic_0 dL_law_1390 ?_
      obtain ⟨w1391, e1391, hf⟩ := bd_i hf
      refine A_laldO C (pc := 1391) e1391 dL_law_1391 ?_
      refine A_iload C (pc := 1392) 7 rfl dL_law_1392 ?_
      refine A_i2l C (pc := 1394) dL_law_1394 ?_
      refine A_lcmp C (pc := 1395) dL_law_1395 ?_
      refine A_if_eq C (pc := 1396) 1401 (by decide) dL_law_1396 hf (fun _ hf => ?_) (fun _ hf => ?_)
      · refine A_goto C (pc := 1401) 4081 (by decide) dL_law_1401 ?_
        cases hf
        refine A_sub [0, 1, 2, 3, 4, 5] rfl ?_
        exact A_widen (by omega) (by omega) (K _)
      · refine A_iconst C (pc := 1399) ic_0 dL_law_1399 ?_
        cases hf
  · refine A_iconst C (pc := 1382) ic_0 dL_law_1382 ?_
    cases hf
set_option maxRecDepth 100000 in
theorem w_law_16 (C : Cx p s m args c cL_law 9 RL B D Y) (hX : XI B s) (hl9 : l.stackTraces = false) (hXs : va_X b LN xs s s.heap) (hbl : b < s.heap.size) (hbA : ¬ B ≤ b) {M M2 : Mem} {x5 a1 a2 a3 : Int32} (h1 : vp_in (x5 + 1) LN) (h2 : vp_in (x5 + 2) LN) (h3 : vp_in (x5 + 3) LN) (e1 : xs (x5 + 1).toNatClampNeg = a1) (e2 : xs (x5 + 2).toNatClampNeg = a2) (e3 : xs (x5 + 3).toNatClampNeg = a3) (hkc : k + 4 ≤ room_1.cells) (hks : sl + 24 ≤ room_1.slots) (hf : f_law_16 M a1 a2 a3 = some (some M2)) (K : ∀ o2, At p l e room_1 s m args below meth c 9 (k + 4) (sl + 24) Q B D Y o2 4081 M2 [(0, .ref b), (1, .ref (B + 0)), (2, .ref (B + 47)), (3, .ref (B + 110)), (4, .ref (B + 111)), (5, .int x5)] []) : At p l e room_1 s m args below meth c 9 k sl Q B D Y o 1404 M [(0, .ref b), (1, .ref (B + 0)), (2, .ref (B + 47)), (3, .ref (B + 110)), (4, .ref (B + 111)), (5, .int x5)] [] := by
  dsimp only [f_law_16] at hf
  refine A_aload_n C (pc := 1404) 1 rfl dL_law_1404 ?_
  refine A_aload_n C (pc := 1405) 0 rfl dL_law_1405 ?_
  refine A_iload C (pc := 1406) 5 rfl dL_law_1406 ?_
  refine A_iconst C (pc := 1408) ic_1 dL_law_1408 ?_
  refine A_iadd C (pc := 1409) dL_law_1409 ?_
  refine A_sld C (pc := 1410) hXs hbl hbA h1 e1 dL_law_1410 ?_
  refine A_aload_n C (pc := 1411) 3 rfl dL_law_1411 ?_
  obtain ⟨z1412, h1412, hf⟩ := bd_i hf
  refine L_callS C (pc := 1412) hX (A := [.ref (B + 0), .int a1, .ref (B + 110)]) (rest := []) kl_L_249 kw_L_nexts (m_L_nexts l hl9 B D Y o h1412) rfl rfl (Nat.le_of_ble_eq_true rfl) ⟨rfl, rfl, Nat.le_of_ble_eq_true rfl, Nat.le_of_ble_eq_true rfl⟩ ⟨by omega, by omega⟩ dL_law_1412 ?_
  refine A_istore C (pc := 1415) [(0, .ref b), (1, .ref (B + 0)), (2, .ref (B + 47)), (3, .ref (B + 110)), (4, .ref (B + 111)), (5, .int x5), (6, .int z1412.1)] (by decide) [1, 2, 3, 4, 5, 6, 0] rfl dL_law_1415 ?_
  refine A_aload_n C (pc := 1417) 2 rfl dL_law_1417 ?_
  refine A_aload_n C (pc := 1418) 0 rfl dL_law_1418 ?_
  refine A_iload C (pc := 1419) 5 rfl dL_law_1419 ?_
  refine A_iconst C (pc := 1421) ic_1 dL_law_1421 ?_
  refine A_iadd C (pc := 1422) dL_law_1422 ?_
  refine A_sld C (pc := 1423) hXs hbl hbA h1 e1 dL_law_1423 ?_
  obtain ⟨z1424, h1424, hf⟩ := bd_i hf
  refine A_callV1 C (pc := 1424) (A := [.int a1]) (rest := []) k_L_251 ky_X7_nexts kv_X7_nexts (m_X7_nexts l B D Y _ h1424) (by decide) rfl rfl rfl rfl (Nat.le_of_ble_eq_true rfl) ⟨rfl, rfl, Nat.le_of_ble_eq_true rfl, Nat.le_of_ble_eq_true rfl⟩ ⟨by omega, by omega⟩ dL_law_1424 ?_
  refine A_istore C (pc := 1427) [(0, .ref b), (1, .ref (B + 0)), (2, .ref (B + 47)), (3, .ref (B + 110)), (4, .ref (B + 111)), (5, .int x5), (6, .int z1412.1), (7, .int z1424.1)] (by decide) [1, 2, 3, 4, 5, 6, 7, 0] rfl dL_law_1427 ?_
  refine A_aload_n C (pc := 1429) 2 rfl dL_law_1429 ?_
  obtain ⟨z1430, h1430, hf⟩ := bd_i hf
  refine A_callV1 C (pc := 1430) (A := []) (rest := []) k_L_198 ky_X7_thrown kv_X7_thrown (m_X7_thrown l B D Y _ h1430) (by decide) rfl rfl rfl rfl (Nat.le_of_ble_eq_true rfl) ⟨rfl, rfl, Nat.le_of_ble_eq_true rfl, Nat.le_of_ble_eq_true rfl⟩ ⟨by omega, by omega⟩ dL_law_1430 ?_
  refine A_iload C (pc := 1433) 6 rfl dL_law_1433 ?_
  refine A_icmp_eq C (pc := 1435) 1440 (by decide) dL_law_1435 hf (fun _ hf => ?_) (fun _ hf => ?_)
  · refine A_iload C (pc := 1440) 6 rfl dL_law_1440 ?_
    refine A_if_ne C (pc := 1442) 1457 (by decide) dL_law_1442 hf (fun _ hf => ?_) (fun _ hf => ?_)
    · refine A_goto C (pc := 1457) 4081 (by decide) dL_law_1457 ?_
      cases hf
      refine A_sub [0, 1, 2, 3, 4, 5] rfl ?_
      exact A_widen (by omega) (by omega) (K _)
    · refine A_aload_n C (pc := 1445) 3 rfl dL_law_1445 ?_
      refine A_iconst C (pc := 1446) ic_0 dL_law_1446 ?_
      obtain ⟨w1447, e1447, hf⟩ := bd_i hf
      refine A_laldO C (pc := 1447) e1447 dL_law_1447 ?_
      refine A_iload C (pc := 1448) 7 rfl dL_law_1448 ?_
      refine A_i2l C (pc := 1450) dL_law_1450 ?_
      refine A_lcmp C (pc := 1451) dL_law_1451 ?_
      refine A_if_eq C (pc := 1452) 1457 (by decide) dL_law_1452 hf (fun _ hf => ?_) (fun _ hf => ?_)
      · refine A_goto C (pc := 1457) 4081 (by decide) dL_law_1457 ?_
        cases hf
        refine A_sub [0, 1, 2, 3, 4, 5] rfl ?_
        exact A_widen (by omega) (by omega) (K _)
      · refine A_iconst C (pc := 1455) ic_0 dL_law_1455 ?_
        cases hf
  · refine A_iconst C (pc := 1438) ic_0 dL_law_1438 ?_
    cases hf
set_option maxRecDepth 100000 in
theorem w_law_17 (C : Cx p s m args c cL_law 9 RL B D Y) (hX : XI B s) (hl9 : l.stackTraces = false) (hXs : va_X b LN xs s s.heap) (hbl : b < s.heap.size) (hbA : ¬ B ≤ b) {M M2 : Mem} {x5 a1 a2 a3 : Int32} (h1 : vp_in (x5 + 1) LN) (h2 : vp_in (x5 + 2) LN) (h3 : vp_in (x5 + 3) LN) (e1 : xs (x5 + 1).toNatClampNeg = a1) (e2 : xs (x5 + 2).toNatClampNeg = a2) (e3 : xs (x5 + 3).toNatClampNeg = a3) (hkc : k + 4 ≤ room_1.cells) (hks : sl + 24 ≤ room_1.slots) (hf : f_law_17 M a1 a2 a3 = some (some M2)) (K : ∀ o2, At p l e room_1 s m args below meth c 9 (k + 4) (sl + 24) Q B D Y o2 4081 M2 [(0, .ref b), (1, .ref (B + 0)), (2, .ref (B + 47)), (3, .ref (B + 110)), (4, .ref (B + 111)), (5, .int x5)] []) : At p l e room_1 s m args below meth c 9 k sl Q B D Y o 1460 M [(0, .ref b), (1, .ref (B + 0)), (2, .ref (B + 47)), (3, .ref (B + 110)), (4, .ref (B + 111)), (5, .int x5)] [] := by
  dsimp only [f_law_17] at hf
  refine A_aload_n C (pc := 1460) 1 rfl dL_law_1460 ?_
  refine A_aload_n C (pc := 1461) 0 rfl dL_law_1461 ?_
  refine A_iload C (pc := 1462) 5 rfl dL_law_1462 ?_
  refine A_iconst C (pc := 1464) ic_1 dL_law_1464 ?_
  refine A_iadd C (pc := 1465) dL_law_1465 ?_
  refine A_sld C (pc := 1466) hXs hbl hbA h1 e1 dL_law_1466 ?_
  refine A_aload_n C (pc := 1467) 0 rfl dL_law_1467 ?_
  refine A_iload C (pc := 1468) 5 rfl dL_law_1468 ?_
  refine A_iconst C (pc := 1470) ic_2 dL_law_1470 ?_
  refine A_iadd C (pc := 1471) dL_law_1471 ?_
  refine A_sld C (pc := 1472) hXs hbl hbA h2 e2 dL_law_1472 ?_
  refine A_aload_n C (pc := 1473) 0 rfl dL_law_1473 ?_
  refine A_iload C (pc := 1474) 5 rfl dL_law_1474 ?_
  refine A_iconst C (pc := 1476) ic_3 dL_law_1476 ?_
  refine A_iadd C (pc := 1477) dL_law_1477 ?_
  refine A_sld C (pc := 1478) hXs hbl hbA h3 e3 dL_law_1478 ?_
  refine A_aload_n C (pc := 1479) 3 rfl dL_law_1479 ?_
  obtain ⟨z1480, h1480, hf⟩ := bd_i hf
  refine L_callS C (pc := 1480) hX (A := [.ref (B + 0), .int a1, .int a2, .int a3, .ref (B + 110)]) (rest := []) kl_L_252 kw_L_sign (m_L_sign l hl9 B D Y o h1480) rfl rfl (Nat.le_of_ble_eq_true rfl) ⟨rfl, rfl, Nat.le_of_ble_eq_true rfl, Nat.le_of_ble_eq_true rfl⟩ ⟨by omega, by omega⟩ dL_law_1480 ?_
  refine A_istore C (pc := 1483) [(0, .ref b), (1, .ref (B + 0)), (2, .ref (B + 47)), (3, .ref (B + 110)), (4, .ref (B + 111)), (5, .int x5), (6, .int z1480.1)] (by decide) [1, 2, 3, 4, 5, 6, 0] rfl dL_law_1483 ?_
  refine A_aload_n C (pc := 1485) 2 rfl dL_law_1485 ?_
  refine A_aload_n C (pc := 1486) 0 rfl dL_law_1486 ?_
  refine A_iload C (pc := 1487) 5 rfl dL_law_1487 ?_
  refine A_iconst C (pc := 1489) ic_1 dL_law_1489 ?_
  refine A_iadd C (pc := 1490) dL_law_1490 ?_
  refine A_sld C (pc := 1491) hXs hbl hbA h1 e1 dL_law_1491 ?_
  refine A_aload_n C (pc := 1492) 0 rfl dL_law_1492 ?_
  refine A_iload C (pc := 1493) 5 rfl dL_law_1493 ?_
  refine A_iconst C (pc := 1495) ic_2 dL_law_1495 ?_
  refine A_iadd C (pc := 1496) dL_law_1496 ?_
  refine A_sld C (pc := 1497) hXs hbl hbA h2 e2 dL_law_1497 ?_
  refine A_aload_n C (pc := 1498) 0 rfl dL_law_1498 ?_
  refine A_iload C (pc := 1499) 5 rfl dL_law_1499 ?_
  refine A_iconst C (pc := 1501) ic_3 dL_law_1501 ?_
  refine A_iadd C (pc := 1502) dL_law_1502 ?_
  refine A_sld C (pc := 1503) hXs hbl hbA h3 e3 dL_law_1503 ?_
  obtain ⟨z1504, h1504, hf⟩ := bd_i hf
  refine A_callV1 C (pc := 1504) (A := [.int a1, .int a2, .int a3]) (rest := []) k_L_254 ky_X7_sign kv_X7_sign (m_X7_sign l B D Y _ h1504) (by decide) rfl rfl rfl rfl (Nat.le_of_ble_eq_true rfl) ⟨rfl, rfl, Nat.le_of_ble_eq_true rfl, Nat.le_of_ble_eq_true rfl⟩ ⟨by omega, by omega⟩ dL_law_1504 ?_
  refine A_istore C (pc := 1507) [(0, .ref b), (1, .ref (B + 0)), (2, .ref (B + 47)), (3, .ref (B + 110)), (4, .ref (B + 111)), (5, .int x5), (6, .int z1480.1), (7, .int z1504.1)] (by decide) [1, 2, 3, 4, 5, 6, 7, 0] rfl dL_law_1507 ?_
  refine A_aload_n C (pc := 1509) 2 rfl dL_law_1509 ?_
  obtain ⟨z1510, h1510, hf⟩ := bd_i hf
  refine A_callV1 C (pc := 1510) (A := []) (rest := []) k_L_198 ky_X7_thrown kv_X7_thrown (m_X7_thrown l B D Y _ h1510) (by decide) rfl rfl rfl rfl (Nat.le_of_ble_eq_true rfl) ⟨rfl, rfl, Nat.le_of_ble_eq_true rfl, Nat.le_of_ble_eq_true rfl⟩ ⟨by omega, by omega⟩ dL_law_1510 ?_
  refine A_iload C (pc := 1513) 6 rfl dL_law_1513 ?_
  refine A_icmp_eq C (pc := 1515) 1520 (by decide) dL_law_1515 hf (fun _ hf => ?_) (fun _ hf => ?_)
  · refine A_iload C (pc := 1520) 6 rfl dL_law_1520 ?_
    refine A_if_ne C (pc := 1522) 1537 (by decide) dL_law_1522 hf (fun _ hf => ?_) (fun _ hf => ?_)
    · refine A_goto C (pc := 1537) 4081 (by decide) dL_law_1537 ?_
      cases hf
      refine A_sub [0, 1, 2, 3, 4, 5] rfl ?_
      exact A_widen (by omega) (by omega) (K _)
    · refine A_aload_n C (pc := 1525) 3 rfl dL_law_1525 ?_
      refine A_iconst C (pc := 1526) ic_0 dL_law_1526 ?_
      obtain ⟨w1527, e1527, hf⟩ := bd_i hf
      refine A_laldO C (pc := 1527) e1527 dL_law_1527 ?_
      refine A_iload C (pc := 1528) 7 rfl dL_law_1528 ?_
      refine A_i2l C (pc := 1530) dL_law_1530 ?_
      refine A_lcmp C (pc := 1531) dL_law_1531 ?_
      refine A_if_eq C (pc := 1532) 1537 (by decide) dL_law_1532 hf (fun _ hf => ?_) (fun _ hf => ?_)
      · refine A_goto C (pc := 1537) 4081 (by decide) dL_law_1537 ?_
        cases hf
        refine A_sub [0, 1, 2, 3, 4, 5] rfl ?_
        exact A_widen (by omega) (by omega) (K _)
      · refine A_iconst C (pc := 1535) ic_0 dL_law_1535 ?_
        cases hf
  · refine A_iconst C (pc := 1518) ic_0 dL_law_1518 ?_
    cases hf
set_option maxRecDepth 100000 in
theorem w_law_18 (C : Cx p s m args c cL_law 9 RL B D Y) (hX : XI B s) (hl9 : l.stackTraces = false) (hXs : va_X b LN xs s s.heap) (hbl : b < s.heap.size) (hbA : ¬ B ≤ b) {M M2 : Mem} {x5 a1 a2 a3 : Int32} (h1 : vp_in (x5 + 1) LN) (h2 : vp_in (x5 + 2) LN) (h3 : vp_in (x5 + 3) LN) (e1 : xs (x5 + 1).toNatClampNeg = a1) (e2 : xs (x5 + 2).toNatClampNeg = a2) (e3 : xs (x5 + 3).toNatClampNeg = a3) (hkc : k + 4 ≤ room_1.cells) (hks : sl + 24 ≤ room_1.slots) (hf : f_law_18 M a1 a2 a3 = some (some M2)) (K : ∀ o2, At p l e room_1 s m args below meth c 9 (k + 4) (sl + 24) Q B D Y o2 4081 M2 [(0, .ref b), (1, .ref (B + 0)), (2, .ref (B + 47)), (3, .ref (B + 110)), (4, .ref (B + 111)), (5, .int x5)] []) : At p l e room_1 s m args below meth c 9 k sl Q B D Y o 1540 M [(0, .ref b), (1, .ref (B + 0)), (2, .ref (B + 47)), (3, .ref (B + 110)), (4, .ref (B + 111)), (5, .int x5)] [] := by
  dsimp only [f_law_18] at hf
  refine A_aload_n C (pc := 1540) 1 rfl dL_law_1540 ?_
  refine A_aload_n C (pc := 1541) 0 rfl dL_law_1541 ?_
  refine A_iload C (pc := 1542) 5 rfl dL_law_1542 ?_
  refine A_iconst C (pc := 1544) ic_1 dL_law_1544 ?_
  refine A_iadd C (pc := 1545) dL_law_1545 ?_
  refine A_sld C (pc := 1546) hXs hbl hbA h1 e1 dL_law_1546 ?_
  refine A_aload_n C (pc := 1547) 0 rfl dL_law_1547 ?_
  refine A_iload C (pc := 1548) 5 rfl dL_law_1548 ?_
  refine A_iconst C (pc := 1550) ic_2 dL_law_1550 ?_
  refine A_iadd C (pc := 1551) dL_law_1551 ?_
  refine A_sld C (pc := 1552) hXs hbl hbA h2 e2 dL_law_1552 ?_
  refine A_aload_n C (pc := 1553) 0 rfl dL_law_1553 ?_
  refine A_iload C (pc := 1554) 5 rfl dL_law_1554 ?_
  refine A_iconst C (pc := 1556) ic_3 dL_law_1556 ?_
  refine A_iadd C (pc := 1557) dL_law_1557 ?_
  refine A_sld C (pc := 1558) hXs hbl hbA h3 e3 dL_law_1558 ?_
  refine A_aload_n C (pc := 1559) 3 rfl dL_law_1559 ?_
  obtain ⟨z1560, h1560, hf⟩ := bd_i hf
  refine L_callS C (pc := 1560) hX (A := [.ref (B + 0), .int a1, .int a2, .int a3, .ref (B + 110)]) (rest := []) kl_L_255 kw_L_isNext (m_L_isNext l hl9 B D Y o h1560) rfl rfl (Nat.le_of_ble_eq_true rfl) ⟨rfl, rfl, Nat.le_of_ble_eq_true rfl, Nat.le_of_ble_eq_true rfl⟩ ⟨by omega, by omega⟩ dL_law_1560 ?_
  refine A_istore C (pc := 1563) [(0, .ref b), (1, .ref (B + 0)), (2, .ref (B + 47)), (3, .ref (B + 110)), (4, .ref (B + 111)), (5, .int x5), (6, .int z1560.1)] (by decide) [1, 2, 3, 4, 5, 6, 0] rfl dL_law_1563 ?_
  refine A_aload_n C (pc := 1565) 2 rfl dL_law_1565 ?_
  refine A_aload_n C (pc := 1566) 0 rfl dL_law_1566 ?_
  refine A_iload C (pc := 1567) 5 rfl dL_law_1567 ?_
  refine A_iconst C (pc := 1569) ic_1 dL_law_1569 ?_
  refine A_iadd C (pc := 1570) dL_law_1570 ?_
  refine A_sld C (pc := 1571) hXs hbl hbA h1 e1 dL_law_1571 ?_
  refine A_aload_n C (pc := 1572) 0 rfl dL_law_1572 ?_
  refine A_iload C (pc := 1573) 5 rfl dL_law_1573 ?_
  refine A_iconst C (pc := 1575) ic_2 dL_law_1575 ?_
  refine A_iadd C (pc := 1576) dL_law_1576 ?_
  refine A_sld C (pc := 1577) hXs hbl hbA h2 e2 dL_law_1577 ?_
  refine A_aload_n C (pc := 1578) 0 rfl dL_law_1578 ?_
  refine A_iload C (pc := 1579) 5 rfl dL_law_1579 ?_
  refine A_iconst C (pc := 1581) ic_3 dL_law_1581 ?_
  refine A_iadd C (pc := 1582) dL_law_1582 ?_
  refine A_sld C (pc := 1583) hXs hbl hbA h3 e3 dL_law_1583 ?_
  obtain ⟨z1584, h1584, hf⟩ := bd_i hf
  refine A_callV1 C (pc := 1584) (A := [.int a1, .int a2, .int a3]) (rest := []) k_L_257 ky_X7_isNext kv_X7_isNext (m_X7_isNext l B D Y _ h1584) (by decide) rfl rfl rfl rfl (Nat.le_of_ble_eq_true rfl) ⟨rfl, rfl, Nat.le_of_ble_eq_true rfl, Nat.le_of_ble_eq_true rfl⟩ ⟨by omega, by omega⟩ dL_law_1584 ?_
  refine A_istore C (pc := 1587) [(0, .ref b), (1, .ref (B + 0)), (2, .ref (B + 47)), (3, .ref (B + 110)), (4, .ref (B + 111)), (5, .int x5), (6, .int z1560.1), (7, .int z1584.1)] (by decide) [1, 2, 3, 4, 5, 6, 7, 0] rfl dL_law_1587 ?_
  refine A_aload_n C (pc := 1589) 2 rfl dL_law_1589 ?_
  obtain ⟨z1590, h1590, hf⟩ := bd_i hf
  refine A_callV1 C (pc := 1590) (A := []) (rest := []) k_L_198 ky_X7_thrown kv_X7_thrown (m_X7_thrown l B D Y _ h1590) (by decide) rfl rfl rfl rfl (Nat.le_of_ble_eq_true rfl) ⟨rfl, rfl, Nat.le_of_ble_eq_true rfl, Nat.le_of_ble_eq_true rfl⟩ ⟨by omega, by omega⟩ dL_law_1590 ?_
  refine A_iload C (pc := 1593) 6 rfl dL_law_1593 ?_
  refine A_icmp_eq C (pc := 1595) 1600 (by decide) dL_law_1595 hf (fun _ hf => ?_) (fun _ hf => ?_)
  · refine A_iload C (pc := 1600) 6 rfl dL_law_1600 ?_
    refine A_if_ne C (pc := 1602) 1624 (by decide) dL_law_1602 hf (fun _ hf => ?_) (fun _ hf => ?_)
    · refine A_goto C (pc := 1624) 4081 (by decide) dL_law_1624 ?_
      cases hf
      refine A_sub [0, 1, 2, 3, 4, 5] rfl ?_
      exact A_widen (by omega) (by omega) (K _)
    · refine A_aload_n C (pc := 1605) 3 rfl dL_law_1605 ?_
      refine A_iconst C (pc := 1606) ic_0 dL_law_1606 ?_
      obtain ⟨w1607, e1607, hf⟩ := bd_i hf
      refine A_laldO C (pc := 1607) e1607 dL_law_1607 ?_
      refine A_iload C (pc := 1608) 7 rfl dL_law_1608 ?_
      refine A_if_eq C (pc := 1610) 1617 (by decide) dL_law_1610 hf (fun _ hf => ?_) (fun _ hf => ?_)
      · refine A_lconst C (pc := 1617) (v := 0) (by decide) dL_law_1617 ?_
        refine A_lcmp C (pc := 1618) dL_law_1618 ?_
        refine A_if_eq C (pc := 1619) 1624 (by decide) dL_law_1619 hf (fun _ hf => ?_) (fun _ hf => ?_)
        · refine A_goto C (pc := 1624) 4081 (by decide) dL_law_1624 ?_
          cases hf
          refine A_sub [0, 1, 2, 3, 4, 5] rfl ?_
          exact A_widen (by omega) (by omega) (K _)
        · refine A_iconst C (pc := 1622) ic_0 dL_law_1622 ?_
          cases hf
      · refine A_lconst C (pc := 1613) (v := 1) (by decide) dL_law_1613 ?_
        refine A_goto C (pc := 1614) 1618 (by decide) dL_law_1614 ?_
        refine A_lcmp C (pc := 1618) dL_law_1618 ?_
        refine A_if_eq C (pc := 1619) 1624 (by decide) dL_law_1619 hf (fun _ hf => ?_) (fun _ hf => ?_)
        · refine A_goto C (pc := 1624) 4081 (by decide) dL_law_1624 ?_
          cases hf
          refine A_sub [0, 1, 2, 3, 4, 5] rfl ?_
          exact A_widen (by omega) (by omega) (K _)
        · refine A_iconst C (pc := 1622) ic_0 dL_law_1622 ?_
          cases hf
  · refine A_iconst C (pc := 1598) ic_0 dL_law_1598 ?_
    cases hf
set_option maxRecDepth 100000 in
theorem w_law_19 (C : Cx p s m args c cL_law 9 RL B D Y) (hX : XI B s) (hl9 : l.stackTraces = false) (hXs : va_X b LN xs s s.heap) (hbl : b < s.heap.size) (hbA : ¬ B ≤ b) {M M2 : Mem} {x5 a1 a2 a3 : Int32} (h1 : vp_in (x5 + 1) LN) (h2 : vp_in (x5 + 2) LN) (h3 : vp_in (x5 + 3) LN) (e1 : xs (x5 + 1).toNatClampNeg = a1) (e2 : xs (x5 + 2).toNatClampNeg = a2) (e3 : xs (x5 + 3).toNatClampNeg = a3) (hkc : k + 4 ≤ room_1.cells) (hks : sl + 24 ≤ room_1.slots) (hf : f_law_19 M a1 a2 a3 = some (some M2)) (K : ∀ o2, At p l e room_1 s m args below meth c 9 (k + 4) (sl + 24) Q B D Y o2 4081 M2 [(0, .ref b), (1, .ref (B + 0)), (2, .ref (B + 47)), (3, .ref (B + 110)), (4, .ref (B + 111)), (5, .int x5)] []) : At p l e room_1 s m args below meth c 9 k sl Q B D Y o 1627 M [(0, .ref b), (1, .ref (B + 0)), (2, .ref (B + 47)), (3, .ref (B + 110)), (4, .ref (B + 111)), (5, .int x5)] [] := by
  dsimp only [f_law_19] at hf
  refine A_aload_n C (pc := 1627) 1 rfl dL_law_1627 ?_
  refine A_aload_n C (pc := 1628) 0 rfl dL_law_1628 ?_
  refine A_iload C (pc := 1629) 5 rfl dL_law_1629 ?_
  refine A_iconst C (pc := 1631) ic_1 dL_law_1631 ?_
  refine A_iadd C (pc := 1632) dL_law_1632 ?_
  refine A_sld C (pc := 1633) hXs hbl hbA h1 e1 dL_law_1633 ?_
  refine A_aload_n C (pc := 1634) 0 rfl dL_law_1634 ?_
  refine A_iload C (pc := 1635) 5 rfl dL_law_1635 ?_
  refine A_iconst C (pc := 1637) ic_2 dL_law_1637 ?_
  refine A_iadd C (pc := 1638) dL_law_1638 ?_
  refine A_sld C (pc := 1639) hXs hbl hbA h2 e2 dL_law_1639 ?_
  refine A_aload_n C (pc := 1640) 3 rfl dL_law_1640 ?_
  obtain ⟨z1641, h1641, hf⟩ := bd_i hf
  refine L_callS C (pc := 1641) hX (A := [.ref (B + 0), .int a1, .int a2, .ref (B + 110)]) (rest := []) kl_L_258 kw_L_lower (m_L_lower l hl9 B D Y o h1641) rfl rfl (Nat.le_of_ble_eq_true rfl) ⟨rfl, rfl, Nat.le_of_ble_eq_true rfl, Nat.le_of_ble_eq_true rfl⟩ ⟨by omega, by omega⟩ dL_law_1641 ?_
  refine A_istore C (pc := 1644) [(0, .ref b), (1, .ref (B + 0)), (2, .ref (B + 47)), (3, .ref (B + 110)), (4, .ref (B + 111)), (5, .int x5), (6, .int z1641.1)] (by decide) [1, 2, 3, 4, 5, 6, 0] rfl dL_law_1644 ?_
  refine A_aload_n C (pc := 1646) 2 rfl dL_law_1646 ?_
  refine A_aload_n C (pc := 1647) 0 rfl dL_law_1647 ?_
  refine A_iload C (pc := 1648) 5 rfl dL_law_1648 ?_
  refine A_iconst C (pc := 1650) ic_1 dL_law_1650 ?_
  refine A_iadd C (pc := 1651) dL_law_1651 ?_
  refine A_sld C (pc := 1652) hXs hbl hbA h1 e1 dL_law_1652 ?_
  refine A_aload_n C (pc := 1653) 0 rfl dL_law_1653 ?_
  refine A_iload C (pc := 1654) 5 rfl dL_law_1654 ?_
  refine A_iconst C (pc := 1656) ic_2 dL_law_1656 ?_
  refine A_iadd C (pc := 1657) dL_law_1657 ?_
  refine A_sld C (pc := 1658) hXs hbl hbA h2 e2 dL_law_1658 ?_
  obtain ⟨z1659, h1659, hf⟩ := bd_i hf
  refine A_callV1 C (pc := 1659) (A := [.int a1, .int a2]) (rest := []) k_L_260 ky_X7_lower kv_X7_lower (m_X7_lower l B D Y _ h1659) (by decide) rfl rfl rfl rfl (Nat.le_of_ble_eq_true rfl) ⟨rfl, rfl, Nat.le_of_ble_eq_true rfl, Nat.le_of_ble_eq_true rfl⟩ ⟨by omega, by omega⟩ dL_law_1659 ?_
  refine A_istore C (pc := 1662) [(0, .ref b), (1, .ref (B + 0)), (2, .ref (B + 47)), (3, .ref (B + 110)), (4, .ref (B + 111)), (5, .int x5), (6, .int z1641.1), (7, .int z1659.1)] (by decide) [1, 2, 3, 4, 5, 6, 7, 0] rfl dL_law_1662 ?_
  refine A_aload_n C (pc := 1664) 2 rfl dL_law_1664 ?_
  obtain ⟨z1665, h1665, hf⟩ := bd_i hf
  refine A_callV1 C (pc := 1665) (A := []) (rest := []) k_L_198 ky_X7_thrown kv_X7_thrown (m_X7_thrown l B D Y _ h1665) (by decide) rfl rfl rfl rfl (Nat.le_of_ble_eq_true rfl) ⟨rfl, rfl, Nat.le_of_ble_eq_true rfl, Nat.le_of_ble_eq_true rfl⟩ ⟨by omega, by omega⟩ dL_law_1665 ?_
  refine A_iload C (pc := 1668) 6 rfl dL_law_1668 ?_
  refine A_icmp_eq C (pc := 1670) 1675 (by decide) dL_law_1670 hf (fun _ hf => ?_) (fun _ hf => ?_)
  · refine A_iload C (pc := 1675) 6 rfl dL_law_1675 ?_
    refine A_if_ne C (pc := 1677) 1692 (by decide) dL_law_1677 hf (fun _ hf => ?_) (fun _ hf => ?_)
    · refine A_goto C (pc := 1692) 4081 (by decide) dL_law_1692 ?_
      cases hf
      refine A_sub [0, 1, 2, 3, 4, 5] rfl ?_
      exact A_widen (by omega) (by omega) (K _)
    · refine A_aload_n C (pc := 1680) 3 rfl dL_law_1680 ?_
      refine A_iconst C (pc := 1681) ic_0 dL_law_1681 ?_
      obtain ⟨w1682, e1682, hf⟩ := bd_i hf
      refine A_laldO C (pc := 1682) e1682 dL_law_1682 ?_
      refine A_iload C (pc := 1683) 7 rfl dL_law_1683 ?_
      refine A_i2l C (pc := 1685) dL_law_1685 ?_
      refine A_lcmp C (pc := 1686) dL_law_1686 ?_
      refine A_if_eq C (pc := 1687) 1692 (by decide) dL_law_1687 hf (fun _ hf => ?_) (fun _ hf => ?_)
      · refine A_goto C (pc := 1692) 4081 (by decide) dL_law_1692 ?_
        cases hf
        refine A_sub [0, 1, 2, 3, 4, 5] rfl ?_
        exact A_widen (by omega) (by omega) (K _)
      · refine A_iconst C (pc := 1690) ic_0 dL_law_1690 ?_
        cases hf
  · refine A_iconst C (pc := 1673) ic_0 dL_law_1673 ?_
    cases hf
set_option maxRecDepth 100000 in
theorem w_law_20 (C : Cx p s m args c cL_law 9 RL B D Y) (hX : XI B s) (hl9 : l.stackTraces = false) (hXs : va_X b LN xs s s.heap) (hbl : b < s.heap.size) (hbA : ¬ B ≤ b) {M M2 : Mem} {x5 a1 a2 a3 : Int32} (h1 : vp_in (x5 + 1) LN) (h2 : vp_in (x5 + 2) LN) (h3 : vp_in (x5 + 3) LN) (e1 : xs (x5 + 1).toNatClampNeg = a1) (e2 : xs (x5 + 2).toNatClampNeg = a2) (e3 : xs (x5 + 3).toNatClampNeg = a3) (hkc : k + 4 ≤ room_1.cells) (hks : sl + 24 ≤ room_1.slots) (hf : f_law_20 M a1 a2 a3 = some (some M2)) (K : ∀ o2, At p l e room_1 s m args below meth c 9 (k + 4) (sl + 24) Q B D Y o2 4081 M2 [(0, .ref b), (1, .ref (B + 0)), (2, .ref (B + 47)), (3, .ref (B + 110)), (4, .ref (B + 111)), (5, .int x5)] []) : At p l e room_1 s m args below meth c 9 k sl Q B D Y o 1695 M [(0, .ref b), (1, .ref (B + 0)), (2, .ref (B + 47)), (3, .ref (B + 110)), (4, .ref (B + 111)), (5, .int x5)] [] := by
  dsimp only [f_law_20] at hf
  refine A_aload_n C (pc := 1695) 1 rfl dL_law_1695 ?_
  refine A_aload_n C (pc := 1696) 0 rfl dL_law_1696 ?_
  refine A_iload C (pc := 1697) 5 rfl dL_law_1697 ?_
  refine A_iconst C (pc := 1699) ic_1 dL_law_1699 ?_
  refine A_iadd C (pc := 1700) dL_law_1700 ?_
  refine A_sld C (pc := 1701) hXs hbl hbA h1 e1 dL_law_1701 ?_
  refine A_aload_n C (pc := 1702) 0 rfl dL_law_1702 ?_
  refine A_iload C (pc := 1703) 5 rfl dL_law_1703 ?_
  refine A_iconst C (pc := 1705) ic_2 dL_law_1705 ?_
  refine A_iadd C (pc := 1706) dL_law_1706 ?_
  refine A_sld C (pc := 1707) hXs hbl hbA h2 e2 dL_law_1707 ?_
  refine A_aload_n C (pc := 1708) 3 rfl dL_law_1708 ?_
  obtain ⟨z1709, h1709, hf⟩ := bd_i hf
  refine L_callS C (pc := 1709) hX (A := [.ref (B + 0), .int a1, .int a2, .ref (B + 110)]) (rest := []) kl_L_261 kw_L_upper (m_L_upper l hl9 B D Y o h1709) rfl rfl (Nat.le_of_ble_eq_true rfl) ⟨rfl, rfl, Nat.le_of_ble_eq_true rfl, Nat.le_of_ble_eq_true rfl⟩ ⟨by omega, by omega⟩ dL_law_1709 ?_
  refine A_istore C (pc := 1712) [(0, .ref b), (1, .ref (B + 0)), (2, .ref (B + 47)), (3, .ref (B + 110)), (4, .ref (B + 111)), (5, .int x5), (6, .int z1709.1)] (by decide) [1, 2, 3, 4, 5, 6, 0] rfl dL_law_1712 ?_
  refine A_aload_n C (pc := 1714) 2 rfl dL_law_1714 ?_
  refine A_aload_n C (pc := 1715) 0 rfl dL_law_1715 ?_
  refine A_iload C (pc := 1716) 5 rfl dL_law_1716 ?_
  refine A_iconst C (pc := 1718) ic_1 dL_law_1718 ?_
  refine A_iadd C (pc := 1719) dL_law_1719 ?_
  refine A_sld C (pc := 1720) hXs hbl hbA h1 e1 dL_law_1720 ?_
  refine A_aload_n C (pc := 1721) 0 rfl dL_law_1721 ?_
  refine A_iload C (pc := 1722) 5 rfl dL_law_1722 ?_
  refine A_iconst C (pc := 1724) ic_2 dL_law_1724 ?_
  refine A_iadd C (pc := 1725) dL_law_1725 ?_
  refine A_sld C (pc := 1726) hXs hbl hbA h2 e2 dL_law_1726 ?_
  obtain ⟨z1727, h1727, hf⟩ := bd_i hf
  refine A_callV1 C (pc := 1727) (A := [.int a1, .int a2]) (rest := []) k_L_263 ky_X7_upper kv_X7_upper (m_X7_upper l B D Y _ h1727) (by decide) rfl rfl rfl rfl (Nat.le_of_ble_eq_true rfl) ⟨rfl, rfl, Nat.le_of_ble_eq_true rfl, Nat.le_of_ble_eq_true rfl⟩ ⟨by omega, by omega⟩ dL_law_1727 ?_
  refine A_istore C (pc := 1730) [(0, .ref b), (1, .ref (B + 0)), (2, .ref (B + 47)), (3, .ref (B + 110)), (4, .ref (B + 111)), (5, .int x5), (6, .int z1709.1), (7, .int z1727.1)] (by decide) [1, 2, 3, 4, 5, 6, 7, 0] rfl dL_law_1730 ?_
  refine A_aload_n C (pc := 1732) 2 rfl dL_law_1732 ?_
  obtain ⟨z1733, h1733, hf⟩ := bd_i hf
  refine A_callV1 C (pc := 1733) (A := []) (rest := []) k_L_198 ky_X7_thrown kv_X7_thrown (m_X7_thrown l B D Y _ h1733) (by decide) rfl rfl rfl rfl (Nat.le_of_ble_eq_true rfl) ⟨rfl, rfl, Nat.le_of_ble_eq_true rfl, Nat.le_of_ble_eq_true rfl⟩ ⟨by omega, by omega⟩ dL_law_1733 ?_
  refine A_iload C (pc := 1736) 6 rfl dL_law_1736 ?_
  refine A_icmp_eq C (pc := 1738) 1743 (by decide) dL_law_1738 hf (fun _ hf => ?_) (fun _ hf => ?_)
  · refine A_iload C (pc := 1743) 6 rfl dL_law_1743 ?_
    refine A_if_ne C (pc := 1745) 1760 (by decide) dL_law_1745 hf (fun _ hf => ?_) (fun _ hf => ?_)
    · refine A_goto C (pc := 1760) 4081 (by decide) dL_law_1760 ?_
      cases hf
      refine A_sub [0, 1, 2, 3, 4, 5] rfl ?_
      exact A_widen (by omega) (by omega) (K _)
    · refine A_aload_n C (pc := 1748) 3 rfl dL_law_1748 ?_
      refine A_iconst C (pc := 1749) ic_0 dL_law_1749 ?_
      obtain ⟨w1750, e1750, hf⟩ := bd_i hf
      refine A_laldO C (pc := 1750) e1750 dL_law_1750 ?_
      refine A_iload C (pc := 1751) 7 rfl dL_law_1751 ?_
      refine A_i2l C (pc := 1753) dL_law_1753 ?_
      refine A_lcmp C (pc := 1754) dL_law_1754 ?_
      refine A_if_eq C (pc := 1755) 1760 (by decide) dL_law_1755 hf (fun _ hf => ?_) (fun _ hf => ?_)
      · refine A_goto C (pc := 1760) 4081 (by decide) dL_law_1760 ?_
        cases hf
        refine A_sub [0, 1, 2, 3, 4, 5] rfl ?_
        exact A_widen (by omega) (by omega) (K _)
      · refine A_iconst C (pc := 1758) ic_0 dL_law_1758 ?_
        cases hf
  · refine A_iconst C (pc := 1741) ic_0 dL_law_1741 ?_
    cases hf
set_option maxRecDepth 100000 in
theorem w_law_21 (C : Cx p s m args c cL_law 9 RL B D Y) (hX : XI B s) (hl9 : l.stackTraces = false) (hXs : va_X b LN xs s s.heap) (hbl : b < s.heap.size) (hbA : ¬ B ≤ b) {M M2 : Mem} {x5 a1 a2 a3 : Int32} (h1 : vp_in (x5 + 1) LN) (h2 : vp_in (x5 + 2) LN) (h3 : vp_in (x5 + 3) LN) (e1 : xs (x5 + 1).toNatClampNeg = a1) (e2 : xs (x5 + 2).toNatClampNeg = a2) (e3 : xs (x5 + 3).toNatClampNeg = a3) (hkc : k + 4 ≤ room_1.cells) (hks : sl + 24 ≤ room_1.slots) (hf : f_law_21 M a1 a2 a3 = some (some M2)) (K : ∀ o2, At p l e room_1 s m args below meth c 9 (k + 4) (sl + 24) Q B D Y o2 4081 M2 [(0, .ref b), (1, .ref (B + 0)), (2, .ref (B + 47)), (3, .ref (B + 110)), (4, .ref (B + 111)), (5, .int x5)] []) : At p l e room_1 s m args below meth c 9 k sl Q B D Y o 1763 M [(0, .ref b), (1, .ref (B + 0)), (2, .ref (B + 47)), (3, .ref (B + 110)), (4, .ref (B + 111)), (5, .int x5)] [] := by
  dsimp only [f_law_21] at hf
  refine A_aload_n C (pc := 1763) 1 rfl dL_law_1763 ?_
  refine A_aload_n C (pc := 1764) 0 rfl dL_law_1764 ?_
  refine A_iload C (pc := 1765) 5 rfl dL_law_1765 ?_
  refine A_iconst C (pc := 1767) ic_1 dL_law_1767 ?_
  refine A_iadd C (pc := 1768) dL_law_1768 ?_
  refine A_sld C (pc := 1769) hXs hbl hbA h1 e1 dL_law_1769 ?_
  refine A_aload_n C (pc := 1770) 0 rfl dL_law_1770 ?_
  refine A_iload C (pc := 1771) 5 rfl dL_law_1771 ?_
  refine A_iconst C (pc := 1773) ic_2 dL_law_1773 ?_
  refine A_iadd C (pc := 1774) dL_law_1774 ?_
  refine A_sld C (pc := 1775) hXs hbl hbA h2 e2 dL_law_1775 ?_
  refine A_if_eq C (pc := 1776) 1783 (by decide) dL_law_1776 hf (fun _ hf => ?_) (fun _ hf => ?_)
  · refine A_iconst C (pc := 1783) ic_0 dL_law_1783 ?_
    refine A_aload_n C (pc := 1784) 3 rfl dL_law_1784 ?_
    obtain ⟨z1785, h1785, hf⟩ := bd_i hf
    refine L_callS C (pc := 1785) hX (A := [.ref (B + 0), .int a1, .int 0, .ref (B + 110)]) (rest := []) kl_L_264 kw_L_ends (m_L_ends l hl9 B D Y o h1785) rfl rfl (Nat.le_of_ble_eq_true rfl) ⟨rfl, rfl, Nat.le_of_ble_eq_true rfl, Nat.le_of_ble_eq_true rfl⟩ ⟨by omega, by omega⟩ dL_law_1785 ?_
    refine A_istore C (pc := 1788) [(0, .ref b), (1, .ref (B + 0)), (2, .ref (B + 47)), (3, .ref (B + 110)), (4, .ref (B + 111)), (5, .int x5), (6, .int z1785.1)] (by decide) [1, 2, 3, 4, 5, 6, 0] rfl dL_law_1788 ?_
    refine A_aload_n C (pc := 1790) 2 rfl dL_law_1790 ?_
    refine A_aload_n C (pc := 1791) 0 rfl dL_law_1791 ?_
    refine A_iload C (pc := 1792) 5 rfl dL_law_1792 ?_
    refine A_iconst C (pc := 1794) ic_1 dL_law_1794 ?_
    refine A_iadd C (pc := 1795) dL_law_1795 ?_
    refine A_sld C (pc := 1796) hXs hbl hbA h1 e1 dL_law_1796 ?_
    refine A_aload_n C (pc := 1797) 0 rfl dL_law_1797 ?_
    refine A_iload C (pc := 1798) 5 rfl dL_law_1798 ?_
    refine A_iconst C (pc := 1800) ic_2 dL_law_1800 ?_
    refine A_iadd C (pc := 1801) dL_law_1801 ?_
    refine A_sld C (pc := 1802) hXs hbl hbA h2 e2 dL_law_1802 ?_
    refine A_if_eq C (pc := 1803) 1810 (by decide) dL_law_1803 hf (fun _ hf => ?_) (fun _ hf => ?_)
    · refine A_iconst C (pc := 1810) ic_0 dL_law_1810 ?_
      obtain ⟨z1811, h1811, hf⟩ := bd_i hf
      refine A_callV1 C (pc := 1811) (A := [.int a1, .int 0]) (rest := []) k_L_267 ky_X7_ends kv_X7_ends (m_X7_ends l B D Y _ h1811) (by decide) rfl rfl rfl rfl (Nat.le_of_ble_eq_true rfl) ⟨rfl, rfl, Nat.le_of_ble_eq_true rfl, Nat.le_of_ble_eq_true rfl⟩ ⟨by omega, by omega⟩ dL_law_1811 ?_
      refine A_istore C (pc := 1814) [(0, .ref b), (1, .ref (B + 0)), (2, .ref (B + 47)), (3, .ref (B + 110)), (4, .ref (B + 111)), (5, .int x5), (6, .int z1785.1), (7, .int z1811.1)] (by decide) [1, 2, 3, 4, 5, 6, 7, 0] rfl dL_law_1814 ?_
      refine A_aload_n C (pc := 1816) 2 rfl dL_law_1816 ?_
      obtain ⟨z1817, h1817, hf⟩ := bd_i hf
      refine A_callV1 C (pc := 1817) (A := []) (rest := []) k_L_198 ky_X7_thrown kv_X7_thrown (m_X7_thrown l B D Y _ h1817) (by decide) rfl rfl rfl rfl (Nat.le_of_ble_eq_true rfl) ⟨rfl, rfl, Nat.le_of_ble_eq_true rfl, Nat.le_of_ble_eq_true rfl⟩ ⟨by omega, by omega⟩ dL_law_1817 ?_
      refine A_iload C (pc := 1820) 6 rfl dL_law_1820 ?_
      refine A_icmp_eq C (pc := 1822) 1827 (by decide) dL_law_1822 hf (fun _ hf => ?_) (fun _ hf => ?_)
      · refine A_iload C (pc := 1827) 6 rfl dL_law_1827 ?_
        refine A_if_ne C (pc := 1829) 1844 (by decide) dL_law_1829 hf (fun _ hf => ?_) (fun _ hf => ?_)
        · refine A_goto C (pc := 1844) 4081 (by decide) dL_law_1844 ?_
          cases hf
          refine A_sub [0, 1, 2, 3, 4, 5] rfl ?_
          exact A_widen (by omega) (by omega) (K _)
        · refine A_aload_n C (pc := 1832) 3 rfl dL_law_1832 ?_
          refine A_iconst C (pc := 1833) ic_0 dL_law_1833 ?_
          obtain ⟨w1834, e1834, hf⟩ := bd_i hf
          refine A_laldO C (pc := 1834) e1834 dL_law_1834 ?_
          refine A_iload C (pc := 1835) 7 rfl dL_law_1835 ?_
          refine A_i2l C (pc := 1837) dL_law_1837 ?_
          refine A_lcmp C (pc := 1838) dL_law_1838 ?_
          refine A_if_eq C (pc := 1839) 1844 (by decide) dL_law_1839 hf (fun _ hf => ?_) (fun _ hf => ?_)
          · refine A_goto C (pc := 1844) 4081 (by decide) dL_law_1844 ?_
            cases hf
            refine A_sub [0, 1, 2, 3, 4, 5] rfl ?_
            exact A_widen (by omega) (by omega) (K _)
          · refine A_iconst C (pc := 1842) ic_0 dL_law_1842 ?_
            cases hf
      · refine A_iconst C (pc := 1825) ic_0 dL_law_1825 ?_
        cases hf
    · refine A_iconst C (pc := 1806) ic_1 dL_law_1806 ?_
      refine A_goto C (pc := 1807) 1811 (by decide) dL_law_1807 ?_
      obtain ⟨z1811, h1811, hf⟩ := bd_i hf
      refine A_callV1 C (pc := 1811) (A := [.int a1, .int 1]) (rest := []) k_L_267 ky_X7_ends kv_X7_ends (m_X7_ends l B D Y _ h1811) (by decide) rfl rfl rfl rfl (Nat.le_of_ble_eq_true rfl) ⟨rfl, rfl, Nat.le_of_ble_eq_true rfl, Nat.le_of_ble_eq_true rfl⟩ ⟨by omega, by omega⟩ dL_law_1811 ?_
      refine A_istore C (pc := 1814) [(0, .ref b), (1, .ref (B + 0)), (2, .ref (B + 47)), (3, .ref (B + 110)), (4, .ref (B + 111)), (5, .int x5), (6, .int z1785.1), (7, .int z1811.1)] (by decide) [1, 2, 3, 4, 5, 6, 7, 0] rfl dL_law_1814 ?_
      refine A_aload_n C (pc := 1816) 2 rfl dL_law_1816 ?_
      obtain ⟨z1817, h1817, hf⟩ := bd_i hf
      refine A_callV1 C (pc := 1817) (A := []) (rest := []) k_L_198 ky_X7_thrown kv_X7_thrown (m_X7_thrown l B D Y _ h1817) (by decide) rfl rfl rfl rfl (Nat.le_of_ble_eq_true rfl) ⟨rfl, rfl, Nat.le_of_ble_eq_true rfl, Nat.le_of_ble_eq_true rfl⟩ ⟨by omega, by omega⟩ dL_law_1817 ?_
      refine A_iload C (pc := 1820) 6 rfl dL_law_1820 ?_
      refine A_icmp_eq C (pc := 1822) 1827 (by decide) dL_law_1822 hf (fun _ hf => ?_) (fun _ hf => ?_)
      · refine A_iload C (pc := 1827) 6 rfl dL_law_1827 ?_
        refine A_if_ne C (pc := 1829) 1844 (by decide) dL_law_1829 hf (fun _ hf => ?_) (fun _ hf => ?_)
        · refine A_goto C (pc := 1844) 4081 (by decide) dL_law_1844 ?_
          cases hf
          refine A_sub [0, 1, 2, 3, 4, 5] rfl ?_
          exact A_widen (by omega) (by omega) (K _)
        · refine A_aload_n C (pc := 1832) 3 rfl dL_law_1832 ?_
          refine A_iconst C (pc := 1833) ic_0 dL_law_1833 ?_
          obtain ⟨w1834, e1834, hf⟩ := bd_i hf
          refine A_laldO C (pc := 1834) e1834 dL_law_1834 ?_
          refine A_iload C (pc := 1835) 7 rfl dL_law_1835 ?_
          refine A_i2l C (pc := 1837) dL_law_1837 ?_
          refine A_lcmp C (pc := 1838) dL_law_1838 ?_
          refine A_if_eq C (pc := 1839) 1844 (by decide) dL_law_1839 hf (fun _ hf => ?_) (fun _ hf => ?_)
          · refine A_goto C (pc := 1844) 4081 (by decide) dL_law_1844 ?_
            cases hf
            refine A_sub [0, 1, 2, 3, 4, 5] rfl ?_
            exact A_widen (by omega) (by omega) (K _)
          · refine A_iconst C (pc := 1842) ic_0 dL_law_1842 ?_
            cases hf
      · refine A_iconst C (pc := 1825) ic_0 dL_law_1825 ?_
        cases hf
  · refine A_iconst C (pc := 1779) ic_1 dL_law_1779 ?_
    refine A_goto C (pc := 1780) 1784 (by decide) dL_law_1780 ?_
    refine A_aload_n C (pc := 1784) 3 rfl dL_law_1784 ?_
    obtain ⟨z1785, h1785, hf⟩ := bd_i hf
    refine L_callS C (pc := 1785) hX (A := [.ref (B + 0), .int a1, .int 1, .ref (B + 110)]) (rest := []) kl_L_264 kw_L_ends (m_L_ends l hl9 B D Y o h1785) rfl rfl (Nat.le_of_ble_eq_true rfl) ⟨rfl, rfl, Nat.le_of_ble_eq_true rfl, Nat.le_of_ble_eq_true rfl⟩ ⟨by omega, by omega⟩ dL_law_1785 ?_
    refine A_istore C (pc := 1788) [(0, .ref b), (1, .ref (B + 0)), (2, .ref (B + 47)), (3, .ref (B + 110)), (4, .ref (B + 111)), (5, .int x5), (6, .int z1785.1)] (by decide) [1, 2, 3, 4, 5, 6, 0] rfl dL_law_1788 ?_
    refine A_aload_n C (pc := 1790) 2 rfl dL_law_1790 ?_
    refine A_aload_n C (pc := 1791) 0 rfl dL_law_1791 ?_
    refine A_iload C (pc := 1792) 5 rfl dL_law_1792 ?_
    refine A_iconst C (pc := 1794) ic_1 dL_law_1794 ?_
    refine A_iadd C (pc := 1795) dL_law_1795 ?_
    refine A_sld C (pc := 1796) hXs hbl hbA h1 e1 dL_law_1796 ?_
    refine A_aload_n C (pc := 1797) 0 rfl dL_law_1797 ?_
    refine A_iload C (pc := 1798) 5 rfl dL_law_1798 ?_
    refine A_iconst C (pc := 1800) ic_2 dL_law_1800 ?_
    refine A_iadd C (pc := 1801) dL_law_1801 ?_
    refine A_sld C (pc := 1802) hXs hbl hbA h2 e2 dL_law_1802 ?_
    refine A_if_eq C (pc := 1803) 1810 (by decide) dL_law_1803 hf (fun _ hf => ?_) (fun _ hf => ?_)
    · refine A_iconst C (pc := 1810) ic_0 dL_law_1810 ?_
      obtain ⟨z1811, h1811, hf⟩ := bd_i hf
      refine A_callV1 C (pc := 1811) (A := [.int a1, .int 0]) (rest := []) k_L_267 ky_X7_ends kv_X7_ends (m_X7_ends l B D Y _ h1811) (by decide) rfl rfl rfl rfl (Nat.le_of_ble_eq_true rfl) ⟨rfl, rfl, Nat.le_of_ble_eq_true rfl, Nat.le_of_ble_eq_true rfl⟩ ⟨by omega, by omega⟩ dL_law_1811 ?_
      refine A_istore C (pc := 1814) [(0, .ref b), (1, .ref (B + 0)), (2, .ref (B + 47)), (3, .ref (B + 110)), (4, .ref (B + 111)), (5, .int x5), (6, .int z1785.1), (7, .int z1811.1)] (by decide) [1, 2, 3, 4, 5, 6, 7, 0] rfl dL_law_1814 ?_
      refine A_aload_n C (pc := 1816) 2 rfl dL_law_1816 ?_
      obtain ⟨z1817, h1817, hf⟩ := bd_i hf
      refine A_callV1 C (pc := 1817) (A := []) (rest := []) k_L_198 ky_X7_thrown kv_X7_thrown (m_X7_thrown l B D Y _ h1817) (by decide) rfl rfl rfl rfl (Nat.le_of_ble_eq_true rfl) ⟨rfl, rfl, Nat.le_of_ble_eq_true rfl, Nat.le_of_ble_eq_true rfl⟩ ⟨by omega, by omega⟩ dL_law_1817 ?_
      refine A_iload C (pc := 1820) 6 rfl dL_law_1820 ?_
      refine A_icmp_eq C (pc := 1822) 1827 (by decide) dL_law_1822 hf (fun _ hf => ?_) (fun _ hf => ?_)
      · refine A_iload C (pc := 1827) 6 rfl dL_law_1827 ?_
        refine A_if_ne C (pc := 1829) 1844 (by decide) dL_law_1829 hf (fun _ hf => ?_) (fun _ hf => ?_)
        · refine A_goto C (pc := 1844) 4081 (by decide) dL_law_1844 ?_
          cases hf
          refine A_sub [0, 1, 2, 3, 4, 5] rfl ?_
          exact A_widen (by omega) (by omega) (K _)
        · refine A_aload_n C (pc := 1832) 3 rfl dL_law_1832 ?_
          refine A_iconst C (pc := 1833) ic_0 dL_law_1833 ?_
          obtain ⟨w1834, e1834, hf⟩ := bd_i hf
          refine A_laldO C (pc := 1834) e1834 dL_law_1834 ?_
          refine A_iload C (pc := 1835) 7 rfl dL_law_1835 ?_
          refine A_i2l C (pc := 1837) dL_law_1837 ?_
          refine A_lcmp C (pc := 1838) dL_law_1838 ?_
          refine A_if_eq C (pc := 1839) 1844 (by decide) dL_law_1839 hf (fun _ hf => ?_) (fun _ hf => ?_)
          · refine A_goto C (pc := 1844) 4081 (by decide) dL_law_1844 ?_
            cases hf
            refine A_sub [0, 1, 2, 3, 4, 5] rfl ?_
            exact A_widen (by omega) (by omega) (K _)
          · refine A_iconst C (pc := 1842) ic_0 dL_law_1842 ?_
            cases hf
      · refine A_iconst C (pc := 1825) ic_0 dL_law_1825 ?_
        cases hf
    · refine A_iconst C (pc := 1806) ic_1 dL_law_1806 ?_
      refine A_goto C (pc := 1807) 1811 (by decide) dL_law_1807 ?_
      obtain ⟨z1811, h1811, hf⟩ := bd_i hf
      refine A_callV1 C (pc := 1811) (A := [.int a1, .int 1]) (rest := []) k_L_267 ky_X7_ends kv_X7_ends (m_X7_ends l B D Y _ h1811) (by decide) rfl rfl rfl rfl (Nat.le_of_ble_eq_true rfl) ⟨rfl, rfl, Nat.le_of_ble_eq_true rfl, Nat.le_of_ble_eq_true rfl⟩ ⟨by omega, by omega⟩ dL_law_1811 ?_
      refine A_istore C (pc := 1814) [(0, .ref b), (1, .ref (B + 0)), (2, .ref (B + 47)), (3, .ref (B + 110)), (4, .ref (B + 111)), (5, .int x5), (6, .int z1785.1), (7, .int z1811.1)] (by decide) [1, 2, 3, 4, 5, 6, 7, 0] rfl dL_law_1814 ?_
      refine A_aload_n C (pc := 1816) 2 rfl dL_law_1816 ?_
      obtain ⟨z1817, h1817, hf⟩ := bd_i hf
      refine A_callV1 C (pc := 1817) (A := []) (rest := []) k_L_198 ky_X7_thrown kv_X7_thrown (m_X7_thrown l B D Y _ h1817) (by decide) rfl rfl rfl rfl (Nat.le_of_ble_eq_true rfl) ⟨rfl, rfl, Nat.le_of_ble_eq_true rfl, Nat.le_of_ble_eq_true rfl⟩ ⟨by omega, by omega⟩ dL_law_1817 ?_
      refine A_iload C (pc := 1820) 6 rfl dL_law_1820 ?_
      refine A_icmp_eq C (pc := 1822) 1827 (by decide) dL_law_1822 hf (fun _ hf => ?_) (fun _ hf => ?_)
      · refine A_iload C (pc := 1827) 6 rfl dL_law_1827 ?_
        refine A_if_ne C (pc := 1829) 1844 (by decide) dL_law_1829 hf (fun _ hf => ?_) (fun _ hf => ?_)
        · refine A_goto C (pc := 1844) 4081 (by decide) dL_law_1844 ?_
          cases hf
          refine A_sub [0, 1, 2, 3, 4, 5] rfl ?_
          exact A_widen (by omega) (by omega) (K _)
        · refine A_aload_n C (pc := 1832) 3 rfl dL_law_1832 ?_
          refine A_iconst C (pc := 1833) ic_0 dL_law_1833 ?_
          obtain ⟨w1834, e1834, hf⟩ := bd_i hf
          refine A_laldO C (pc := 1834) e1834 dL_law_1834 ?_
          refine A_iload C (pc := 1835) 7 rfl dL_law_1835 ?_
          refine A_i2l C (pc := 1837) dL_law_1837 ?_
          refine A_lcmp C (pc := 1838) dL_law_1838 ?_
          refine A_if_eq C (pc := 1839) 1844 (by decide) dL_law_1839 hf (fun _ hf => ?_) (fun _ hf => ?_)
          · refine A_goto C (pc := 1844) 4081 (by decide) dL_law_1844 ?_
            cases hf
            refine A_sub [0, 1, 2, 3, 4, 5] rfl ?_
            exact A_widen (by omega) (by omega) (K _)
          · refine A_iconst C (pc := 1842) ic_0 dL_law_1842 ?_
            cases hf
      · refine A_iconst C (pc := 1825) ic_0 dL_law_1825 ?_
        cases hf
set_option maxRecDepth 100000 in
theorem w_law_22 (C : Cx p s m args c cL_law 9 RL B D Y) (hX : XI B s) (hl9 : l.stackTraces = false) (hXs : va_X b LN xs s s.heap) (hbl : b < s.heap.size) (hbA : ¬ B ≤ b) {M M2 : Mem} {x5 a1 a2 a3 : Int32} (h1 : vp_in (x5 + 1) LN) (h2 : vp_in (x5 + 2) LN) (h3 : vp_in (x5 + 3) LN) (e1 : xs (x5 + 1).toNatClampNeg = a1) (e2 : xs (x5 + 2).toNatClampNeg = a2) (e3 : xs (x5 + 3).toNatClampNeg = a3) (hkc : k + 4 ≤ room_1.cells) (hks : sl + 24 ≤ room_1.slots) (hf : f_law_22 M a1 a2 a3 = some (some M2)) (K : ∀ o2, At p l e room_1 s m args below meth c 9 (k + 4) (sl + 24) Q B D Y o2 4081 M2 [(0, .ref b), (1, .ref (B + 0)), (2, .ref (B + 47)), (3, .ref (B + 110)), (4, .ref (B + 111)), (5, .int x5)] []) : At p l e room_1 s m args below meth c 9 k sl Q B D Y o 1847 M [(0, .ref b), (1, .ref (B + 0)), (2, .ref (B + 47)), (3, .ref (B + 110)), (4, .ref (B + 111)), (5, .int x5)] [] := by
  dsimp only [f_law_22] at hf
  refine A_aload_n C (pc := 1847) 1 rfl dL_law_1847 ?_
  refine A_aload_n C (pc := 1848) 0 rfl dL_law_1848 ?_
  refine A_iload C (pc := 1849) 5 rfl dL_law_1849 ?_
  refine A_iconst C (pc := 1851) ic_1 dL_law_1851 ?_
  refine A_iadd C (pc := 1852) dL_law_1852 ?_
  refine A_sld C (pc := 1853) hXs hbl hbA h1 e1 dL_law_1853 ?_
  refine A_aload_n C (pc := 1854) 0 rfl dL_law_1854 ?_
  refine A_iload C (pc := 1855) 5 rfl dL_law_1855 ?_
  refine A_iconst C (pc := 1857) ic_2 dL_law_1857 ?_
  refine A_iadd C (pc := 1858) dL_law_1858 ?_
  refine A_sld C (pc := 1859) hXs hbl hbA h2 e2 dL_law_1859 ?_
  refine A_aload_n C (pc := 1860) 3 rfl dL_law_1860 ?_
  obtain ⟨z1861, h1861, hf⟩ := bd_i hf
  refine L_callS C (pc := 1861) hX (A := [.ref (B + 0), .int a1, .int a2, .ref (B + 110)]) (rest := []) kl_L_268 kw_L_value (m_L_value l hl9 B D Y o h1861) rfl rfl (Nat.le_of_ble_eq_true rfl) ⟨rfl, rfl, Nat.le_of_ble_eq_true rfl, Nat.le_of_ble_eq_true rfl⟩ ⟨by omega, by omega⟩ dL_law_1861 ?_
  refine A_istore C (pc := 1864) [(0, .ref b), (1, .ref (B + 0)), (2, .ref (B + 47)), (3, .ref (B + 110)), (4, .ref (B + 111)), (5, .int x5), (6, .int z1861.1)] (by decide) [1, 2, 3, 4, 5, 6, 0] rfl dL_law_1864 ?_
  refine A_aload_n C (pc := 1866) 2 rfl dL_law_1866 ?_
  refine A_aload_n C (pc := 1867) 0 rfl dL_law_1867 ?_
  refine A_iload C (pc := 1868) 5 rfl dL_law_1868 ?_
  refine A_iconst C (pc := 1870) ic_1 dL_law_1870 ?_
  refine A_iadd C (pc := 1871) dL_law_1871 ?_
  refine A_sld C (pc := 1872) hXs hbl hbA h1 e1 dL_law_1872 ?_
  refine A_aload_n C (pc := 1873) 0 rfl dL_law_1873 ?_
  refine A_iload C (pc := 1874) 5 rfl dL_law_1874 ?_
  refine A_iconst C (pc := 1876) ic_2 dL_law_1876 ?_
  refine A_iadd C (pc := 1877) dL_law_1877 ?_
  refine A_sld C (pc := 1878) hXs hbl hbA h2 e2 dL_law_1878 ?_
  obtain ⟨z1879, h1879, hf⟩ := bd_i hf
  refine A_callV1 C (pc := 1879) (A := [.int a1, .int a2]) (rest := []) k_L_270 ky_X7_value kv_X7_value (m_X7_value l B D Y _ h1879) (by decide) rfl rfl rfl rfl (Nat.le_of_ble_eq_true rfl) ⟨rfl, rfl, Nat.le_of_ble_eq_true rfl, Nat.le_of_ble_eq_true rfl⟩ ⟨by omega, by omega⟩ dL_law_1879 ?_
  refine A_istore C (pc := 1882) [(0, .ref b), (1, .ref (B + 0)), (2, .ref (B + 47)), (3, .ref (B + 110)), (4, .ref (B + 111)), (5, .int x5), (6, .int z1861.1), (7, .int z1879.1)] (by decide) [1, 2, 3, 4, 5, 6, 7, 0] rfl dL_law_1882 ?_
  refine A_aload_n C (pc := 1884) 2 rfl dL_law_1884 ?_
  obtain ⟨z1885, h1885, hf⟩ := bd_i hf
  refine A_callV1 C (pc := 1885) (A := []) (rest := []) k_L_198 ky_X7_thrown kv_X7_thrown (m_X7_thrown l B D Y _ h1885) (by decide) rfl rfl rfl rfl (Nat.le_of_ble_eq_true rfl) ⟨rfl, rfl, Nat.le_of_ble_eq_true rfl, Nat.le_of_ble_eq_true rfl⟩ ⟨by omega, by omega⟩ dL_law_1885 ?_
  refine A_iload C (pc := 1888) 6 rfl dL_law_1888 ?_
  refine A_icmp_eq C (pc := 1890) 1895 (by decide) dL_law_1890 hf (fun _ hf => ?_) (fun _ hf => ?_)
  · refine A_iload C (pc := 1895) 6 rfl dL_law_1895 ?_
    refine A_if_ne C (pc := 1897) 1912 (by decide) dL_law_1897 hf (fun _ hf => ?_) (fun _ hf => ?_)
    · refine A_goto C (pc := 1912) 4081 (by decide) dL_law_1912 ?_
      cases hf
      refine A_sub [0, 1, 2, 3, 4, 5] rfl ?_
      exact A_widen (by omega) (by omega) (K _)
    · refine A_aload_n C (pc := 1900) 3 rfl dL_law_1900 ?_
      refine A_iconst C (pc := 1901) ic_0 dL_law_1901 ?_
      obtain ⟨w1902, e1902, hf⟩ := bd_i hf
      refine A_laldO C (pc := 1902) e1902 dL_law_1902 ?_
      refine A_iload C (pc := 1903) 7 rfl dL_law_1903 ?_
      refine A_i2l C (pc := 1905) dL_law_1905 ?_
      refine A_lcmp C (pc := 1906) dL_law_1906 ?_
      refine A_if_eq C (pc := 1907) 1912 (by decide) dL_law_1907 hf (fun _ hf => ?_) (fun _ hf => ?_)
      · refine A_goto C (pc := 1912) 4081 (by decide) dL_law_1912 ?_
        cases hf
        refine A_sub [0, 1, 2, 3, 4, 5] rfl ?_
        exact A_widen (by omega) (by omega) (K _)
      · refine A_iconst C (pc := 1910) ic_0 dL_law_1910 ?_
        cases hf
  · refine A_iconst C (pc := 1893) ic_0 dL_law_1893 ?_
    cases hf
set_option maxRecDepth 100000 in
theorem w_law_23 (C : Cx p s m args c cL_law 9 RL B D Y) (hX : XI B s) (hl9 : l.stackTraces = false) (hXs : va_X b LN xs s s.heap) (hbl : b < s.heap.size) (hbA : ¬ B ≤ b) {M M2 : Mem} {x5 a1 a2 a3 : Int32} (h1 : vp_in (x5 + 1) LN) (h2 : vp_in (x5 + 2) LN) (h3 : vp_in (x5 + 3) LN) (e1 : xs (x5 + 1).toNatClampNeg = a1) (e2 : xs (x5 + 2).toNatClampNeg = a2) (e3 : xs (x5 + 3).toNatClampNeg = a3) (hkc : k + 4 ≤ room_1.cells) (hks : sl + 24 ≤ room_1.slots) (hf : f_law_23 M a1 a2 a3 = some (some M2)) (K : ∀ o2, At p l e room_1 s m args below meth c 9 (k + 4) (sl + 24) Q B D Y o2 4081 M2 [(0, .ref b), (1, .ref (B + 0)), (2, .ref (B + 47)), (3, .ref (B + 110)), (4, .ref (B + 111)), (5, .int x5)] []) : At p l e room_1 s m args below meth c 9 k sl Q B D Y o 1915 M [(0, .ref b), (1, .ref (B + 0)), (2, .ref (B + 47)), (3, .ref (B + 110)), (4, .ref (B + 111)), (5, .int x5)] [] := by
  dsimp only [f_law_23] at hf
  refine A_aload_n C (pc := 1915) 1 rfl dL_law_1915 ?_
  refine A_aload_n C (pc := 1916) 0 rfl dL_law_1916 ?_
  refine A_iload C (pc := 1917) 5 rfl dL_law_1917 ?_
  refine A_iconst C (pc := 1919) ic_1 dL_law_1919 ?_
  refine A_iadd C (pc := 1920) dL_law_1920 ?_
  refine A_sld C (pc := 1921) hXs hbl hbA h1 e1 dL_law_1921 ?_
  refine A_aload_n C (pc := 1922) 0 rfl dL_law_1922 ?_
  refine A_iload C (pc := 1923) 5 rfl dL_law_1923 ?_
  refine A_iconst C (pc := 1925) ic_2 dL_law_1925 ?_
  refine A_iadd C (pc := 1926) dL_law_1926 ?_
  refine A_sld C (pc := 1927) hXs hbl hbA h2 e2 dL_law_1927 ?_
  refine A_aload_n C (pc := 1928) 3 rfl dL_law_1928 ?_
  obtain ⟨z1929, h1929, hf⟩ := bd_i hf
  refine L_callS C (pc := 1929) hX (A := [.ref (B + 0), .int a1, .int a2, .ref (B + 110)]) (rest := []) kl_L_271 kw_L_isSame (m_L_isSame l hl9 B D Y o h1929) rfl rfl (Nat.le_of_ble_eq_true rfl) ⟨rfl, rfl, Nat.le_of_ble_eq_true rfl, Nat.le_of_ble_eq_true rfl⟩ ⟨by omega, by omega⟩ dL_law_1929 ?_
  refine A_istore C (pc := 1932) [(0, .ref b), (1, .ref (B + 0)), (2, .ref (B + 47)), (3, .ref (B + 110)), (4, .ref (B + 111)), (5, .int x5), (6, .int z1929.1)] (by decide) [1, 2, 3, 4, 5, 6, 0] rfl dL_law_1932 ?_
  refine A_aload_n C (pc := 1934) 2 rfl dL_law_1934 ?_
  refine A_aload_n C (pc := 1935) 0 rfl dL_law_1935 ?_
  refine A_iload C (pc := 1936) 5 rfl dL_law_1936 ?_
  refine A_iconst C (pc := 1938) ic_1 dL_law_1938 ?_
  refine A_iadd C (pc := 1939) dL_law_1939 ?_
  refine A_sld C (pc := 1940) hXs hbl hbA h1 e1 dL_law_1940 ?_
  refine A_aload_n C (pc := 1941) 0 rfl dL_law_1941 ?_
  refine A_iload C (pc := 1942) 5 rfl dL_law_1942 ?_
  refine A_iconst C (pc := 1944) ic_2 dL_law_1944 ?_
  refine A_iadd C (pc := 1945) dL_law_1945 ?_
  refine A_sld C (pc := 1946) hXs hbl hbA h2 e2 dL_law_1946 ?_
  obtain ⟨z1947, h1947, hf⟩ := bd_i hf
  refine A_callV1 C (pc := 1947) (A := [.int a1, .int a2]) (rest := []) k_L_273 ky_X7_isSame kv_X7_isSame (m_X7_isSame l B D Y _ h1947) (by decide) rfl rfl rfl rfl (Nat.le_of_ble_eq_true rfl) ⟨rfl, rfl, Nat.le_of_ble_eq_true rfl, Nat.le_of_ble_eq_true rfl⟩ ⟨by omega, by omega⟩ dL_law_1947 ?_
  refine A_istore C (pc := 1950) [(0, .ref b), (1, .ref (B + 0)), (2, .ref (B + 47)), (3, .ref (B + 110)), (4, .ref (B + 111)), (5, .int x5), (6, .int z1929.1), (7, .int z1947.1)] (by decide) [1, 2, 3, 4, 5, 6, 7, 0] rfl dL_law_1950 ?_
  refine A_aload_n C (pc := 1952) 2 rfl dL_law_1952 ?_
  obtain ⟨z1953, h1953, hf⟩ := bd_i hf
  refine A_callV1 C (pc := 1953) (A := []) (rest := []) k_L_198 ky_X7_thrown kv_X7_thrown (m_X7_thrown l B D Y _ h1953) (by decide) rfl rfl rfl rfl (Nat.le_of_ble_eq_true rfl) ⟨rfl, rfl, Nat.le_of_ble_eq_true rfl, Nat.le_of_ble_eq_true rfl⟩ ⟨by omega, by omega⟩ dL_law_1953 ?_
  refine A_iload C (pc := 1956) 6 rfl dL_law_1956 ?_
  refine A_icmp_eq C (pc := 1958) 1963 (by decide) dL_law_1958 hf (fun _ hf => ?_) (fun _ hf => ?_)
  · refine A_iload C (pc := 1963) 6 rfl dL_law_1963 ?_
    refine A_if_ne C (pc := 1965) 1987 (by decide) dL_law_1965 hf (fun _ hf => ?_) (fun _ hf => ?_)
    · refine A_goto C (pc := 1987) 4081 (by decide) dL_law_1987 ?_
      cases hf
      refine A_sub [0, 1, 2, 3, 4, 5] rfl ?_
      exact A_widen (by omega) (by omega) (K _)
    · refine A_aload_n C (pc := 1968) 3 rfl dL_law_1968 ?_
      refine A_iconst C (pc := 1969) ic_0 dL_law_1969 ?_
      obtain ⟨w1970, e1970, hf⟩ := bd_i hf
      refine A_laldO C (pc := 1970) e1970 dL_law_1970 ?_
      refine A_iload C (pc := 1971) 7 rfl dL_law_1971 ?_
      refine A_if_eq C (pc := 1973) 1980 (by decide) dL_law_1973 hf (fun _ hf => ?_) (fun _ hf => ?_)
      · refine A_lconst C (pc := 1980) (v := 0) (by decide) dL_law_1980 ?_
        refine A_lcmp C (pc := 1981) dL_law_1981 ?_
        refine A_if_eq C (pc := 1982) 1987 (by decide) dL_law_1982 hf (fun _ hf => ?_) (fun _ hf => ?_)
        · refine A_goto C (pc := 1987) 4081 (by decide) dL_law_1987 ?_
          cases hf
          refine A_sub [0, 1, 2, 3, 4, 5] rfl ?_
          exact A_widen (by omega) (by omega) (K _)
        · refine A_iconst C (pc := 1985) ic_0 dL_law_1985 ?_
          cases hf
      · refine A_lconst C (pc := 1976) (v := 1) (by decide) dL_law_1976 ?_
        refine A_goto C (pc := 1977) 1981 (by decide) dL_law_1977 ?_
        refine A_lcmp C (pc := 1981) dL_law_1981 ?_
        refine A_if_eq C (pc := 1982) 1987 (by decide) dL_law_1982 hf (fun _ hf => ?_) (fun _ hf => ?_)
        · refine A_goto C (pc := 1987) 4081 (by decide) dL_law_1987 ?_
          cases hf
          refine A_sub [0, 1, 2, 3, 4, 5] rfl ?_
          exact A_widen (by omega) (by omega) (K _)
        · refine A_iconst C (pc := 1985) ic_0 dL_law_1985 ?_
          cases hf
  · refine A_iconst C (pc := 1961) ic_0 dL_law_1961 ?_
    cases hf
set_option maxRecDepth 100000 in
theorem w_law_24 (C : Cx p s m args c cL_law 9 RL B D Y) (hX : XI B s) (hl9 : l.stackTraces = false) (hXs : va_X b LN xs s s.heap) (hbl : b < s.heap.size) (hbA : ¬ B ≤ b) {M M2 : Mem} {x5 a1 a2 a3 : Int32} (h1 : vp_in (x5 + 1) LN) (h2 : vp_in (x5 + 2) LN) (h3 : vp_in (x5 + 3) LN) (e1 : xs (x5 + 1).toNatClampNeg = a1) (e2 : xs (x5 + 2).toNatClampNeg = a2) (e3 : xs (x5 + 3).toNatClampNeg = a3) (hkc : k + 4 ≤ room_1.cells) (hks : sl + 24 ≤ room_1.slots) (hf : f_law_24 M a1 a2 a3 = some (some M2)) (K : ∀ o2, At p l e room_1 s m args below meth c 9 (k + 4) (sl + 24) Q B D Y o2 4081 M2 [(0, .ref b), (1, .ref (B + 0)), (2, .ref (B + 47)), (3, .ref (B + 110)), (4, .ref (B + 111)), (5, .int x5)] []) : At p l e room_1 s m args below meth c 9 k sl Q B D Y o 1990 M [(0, .ref b), (1, .ref (B + 0)), (2, .ref (B + 47)), (3, .ref (B + 110)), (4, .ref (B + 111)), (5, .int x5)] [] := by
  dsimp only [f_law_24] at hf
  refine A_aload_n C (pc := 1990) 1 rfl dL_law_1990 ?_
  refine A_aload_n C (pc := 1991) 0 rfl dL_law_1991 ?_
  refine A_iload C (pc := 1992) 5 rfl dL_law_1992 ?_
  refine A_iconst C (pc := 1994) ic_1 dL_law_1994 ?_
  refine A_iadd C (pc := 1995) dL_law_1995 ?_
  refine A_sld C (pc := 1996) hXs hbl hbA h1 e1 dL_law_1996 ?_
  refine A_aload_n C (pc := 1997) 0 rfl dL_law_1997 ?_
  refine A_iload C (pc := 1998) 5 rfl dL_law_1998 ?_
  refine A_iconst C (pc := 2000) ic_2 dL_law_2000 ?_
  refine A_iadd C (pc := 2001) dL_law_2001 ?_
  refine A_sld C (pc := 2002) hXs hbl hbA h2 e2 dL_law_2002 ?_
  refine A_aload_n C (pc := 2003) 3 rfl dL_law_2003 ?_
  obtain ⟨z2004, h2004, hf⟩ := bd_i hf
  refine L_callS C (pc := 2004) hX (A := [.ref (B + 0), .int a1, .int a2, .ref (B + 110)]) (rest := []) kl_L_274 kw_L_isChain (m_L_isChain l hl9 B D Y o h2004) rfl rfl (Nat.le_of_ble_eq_true rfl) ⟨rfl, rfl, Nat.le_of_ble_eq_true rfl, Nat.le_of_ble_eq_true rfl⟩ ⟨by omega, by omega⟩ dL_law_2004 ?_
  refine A_istore C (pc := 2007) [(0, .ref b), (1, .ref (B + 0)), (2, .ref (B + 47)), (3, .ref (B + 110)), (4, .ref (B + 111)), (5, .int x5), (6, .int z2004.1)] (by decide) [1, 2, 3, 4, 5, 6, 0] rfl dL_law_2007 ?_
  refine A_aload_n C (pc := 2009) 2 rfl dL_law_2009 ?_
  refine A_aload_n C (pc := 2010) 0 rfl dL_law_2010 ?_
  refine A_iload C (pc := 2011) 5 rfl dL_law_2011 ?_
  refine A_iconst C (pc := 2013) ic_1 dL_law_2013 ?_
  refine A_iadd C (pc := 2014) dL_law_2014 ?_
  refine A_sld C (pc := 2015) hXs hbl hbA h1 e1 dL_law_2015 ?_
  refine A_aload_n C (pc := 2016) 0 rfl dL_law_2016 ?_
  refine A_iload C (pc := 2017) 5 rfl dL_law_2017 ?_
  refine A_iconst C (pc := 2019) ic_2 dL_law_2019 ?_
  refine A_iadd C (pc := 2020) dL_law_2020 ?_
  refine A_sld C (pc := 2021) hXs hbl hbA h2 e2 dL_law_2021 ?_
  obtain ⟨z2022, h2022, hf⟩ := bd_i hf
  refine A_callV1 C (pc := 2022) (A := [.int a1, .int a2]) (rest := []) k_L_276 ky_X7_isChain kv_X7_isChain (m_X7_isChain l B D Y _ h2022) (by decide) rfl rfl rfl rfl (Nat.le_of_ble_eq_true rfl) ⟨rfl, rfl, Nat.le_of_ble_eq_true rfl, Nat.le_of_ble_eq_true rfl⟩ ⟨by omega, by omega⟩ dL_law_2022 ?_
  refine A_istore C (pc := 2025) [(0, .ref b), (1, .ref (B + 0)), (2, .ref (B + 47)), (3, .ref (B + 110)), (4, .ref (B + 111)), (5, .int x5), (6, .int z2004.1), (7, .int z2022.1)] (by decide) [1, 2, 3, 4, 5, 6, 7, 0] rfl dL_law_2025 ?_
  refine A_aload_n C (pc := 2027) 2 rfl dL_law_2027 ?_
  obtain ⟨z2028, h2028, hf⟩ := bd_i hf
  refine A_callV1 C (pc := 2028) (A := []) (rest := []) k_L_198 ky_X7_thrown kv_X7_thrown (m_X7_thrown l B D Y _ h2028) (by decide) rfl rfl rfl rfl (Nat.le_of_ble_eq_true rfl) ⟨rfl, rfl, Nat.le_of_ble_eq_true rfl, Nat.le_of_ble_eq_true rfl⟩ ⟨by omega, by omega⟩ dL_law_2028 ?_
  refine A_iload C (pc := 2031) 6 rfl dL_law_2031 ?_
  refine A_icmp_eq C (pc := 2033) 2038 (by decide) dL_law_2033 hf (fun _ hf => ?_) (fun _ hf => ?_)
  · refine A_iload C (pc := 2038) 6 rfl dL_law_2038 ?_
    refine A_if_ne C (pc := 2040) 2062 (by decide) dL_law_2040 hf (fun _ hf => ?_) (fun _ hf => ?_)
    · refine A_goto C (pc := 2062) 4081 (by decide) dL_law_2062 ?_
      cases hf
      refine A_sub [0, 1, 2, 3, 4, 5] rfl ?_
      exact A_widen (by omega) (by omega) (K _)
    · refine A_aload_n C (pc := 2043) 3 rfl dL_law_2043 ?_
      refine A_iconst C (pc := 2044) ic_0 dL_law_2044 ?_
      obtain ⟨w2045, e2045, hf⟩ := bd_i hf
      refine A_laldO C (pc := 2045) e2045 dL_law_2045 ?_
      refine A_iload C (pc := 2046) 7 rfl dL_law_2046 ?_
      refine A_if_eq C (pc := 2048) 2055 (by decide) dL_law_2048 hf (fun _ hf => ?_) (fun _ hf => ?_)
      · refine A_lconst C (pc := 2055) (v := 0) (by decide) dL_law_2055 ?_
        refine A_lcmp C (pc := 2056) dL_law_2056 ?_
        refine A_if_eq C (pc := 2057) 2062 (by decide) dL_law_2057 hf (fun _ hf => ?_) (fun _ hf => ?_)
        · refine A_goto C (pc := 2062) 4081 (by decide) dL_law_2062 ?_
          cases hf
          refine A_sub [0, 1, 2, 3, 4, 5] rfl ?_
          exact A_widen (by omega) (by omega) (K _)
        · refine A_iconst C (pc := 2060) ic_0 dL_law_2060 ?_
          cases hf
      · refine A_lconst C (pc := 2051) (v := 1) (by decide) dL_law_2051 ?_
        refine A_goto C (pc := 2052) 2056 (by decide) dL_law_2052 ?_
        refine A_lcmp C (pc := 2056) dL_law_2056 ?_
        refine A_if_eq C (pc := 2057) 2062 (by decide) dL_law_2057 hf (fun _ hf => ?_) (fun _ hf => ?_)
        · refine A_goto C (pc := 2062) 4081 (by decide) dL_law_2062 ?_
          cases hf
          refine A_sub [0, 1, 2, 3, 4, 5] rfl ?_
          exact A_widen (by omega) (by omega) (K _)
        · refine A_iconst C (pc := 2060) ic_0 dL_law_2060 ?_
          cases hf
  · refine A_iconst C (pc := 2036) ic_0 dL_law_2036 ?_
    cases hf
set_option maxRecDepth 100000 in
theorem w_law_25 (C : Cx p s m args c cL_law 9 RL B D Y) (hX : XI B s) (hl9 : l.stackTraces = false) (hXs : va_X b LN xs s s.heap) (hbl : b < s.heap.size) (hbA : ¬ B ≤ b) {M M2 : Mem} {x5 a1 a2 a3 : Int32} (h1 : vp_in (x5 + 1) LN) (h2 : vp_in (x5 + 2) LN) (h3 : vp_in (x5 + 3) LN) (e1 : xs (x5 + 1).toNatClampNeg = a1) (e2 : xs (x5 + 2).toNatClampNeg = a2) (e3 : xs (x5 + 3).toNatClampNeg = a3) (hkc : k + 4 ≤ room_1.cells) (hks : sl + 24 ≤ room_1.slots) (hf : f_law_25 M a1 a2 a3 = some (some M2)) (K : ∀ o2, At p l e room_1 s m args below meth c 9 (k + 4) (sl + 24) Q B D Y o2 4081 M2 [(0, .ref b), (1, .ref (B + 0)), (2, .ref (B + 47)), (3, .ref (B + 110)), (4, .ref (B + 111)), (5, .int x5)] []) : At p l e room_1 s m args below meth c 9 k sl Q B D Y o 2065 M [(0, .ref b), (1, .ref (B + 0)), (2, .ref (B + 47)), (3, .ref (B + 110)), (4, .ref (B + 111)), (5, .int x5)] [] := by
  dsimp only [f_law_25] at hf
  refine A_aload_n C (pc := 2065) 1 rfl dL_law_2065 ?_
  refine A_aload_n C (pc := 2066) 0 rfl dL_law_2066 ?_
  refine A_iload C (pc := 2067) 5 rfl dL_law_2067 ?_
  refine A_iconst C (pc := 2069) ic_1 dL_law_2069 ?_
  refine A_iadd C (pc := 2070) dL_law_2070 ?_
  refine A_sld C (pc := 2071) hXs hbl hbA h1 e1 dL_law_2071 ?_
  refine A_aload_n C (pc := 2072) 0 rfl dL_law_2072 ?_
  refine A_iload C (pc := 2073) 5 rfl dL_law_2073 ?_
  refine A_iconst C (pc := 2075) ic_2 dL_law_2075 ?_
  refine A_iadd C (pc := 2076) dL_law_2076 ?_
  refine A_sld C (pc := 2077) hXs hbl hbA h2 e2 dL_law_2077 ?_
  refine A_aload_n C (pc := 2078) 3 rfl dL_law_2078 ?_
  obtain ⟨z2079, h2079, hf⟩ := bd_i hf
  refine L_callS C (pc := 2079) hX (A := [.ref (B + 0), .int a1, .int a2, .ref (B + 110)]) (rest := []) kl_L_277 kw_L_isApart (m_L_isApart l hl9 B D Y o h2079) rfl rfl (Nat.le_of_ble_eq_true rfl) ⟨rfl, rfl, Nat.le_of_ble_eq_true rfl, Nat.le_of_ble_eq_true rfl⟩ ⟨by omega, by omega⟩ dL_law_2079 ?_
  refine A_istore C (pc := 2082) [(0, .ref b), (1, .ref (B + 0)), (2, .ref (B + 47)), (3, .ref (B + 110)), (4, .ref (B + 111)), (5, .int x5), (6, .int z2079.1)] (by decide) [1, 2, 3, 4, 5, 6, 0] rfl dL_law_2082 ?_
  refine A_aload_n C (pc := 2084) 2 rfl dL_law_2084 ?_
  refine A_aload_n C (pc := 2085) 0 rfl dL_law_2085 ?_
  refine A_iload C (pc := 2086) 5 rfl dL_law_2086 ?_
  refine A_iconst C (pc := 2088) ic_1 dL_law_2088 ?_
  refine A_iadd C (pc := 2089) dL_law_2089 ?_
  refine A_sld C (pc := 2090) hXs hbl hbA h1 e1 dL_law_2090 ?_
  refine A_aload_n C (pc := 2091) 0 rfl dL_law_2091 ?_
  refine A_iload C (pc := 2092) 5 rfl dL_law_2092 ?_
  refine A_iconst C (pc := 2094) ic_2 dL_law_2094 ?_
  refine A_iadd C (pc := 2095) dL_law_2095 ?_
  refine A_sld C (pc := 2096) hXs hbl hbA h2 e2 dL_law_2096 ?_
  obtain ⟨z2097, h2097, hf⟩ := bd_i hf
  refine A_callV1 C (pc := 2097) (A := [.int a1, .int a2]) (rest := []) k_L_279 ky_X7_isApart kv_X7_isApart (m_X7_isApart l B D Y _ h2097) (by decide) rfl rfl rfl rfl (Nat.le_of_ble_eq_true rfl) ⟨rfl, rfl, Nat.le_of_ble_eq_true rfl, Nat.le_of_ble_eq_true rfl⟩ ⟨by omega, by omega⟩ dL_law_2097 ?_
  refine A_istore C (pc := 2100) [(0, .ref b), (1, .ref (B + 0)), (2, .ref (B + 47)), (3, .ref (B + 110)), (4, .ref (B + 111)), (5, .int x5), (6, .int z2079.1), (7, .int z2097.1)] (by decide) [1, 2, 3, 4, 5, 6, 7, 0] rfl dL_law_2100 ?_
  refine A_aload_n C (pc := 2102) 2 rfl dL_law_2102 ?_
  obtain ⟨z2103, h2103, hf⟩ := bd_i hf
  refine A_callV1 C (pc := 2103) (A := []) (rest := []) k_L_198 ky_X7_thrown kv_X7_thrown (m_X7_thrown l B D Y _ h2103) (by decide) rfl rfl rfl rfl (Nat.le_of_ble_eq_true rfl) ⟨rfl, rfl, Nat.le_of_ble_eq_true rfl, Nat.le_of_ble_eq_true rfl⟩ ⟨by omega, by omega⟩ dL_law_2103 ?_
  refine A_iload C (pc := 2106) 6 rfl dL_law_2106 ?_
  refine A_icmp_eq C (pc := 2108) 2113 (by decide) dL_law_2108 hf (fun _ hf => ?_) (fun _ hf => ?_)
  · refine A_iload C (pc := 2113) 6 rfl dL_law_2113 ?_
    refine A_if_ne C (pc := 2115) 2137 (by decide) dL_law_2115 hf (fun _ hf => ?_) (fun _ hf => ?_)
    · refine A_goto C (pc := 2137) 4081 (by decide) dL_law_2137 ?_
      cases hf
      refine A_sub [0, 1, 2, 3, 4, 5] rfl ?_
      exact A_widen (by omega) (by omega) (K _)
    · refine A_aload_n C (pc := 2118) 3 rfl dL_law_2118 ?_
      refine A_iconst C (pc := 2119) ic_0 dL_law_2119 ?_
      obtain ⟨w2120, e2120, hf⟩ := bd_i hf
      refine A_laldO C (pc := 2120) e2120 dL_law_2120 ?_
      refine A_iload C (pc := 2121) 7 rfl dL_law_2121 ?_
      refine A_if_eq C (pc := 2123) 2130 (by decide) dL_law_2123 hf (fun _ hf => ?_) (fun _ hf => ?_)
      · refine A_lconst C (pc := 2130) (v := 0) (by decide) dL_law_2130 ?_
        refine A_lcmp C (pc := 2131) dL_law_2131 ?_
        refine A_if_eq C (pc := 2132) 2137 (by decide) dL_law_2132 hf (fun _ hf => ?_) (fun _ hf => ?_)
        · refine A_goto C (pc := 2137) 4081 (by decide) dL_law_2137 ?_
          cases hf
          refine A_sub [0, 1, 2, 3, 4, 5] rfl ?_
          exact A_widen (by omega) (by omega) (K _)
        · refine A_iconst C (pc := 2135) ic_0 dL_law_2135 ?_
          cases hf
      · refine A_lconst C (pc := 2126) (v := 1) (by decide) dL_law_2126 ?_
        refine A_goto C (pc := 2127) 2131 (by decide) dL_law_2127 ?_
        refine A_lcmp C (pc := 2131) dL_law_2131 ?_
        refine A_if_eq C (pc := 2132) 2137 (by decide) dL_law_2132 hf (fun _ hf => ?_) (fun _ hf => ?_)
        · refine A_goto C (pc := 2137) 4081 (by decide) dL_law_2137 ?_
          cases hf
          refine A_sub [0, 1, 2, 3, 4, 5] rfl ?_
          exact A_widen (by omega) (by omega) (K _)
        · refine A_iconst C (pc := 2135) ic_0 dL_law_2135 ?_
          cases hf
  · refine A_iconst C (pc := 2111) ic_0 dL_law_2111 ?_
    cases hf
set_option maxRecDepth 100000 in
theorem w_law_26 (C : Cx p s m args c cL_law 9 RL B D Y) (hX : XI B s) (hl9 : l.stackTraces = false) (hXs : va_X b LN xs s s.heap) (hbl : b < s.heap.size) (hbA : ¬ B ≤ b) {M M2 : Mem} {x5 a1 a2 a3 : Int32} (h1 : vp_in (x5 + 1) LN) (h2 : vp_in (x5 + 2) LN) (h3 : vp_in (x5 + 3) LN) (e1 : xs (x5 + 1).toNatClampNeg = a1) (e2 : xs (x5 + 2).toNatClampNeg = a2) (e3 : xs (x5 + 3).toNatClampNeg = a3) (hkc : k + 4 ≤ room_1.cells) (hks : sl + 24 ≤ room_1.slots) (hf : f_law_26 M a1 a2 a3 = some (some M2)) (K : ∀ o2, At p l e room_1 s m args below meth c 9 (k + 4) (sl + 24) Q B D Y o2 4081 M2 [(0, .ref b), (1, .ref (B + 0)), (2, .ref (B + 47)), (3, .ref (B + 110)), (4, .ref (B + 111)), (5, .int x5)] []) : At p l e room_1 s m args below meth c 9 k sl Q B D Y o 2140 M [(0, .ref b), (1, .ref (B + 0)), (2, .ref (B + 47)), (3, .ref (B + 110)), (4, .ref (B + 111)), (5, .int x5)] [] := by
  dsimp only [f_law_26] at hf
  refine A_aload_n C (pc := 2140) 1 rfl dL_law_2140 ?_
  refine A_aload_n C (pc := 2141) 0 rfl dL_law_2141 ?_
  refine A_iload C (pc := 2142) 5 rfl dL_law_2142 ?_
  refine A_iconst C (pc := 2144) ic_1 dL_law_2144 ?_
  refine A_iadd C (pc := 2145) dL_law_2145 ?_
  refine A_sld C (pc := 2146) hXs hbl hbA h1 e1 dL_law_2146 ?_
  refine A_aload_n C (pc := 2147) 0 rfl dL_law_2147 ?_
  refine A_iload C (pc := 2148) 5 rfl dL_law_2148 ?_
  refine A_iconst C (pc := 2150) ic_2 dL_law_2150 ?_
  refine A_iadd C (pc := 2151) dL_law_2151 ?_
  refine A_sld C (pc := 2152) hXs hbl hbA h2 e2 dL_law_2152 ?_
  refine A_aload_n C (pc := 2153) 3 rfl dL_law_2153 ?_
  obtain ⟨z2154, h2154, hf⟩ := bd_i hf
  refine L_callS C (pc := 2154) hX (A := [.ref (B + 0), .int a1, .int a2, .ref (B + 110)]) (rest := []) kl_L_280 kw_L_level (m_L_level l hl9 B D Y o h2154) rfl rfl (Nat.le_of_ble_eq_true rfl) ⟨rfl, rfl, Nat.le_of_ble_eq_true rfl, Nat.le_of_ble_eq_true rfl⟩ ⟨by omega, by omega⟩ dL_law_2154 ?_
  refine A_istore C (pc := 2157) [(0, .ref b), (1, .ref (B + 0)), (2, .ref (B + 47)), (3, .ref (B + 110)), (4, .ref (B + 111)), (5, .int x5), (6, .int z2154.1)] (by decide) [1, 2, 3, 4, 5, 6, 0] rfl dL_law_2157 ?_
  refine A_aload_n C (pc := 2159) 2 rfl dL_law_2159 ?_
  refine A_aload_n C (pc := 2160) 0 rfl dL_law_2160 ?_
  refine A_iload C (pc := 2161) 5 rfl dL_law_2161 ?_
  refine A_iconst C (pc := 2163) ic_1 dL_law_2163 ?_
  refine A_iadd C (pc := 2164) dL_law_2164 ?_
  refine A_sld C (pc := 2165) hXs hbl hbA h1 e1 dL_law_2165 ?_
  refine A_aload_n C (pc := 2166) 0 rfl dL_law_2166 ?_
  refine A_iload C (pc := 2167) 5 rfl dL_law_2167 ?_
  refine A_iconst C (pc := 2169) ic_2 dL_law_2169 ?_
  refine A_iadd C (pc := 2170) dL_law_2170 ?_
  refine A_sld C (pc := 2171) hXs hbl hbA h2 e2 dL_law_2171 ?_
  obtain ⟨z2172, h2172, hf⟩ := bd_i hf
  refine A_callV1 C (pc := 2172) (A := [.int a1, .int a2]) (rest := []) k_L_282 ky_X7_level kv_X7_level (m_X7_level l B D Y _ h2172) (by decide) rfl rfl rfl rfl (Nat.le_of_ble_eq_true rfl) ⟨rfl, rfl, Nat.le_of_ble_eq_true rfl, Nat.le_of_ble_eq_true rfl⟩ ⟨by omega, by omega⟩ dL_law_2172 ?_
  refine A_istore C (pc := 2175) [(0, .ref b), (1, .ref (B + 0)), (2, .ref (B + 47)), (3, .ref (B + 110)), (4, .ref (B + 111)), (5, .int x5), (6, .int z2154.1), (7, .int z2172.1)] (by decide) [1, 2, 3, 4, 5, 6, 7, 0] rfl dL_law_2175 ?_
  refine A_aload_n C (pc := 2177) 2 rfl dL_law_2177 ?_
  obtain ⟨z2178, h2178, hf⟩ := bd_i hf
  refine A_callV1 C (pc := 2178) (A := []) (rest := []) k_L_198 ky_X7_thrown kv_X7_thrown (m_X7_thrown l B D Y _ h2178) (by decide) rfl rfl rfl rfl (Nat.le_of_ble_eq_true rfl) ⟨rfl, rfl, Nat.le_of_ble_eq_true rfl, Nat.le_of_ble_eq_true rfl⟩ ⟨by omega, by omega⟩ dL_law_2178 ?_
  refine A_iload C (pc := 2181) 6 rfl dL_law_2181 ?_
  refine A_icmp_eq C (pc := 2183) 2188 (by decide) dL_law_2183 hf (fun _ hf => ?_) (fun _ hf => ?_)
  · refine A_iload C (pc := 2188) 6 rfl dL_law_2188 ?_
    refine A_if_ne C (pc := 2190) 2205 (by decide) dL_law_2190 hf (fun _ hf => ?_) (fun _ hf => ?_)
    · refine A_goto C (pc := 2205) 4081 (by decide) dL_law_2205 ?_
      cases hf
      refine A_sub [0, 1, 2, 3, 4, 5] rfl ?_
      exact A_widen (by omega) (by omega) (K _)
    · refine A_aload_n C (pc := 2193) 3 rfl dL_law_2193 ?_
      refine A_iconst C (pc := 2194) ic_0 dL_law_2194 ?_
      obtain ⟨w2195, e2195, hf⟩ := bd_i hf
      refine A_laldO C (pc := 2195) e2195 dL_law_2195 ?_
      refine A_iload C (pc := 2196) 7 rfl dL_law_2196 ?_
      refine A_i2l C (pc := 2198) dL_law_2198 ?_
      refine A_lcmp C (pc := 2199) dL_law_2199 ?_
      refine A_if_eq C (pc := 2200) 2205 (by decide) dL_law_2200 hf (fun _ hf => ?_) (fun _ hf => ?_)
      · refine A_goto C (pc := 2205) 4081 (by decide) dL_law_2205 ?_
        cases hf
        refine A_sub [0, 1, 2, 3, 4, 5] rfl ?_
        exact A_widen (by omega) (by omega) (K _)
      · refine A_iconst C (pc := 2203) ic_0 dL_law_2203 ?_
        cases hf
  · refine A_iconst C (pc := 2186) ic_0 dL_law_2186 ?_
    cases hf
set_option maxRecDepth 100000 in
theorem w_law_27 (C : Cx p s m args c cL_law 9 RL B D Y) (hX : XI B s) (hl9 : l.stackTraces = false) (hXs : va_X b LN xs s s.heap) (hbl : b < s.heap.size) (hbA : ¬ B ≤ b) {M M2 : Mem} {x5 a1 a2 a3 : Int32} (h1 : vp_in (x5 + 1) LN) (h2 : vp_in (x5 + 2) LN) (h3 : vp_in (x5 + 3) LN) (e1 : xs (x5 + 1).toNatClampNeg = a1) (e2 : xs (x5 + 2).toNatClampNeg = a2) (e3 : xs (x5 + 3).toNatClampNeg = a3) (hkc : k + 4 ≤ room_1.cells) (hks : sl + 24 ≤ room_1.slots) (hf : f_law_27 M a1 a2 a3 = some (some M2)) (K : ∀ o2, At p l e room_1 s m args below meth c 9 (k + 4) (sl + 24) Q B D Y o2 4081 M2 [(0, .ref b), (1, .ref (B + 0)), (2, .ref (B + 47)), (3, .ref (B + 110)), (4, .ref (B + 111)), (5, .int x5)] []) : At p l e room_1 s m args below meth c 9 k sl Q B D Y o 2208 M [(0, .ref b), (1, .ref (B + 0)), (2, .ref (B + 47)), (3, .ref (B + 110)), (4, .ref (B + 111)), (5, .int x5)] [] := by
  dsimp only [f_law_27] at hf
  refine A_aload_n C (pc := 2208) 1 rfl dL_law_2208 ?_
  refine A_aload_n C (pc := 2209) 0 rfl dL_law_2209 ?_
  refine A_iload C (pc := 2210) 5 rfl dL_law_2210 ?_
  refine A_iconst C (pc := 2212) ic_1 dL_law_2212 ?_
  refine A_iadd C (pc := 2213) dL_law_2213 ?_
  refine A_sld C (pc := 2214) hXs hbl hbA h1 e1 dL_law_2214 ?_
  refine A_aload_n C (pc := 2215) 3 rfl dL_law_2215 ?_
  obtain ⟨z2216, h2216, hf⟩ := bd_i hf
  refine L_callS C (pc := 2216) hX (A := [.ref (B + 0), .int a1, .ref (B + 110)]) (rest := []) kl_L_283 kw_L_longest (m_L_longest l hl9 B D Y o h2216) rfl rfl (Nat.le_of_ble_eq_true rfl) ⟨rfl, rfl, Nat.le_of_ble_eq_true rfl, Nat.le_of_ble_eq_true rfl⟩ ⟨by omega, by omega⟩ dL_law_2216 ?_
  refine A_istore C (pc := 2219) [(0, .ref b), (1, .ref (B + 0)), (2, .ref (B + 47)), (3, .ref (B + 110)), (4, .ref (B + 111)), (5, .int x5), (6, .int z2216.1)] (by decide) [1, 2, 3, 4, 5, 6, 0] rfl dL_law_2219 ?_
  refine A_aload_n C (pc := 2221) 2 rfl dL_law_2221 ?_
  refine A_aload_n C (pc := 2222) 0 rfl dL_law_2222 ?_
  refine A_iload C (pc := 2223) 5 rfl dL_law_2223 ?_
  refine A_iconst C (pc := 2225) ic_1 dL_law_2225 ?_
  refine A_iadd C (pc := 2226) dL_law_2226 ?_
  refine A_sld C (pc := 2227) hXs hbl hbA h1 e1 dL_law_2227 ?_
  obtain ⟨z2228, h2228, hf⟩ := bd_i hf
  refine A_callV1 C (pc := 2228) (A := [.int a1]) (rest := []) k_L_285 ky_X7_longest kv_X7_longest (m_X7_longest l B D Y _ h2228) (by decide) rfl rfl rfl rfl (Nat.le_of_ble_eq_true rfl) ⟨rfl, rfl, Nat.le_of_ble_eq_true rfl, Nat.le_of_ble_eq_true rfl⟩ ⟨by omega, by omega⟩ dL_law_2228 ?_
  refine A_istore C (pc := 2231) [(0, .ref b), (1, .ref (B + 0)), (2, .ref (B + 47)), (3, .ref (B + 110)), (4, .ref (B + 111)), (5, .int x5), (6, .int z2216.1), (7, .int z2228.1)] (by decide) [1, 2, 3, 4, 5, 6, 7, 0] rfl dL_law_2231 ?_
  refine A_aload_n C (pc := 2233) 2 rfl dL_law_2233 ?_
  obtain ⟨z2234, h2234, hf⟩ := bd_i hf
  refine A_callV1 C (pc := 2234) (A := []) (rest := []) k_L_198 ky_X7_thrown kv_X7_thrown (m_X7_thrown l B D Y _ h2234) (by decide) rfl rfl rfl rfl (Nat.le_of_ble_eq_true rfl) ⟨rfl, rfl, Nat.le_of_ble_eq_true rfl, Nat.le_of_ble_eq_true rfl⟩ ⟨by omega, by omega⟩ dL_law_2234 ?_
  refine A_iload C (pc := 2237) 6 rfl dL_law_2237 ?_
  refine A_icmp_eq C (pc := 2239) 2244 (by decide) dL_law_2239 hf (fun _ hf => ?_) (fun _ hf => ?_)
  · refine A_iload C (pc := 2244) 6 rfl dL_law_2244 ?_
    refine A_if_ne C (pc := 2246) 2261 (by decide) dL_law_2246 hf (fun _ hf => ?_) (fun _ hf => ?_)
    · refine A_goto C (pc := 2261) 4081 (by decide) dL_law_2261 ?_
      cases hf
      refine A_sub [0, 1, 2, 3, 4, 5] rfl ?_
      exact A_widen (by omega) (by omega) (K _)
    · refine A_aload_n C (pc := 2249) 3 rfl dL_law_2249 ?_
      refine A_iconst C (pc := 2250) ic_0 dL_law_2250 ?_
      obtain ⟨w2251, e2251, hf⟩ := bd_i hf
      refine A_laldO C (pc := 2251) e2251 dL_law_2251 ?_
      refine A_iload C (pc := 2252) 7 rfl dL_law_2252 ?_
      refine A_i2l C (pc := 2254) dL_law_2254 ?_
      refine A_lcmp C (pc := 2255) dL_law_2255 ?_
      refine A_if_eq C (pc := 2256) 2261 (by decide) dL_law_2256 hf (fun _ hf => ?_) (fun _ hf => ?_)
      · refine A_goto C (pc := 2261) 4081 (by decide) dL_law_2261 ?_
        cases hf
        refine A_sub [0, 1, 2, 3, 4, 5] rfl ?_
        exact A_widen (by omega) (by omega) (K _)
      · refine A_iconst C (pc := 2259) ic_0 dL_law_2259 ?_
        cases hf
  · refine A_iconst C (pc := 2242) ic_0 dL_law_2242 ?_
    cases hf
set_option maxRecDepth 100000 in
theorem w_law_28 (C : Cx p s m args c cL_law 9 RL B D Y) (hX : XI B s) (hl9 : l.stackTraces = false) (hXs : va_X b LN xs s s.heap) (hbl : b < s.heap.size) (hbA : ¬ B ≤ b) {M M2 : Mem} {x5 a1 a2 a3 : Int32} (h1 : vp_in (x5 + 1) LN) (h2 : vp_in (x5 + 2) LN) (h3 : vp_in (x5 + 3) LN) (e1 : xs (x5 + 1).toNatClampNeg = a1) (e2 : xs (x5 + 2).toNatClampNeg = a2) (e3 : xs (x5 + 3).toNatClampNeg = a3) (hkc : k + 4 ≤ room_1.cells) (hks : sl + 24 ≤ room_1.slots) (hf : f_law_28 M a1 a2 a3 = some (some M2)) (K : ∀ o2, At p l e room_1 s m args below meth c 9 (k + 4) (sl + 24) Q B D Y o2 4081 M2 [(0, .ref b), (1, .ref (B + 0)), (2, .ref (B + 47)), (3, .ref (B + 110)), (4, .ref (B + 111)), (5, .int x5)] []) : At p l e room_1 s m args below meth c 9 k sl Q B D Y o 2264 M [(0, .ref b), (1, .ref (B + 0)), (2, .ref (B + 47)), (3, .ref (B + 110)), (4, .ref (B + 111)), (5, .int x5)] [] := by
  dsimp only [f_law_28] at hf
  refine A_aload_n C (pc := 2264) 1 rfl dL_law_2264 ?_
  refine A_aload_n C (pc := 2265) 0 rfl dL_law_2265 ?_
  refine A_iload C (pc := 2266) 5 rfl dL_law_2266 ?_
  refine A_iconst C (pc := 2268) ic_1 dL_law_2268 ?_
  refine A_iadd C (pc := 2269) dL_law_2269 ?_
  refine A_sld C (pc := 2270) hXs hbl hbA h1 e1 dL_law_2270 ?_
  refine A_aload_n C (pc := 2271) 3 rfl dL_law_2271 ?_
  obtain ⟨z2272, h2272, hf⟩ := bd_i hf
  refine L_callS C (pc := 2272) hX (A := [.ref (B + 0), .int a1, .ref (B + 110)]) (rest := []) kl_L_286 kw_L_widest (m_L_widest l hl9 B D Y o h2272) rfl rfl (Nat.le_of_ble_eq_true rfl) ⟨rfl, rfl, Nat.le_of_ble_eq_true rfl, Nat.le_of_ble_eq_true rfl⟩ ⟨by omega, by omega⟩ dL_law_2272 ?_
  refine A_istore C (pc := 2275) [(0, .ref b), (1, .ref (B + 0)), (2, .ref (B + 47)), (3, .ref (B + 110)), (4, .ref (B + 111)), (5, .int x5), (6, .int z2272.1)] (by decide) [1, 2, 3, 4, 5, 6, 0] rfl dL_law_2275 ?_
  refine A_aload_n C (pc := 2277) 2 rfl dL_law_2277 ?_
  refine A_aload_n C (pc := 2278) 0 rfl dL_law_2278 ?_
  refine A_iload C (pc := 2279) 5 rfl dL_law_2279 ?_
  refine A_iconst C (pc := 2281) ic_1 dL_law_2281 ?_
  refine A_iadd C (pc := 2282) dL_law_2282 ?_
  refine A_sld C (pc := 2283) hXs hbl hbA h1 e1 dL_law_2283 ?_
  obtain ⟨z2284, h2284, hf⟩ := bd_i hf
  refine A_callV1 C (pc := 2284) (A := [.int a1]) (rest := []) k_L_288 ky_X7_widest kv_X7_widest (m_X7_widest l B D Y _ h2284) (by decide) rfl rfl rfl rfl (Nat.le_of_ble_eq_true rfl) ⟨rfl, rfl, Nat.le_of_ble_eq_true rfl, Nat.le_of_ble_eq_true rfl⟩ ⟨by omega, by omega⟩ dL_law_2284 ?_
  refine A_istore C (pc := 2287) [(0, .ref b), (1, .ref (B + 0)), (2, .ref (B + 47)), (3, .ref (B + 110)), (4, .ref (B + 111)), (5, .int x5), (6, .int z2272.1), (7, .int z2284.1)] (by decide) [1, 2, 3, 4, 5, 6, 7, 0] rfl dL_law_2287 ?_
  refine A_aload_n C (pc := 2289) 2 rfl dL_law_2289 ?_
  obtain ⟨z2290, h2290, hf⟩ := bd_i hf
  refine A_callV1 C (pc := 2290) (A := []) (rest := []) k_L_198 ky_X7_thrown kv_X7_thrown (m_X7_thrown l B D Y _ h2290) (by decide) rfl rfl rfl rfl (Nat.le_of_ble_eq_true rfl) ⟨rfl, rfl, Nat.le_of_ble_eq_true rfl, Nat.le_of_ble_eq_true rfl⟩ ⟨by omega, by omega⟩ dL_law_2290 ?_
  refine A_iload C (pc := 2293) 6 rfl dL_law_2293 ?_
  refine A_icmp_eq C (pc := 2295) 2300 (by decide) dL_law_2295 hf (fun _ hf => ?_) (fun _ hf => ?_)
  · refine A_iload C (pc := 2300) 6 rfl dL_law_2300 ?_
    refine A_if_ne C (pc := 2302) 2317 (by decide) dL_law_2302 hf (fun _ hf => ?_) (fun _ hf => ?_)
    · refine A_goto C (pc := 2317) 4081 (by decide) dL_law_2317 ?_
      cases hf
      refine A_sub [0, 1, 2, 3, 4, 5] rfl ?_
      exact A_widen (by omega) (by omega) (K _)
    · refine A_aload_n C (pc := 2305) 3 rfl dL_law_2305 ?_
      refine A_iconst C (pc := 2306) ic_0 dL_law_2306 ?_
      obtain ⟨w2307, e2307, hf⟩ := bd_i hf
      refine A_laldO C (pc := 2307) e2307 dL_law_2307 ?_
      refine A_iload C (pc := 2308) 7 rfl dL_law_2308 ?_
      refine A_i2l C (pc := 2310) dL_law_2310 ?_
      refine A_lcmp C (pc := 2311) dL_law_2311 ?_
      refine A_if_eq C (pc := 2312) 2317 (by decide) dL_law_2312 hf (fun _ hf => ?_) (fun _ hf => ?_)
      · refine A_goto C (pc := 2317) 4081 (by decide) dL_law_2317 ?_
        cases hf
        refine A_sub [0, 1, 2, 3, 4, 5] rfl ?_
        exact A_widen (by omega) (by omega) (K _)
      · refine A_iconst C (pc := 2315) ic_0 dL_law_2315 ?_
        cases hf
  · refine A_iconst C (pc := 2298) ic_0 dL_law_2298 ?_
    cases hf
set_option maxRecDepth 100000 in
theorem w_law_29 (C : Cx p s m args c cL_law 9 RL B D Y) (hX : XI B s) (hl9 : l.stackTraces = false) (hXs : va_X b LN xs s s.heap) (hbl : b < s.heap.size) (hbA : ¬ B ≤ b) {M M2 : Mem} {x5 a1 a2 a3 : Int32} (h1 : vp_in (x5 + 1) LN) (h2 : vp_in (x5 + 2) LN) (h3 : vp_in (x5 + 3) LN) (e1 : xs (x5 + 1).toNatClampNeg = a1) (e2 : xs (x5 + 2).toNatClampNeg = a2) (e3 : xs (x5 + 3).toNatClampNeg = a3) (hkc : k + 4 ≤ room_1.cells) (hks : sl + 24 ≤ room_1.slots) (hf : f_law_29 M a1 a2 a3 = some (some M2)) (K : ∀ o2, At p l e room_1 s m args below meth c 9 (k + 4) (sl + 24) Q B D Y o2 4081 M2 [(0, .ref b), (1, .ref (B + 0)), (2, .ref (B + 47)), (3, .ref (B + 110)), (4, .ref (B + 111)), (5, .int x5)] []) : At p l e room_1 s m args below meth c 9 k sl Q B D Y o 2320 M [(0, .ref b), (1, .ref (B + 0)), (2, .ref (B + 47)), (3, .ref (B + 110)), (4, .ref (B + 111)), (5, .int x5)] [] := by
  dsimp only [f_law_29] at hf
  refine A_aload_n C (pc := 2320) 1 rfl dL_law_2320 ?_
  refine A_aload_n C (pc := 2321) 0 rfl dL_law_2321 ?_
  refine A_iload C (pc := 2322) 5 rfl dL_law_2322 ?_
  refine A_iconst C (pc := 2324) ic_1 dL_law_2324 ?_
  refine A_iadd C (pc := 2325) dL_law_2325 ?_
  refine A_sld C (pc := 2326) hXs hbl hbA h1 e1 dL_law_2326 ?_
  refine A_aload_n C (pc := 2327) 3 rfl dL_law_2327 ?_
  obtain ⟨z2328, h2328, hf⟩ := bd_i hf
  refine L_callS C (pc := 2328) hX (A := [.ref (B + 0), .int a1, .ref (B + 110)]) (rest := []) kl_L_289 kw_L_fewestChains (m_L_fewestChains l hl9 B D Y o h2328) rfl rfl (Nat.le_of_ble_eq_true rfl) ⟨rfl, rfl, Nat.le_of_ble_eq_true rfl, Nat.le_of_ble_eq_true rfl⟩ ⟨by omega, by omega⟩ dL_law_2328 ?_
  refine A_istore C (pc := 2331) [(0, .ref b), (1, .ref (B + 0)), (2, .ref (B + 47)), (3, .ref (B + 110)), (4, .ref (B + 111)), (5, .int x5), (6, .int z2328.1)] (by decide) [1, 2, 3, 4, 5, 6, 0] rfl dL_law_2331 ?_
  refine A_aload_n C (pc := 2333) 2 rfl dL_law_2333 ?_
  refine A_aload_n C (pc := 2334) 0 rfl dL_law_2334 ?_
  refine A_iload C (pc := 2335) 5 rfl dL_law_2335 ?_
  refine A_iconst C (pc := 2337) ic_1 dL_law_2337 ?_
  refine A_iadd C (pc := 2338) dL_law_2338 ?_
  refine A_sld C (pc := 2339) hXs hbl hbA h1 e1 dL_law_2339 ?_
  obtain ⟨z2340, h2340, hf⟩ := bd_i hf
  refine A_callV1 C (pc := 2340) (A := [.int a1]) (rest := []) k_L_291 ky_X7_fewestChains kv_X7_fewestChains (m_X7_fewestChains l B D Y _ h2340) (by decide) rfl rfl rfl rfl (Nat.le_of_ble_eq_true rfl) ⟨rfl, rfl, Nat.le_of_ble_eq_true rfl, Nat.le_of_ble_eq_true rfl⟩ ⟨by omega, by omega⟩ dL_law_2340 ?_
  refine A_istore C (pc := 2343) [(0, .ref b), (1, .ref (B + 0)), (2, .ref (B + 47)), (3, .ref (B + 110)), (4, .ref (B + 111)), (5, .int x5), (6, .int z2328.1), (7, .int z2340.1)] (by decide) [1, 2, 3, 4, 5, 6, 7, 0] rfl dL_law_2343 ?_
  refine A_aload_n C (pc := 2345) 2 rfl dL_law_2345 ?_
  obtain ⟨z2346, h2346, hf⟩ := bd_i hf
  refine A_callV1 C (pc := 2346) (A := []) (rest := []) k_L_198 ky_X7_thrown kv_X7_thrown (m_X7_thrown l B D Y _ h2346) (by decide) rfl rfl rfl rfl (Nat.le_of_ble_eq_true rfl) ⟨rfl, rfl, Nat.le_of_ble_eq_true rfl, Nat.le_of_ble_eq_true rfl⟩ ⟨by omega, by omega⟩ dL_law_2346 ?_
  refine A_iload C (pc := 2349) 6 rfl dL_law_2349 ?_
  refine A_icmp_eq C (pc := 2351) 2356 (by decide) dL_law_2351 hf (fun _ hf => ?_) (fun _ hf => ?_)
  · refine A_iload C (pc := 2356) 6 rfl dL_law_2356 ?_
    refine A_if_ne C (pc := 2358) 2373 (by decide) dL_law_2358 hf (fun _ hf => ?_) (fun _ hf => ?_)
    · refine A_goto C (pc := 2373) 4081 (by decide) dL_law_2373 ?_
      cases hf
      refine A_sub [0, 1, 2, 3, 4, 5] rfl ?_
      exact A_widen (by omega) (by omega) (K _)
    · refine A_aload_n C (pc := 2361) 3 rfl dL_law_2361 ?_
      refine A_iconst C (pc := 2362) ic_0 dL_law_2362 ?_
      obtain ⟨w2363, e2363, hf⟩ := bd_i hf
      refine A_laldO C (pc := 2363) e2363 dL_law_2363 ?_
      refine A_iload C (pc := 2364) 7 rfl dL_law_2364 ?_
      refine A_i2l C (pc := 2366) dL_law_2366 ?_
      refine A_lcmp C (pc := 2367) dL_law_2367 ?_
      refine A_if_eq C (pc := 2368) 2373 (by decide) dL_law_2368 hf (fun _ hf => ?_) (fun _ hf => ?_)
      · refine A_goto C (pc := 2373) 4081 (by decide) dL_law_2373 ?_
        cases hf
        refine A_sub [0, 1, 2, 3, 4, 5] rfl ?_
        exact A_widen (by omega) (by omega) (K _)
      · refine A_iconst C (pc := 2371) ic_0 dL_law_2371 ?_
        cases hf
  · refine A_iconst C (pc := 2354) ic_0 dL_law_2354 ?_
    cases hf
set_option maxRecDepth 100000 in
theorem w_law_30 (C : Cx p s m args c cL_law 9 RL B D Y) (hX : XI B s) (hl9 : l.stackTraces = false) (hXs : va_X b LN xs s s.heap) (hbl : b < s.heap.size) (hbA : ¬ B ≤ b) {M M2 : Mem} {x5 a1 a2 a3 : Int32} (h1 : vp_in (x5 + 1) LN) (h2 : vp_in (x5 + 2) LN) (h3 : vp_in (x5 + 3) LN) (e1 : xs (x5 + 1).toNatClampNeg = a1) (e2 : xs (x5 + 2).toNatClampNeg = a2) (e3 : xs (x5 + 3).toNatClampNeg = a3) (hkc : k + 4 ≤ room_1.cells) (hks : sl + 24 ≤ room_1.slots) (hf : f_law_30 M a1 a2 a3 = some (some M2)) (K : ∀ o2, At p l e room_1 s m args below meth c 9 (k + 4) (sl + 24) Q B D Y o2 4081 M2 [(0, .ref b), (1, .ref (B + 0)), (2, .ref (B + 47)), (3, .ref (B + 110)), (4, .ref (B + 111)), (5, .int x5)] []) : At p l e room_1 s m args below meth c 9 k sl Q B D Y o 2376 M [(0, .ref b), (1, .ref (B + 0)), (2, .ref (B + 47)), (3, .ref (B + 110)), (4, .ref (B + 111)), (5, .int x5)] [] := by
  dsimp only [f_law_30] at hf
  refine A_aload_n C (pc := 2376) 1 rfl dL_law_2376 ?_
  refine A_aload_n C (pc := 2377) 0 rfl dL_law_2377 ?_
  refine A_iload C (pc := 2378) 5 rfl dL_law_2378 ?_
  refine A_iconst C (pc := 2380) ic_1 dL_law_2380 ?_
  refine A_iadd C (pc := 2381) dL_law_2381 ?_
  refine A_sld C (pc := 2382) hXs hbl hbA h1 e1 dL_law_2382 ?_
  refine A_aload_n C (pc := 2383) 3 rfl dL_law_2383 ?_
  obtain ⟨z2384, h2384, hf⟩ := bd_i hf
  refine L_callS C (pc := 2384) hX (A := [.ref (B + 0), .int a1, .ref (B + 110)]) (rest := []) kl_L_292 kw_L_fewestAparts (m_L_fewestAparts l hl9 B D Y o h2384) rfl rfl (Nat.le_of_ble_eq_true rfl) ⟨rfl, rfl, Nat.le_of_ble_eq_true rfl, Nat.le_of_ble_eq_true rfl⟩ ⟨by omega, by omega⟩ dL_law_2384 ?_
  refine A_istore C (pc := 2387) [(0, .ref b), (1, .ref (B + 0)), (2, .ref (B + 47)), (3, .ref (B + 110)), (4, .ref (B + 111)), (5, .int x5), (6, .int z2384.1)] (by decide) [1, 2, 3, 4, 5, 6, 0] rfl dL_law_2387 ?_
  refine A_aload_n C (pc := 2389) 2 rfl dL_law_2389 ?_
  refine A_aload_n C (pc := 2390) 0 rfl dL_law_2390 ?_
  refine A_iload C (pc := 2391) 5 rfl dL_law_2391 ?_
  refine A_iconst C (pc := 2393) ic_1 dL_law_2393 ?_
  refine A_iadd C (pc := 2394) dL_law_2394 ?_
  refine A_sld C (pc := 2395) hXs hbl hbA h1 e1 dL_law_2395 ?_
  obtain ⟨z2396, h2396, hf⟩ := bd_i hf
  refine A_callV1 C (pc := 2396) (A := [.int a1]) (rest := []) k_L_294 ky_X7_fewestAparts kv_X7_fewestAparts (m_X7_fewestAparts l B D Y _ h2396) (by decide) rfl rfl rfl rfl (Nat.le_of_ble_eq_true rfl) ⟨rfl, rfl, Nat.le_of_ble_eq_true rfl, Nat.le_of_ble_eq_true rfl⟩ ⟨by omega, by omega⟩ dL_law_2396 ?_
  refine A_istore C (pc := 2399) [(0, .ref b), (1, .ref (B + 0)), (2, .ref (B + 47)), (3, .ref (B + 110)), (4, .ref (B + 111)), (5, .int x5), (6, .int z2384.1), (7, .int z2396.1)] (by decide) [1, 2, 3, 4, 5, 6, 7, 0] rfl dL_law_2399 ?_
  refine A_aload_n C (pc := 2401) 2 rfl dL_law_2401 ?_
  obtain ⟨z2402, h2402, hf⟩ := bd_i hf
  refine A_callV1 C (pc := 2402) (A := []) (rest := []) k_L_198 ky_X7_thrown kv_X7_thrown (m_X7_thrown l B D Y _ h2402) (by decide) rfl rfl rfl rfl (Nat.le_of_ble_eq_true rfl) ⟨rfl, rfl, Nat.le_of_ble_eq_true rfl, Nat.le_of_ble_eq_true rfl⟩ ⟨by omega, by omega⟩ dL_law_2402 ?_
  refine A_iload C (pc := 2405) 6 rfl dL_law_2405 ?_
  refine A_icmp_eq C (pc := 2407) 2412 (by decide) dL_law_2407 hf (fun _ hf => ?_) (fun _ hf => ?_)
  · refine A_iload C (pc := 2412) 6 rfl dL_law_2412 ?_
    refine A_if_ne C (pc := 2414) 2429 (by decide) dL_law_2414 hf (fun _ hf => ?_) (fun _ hf => ?_)
    · refine A_goto C (pc := 2429) 4081 (by decide) dL_law_2429 ?_
      cases hf
      refine A_sub [0, 1, 2, 3, 4, 5] rfl ?_
      exact A_widen (by omega) (by omega) (K _)
    · refine A_aload_n C (pc := 2417) 3 rfl dL_law_2417 ?_
      refine A_iconst C (pc := 2418) ic_0 dL_law_2418 ?_
      obtain ⟨w2419, e2419, hf⟩ := bd_i hf
      refine A_laldO C (pc := 2419) e2419 dL_law_2419 ?_
      refine A_iload C (pc := 2420) 7 rfl dL_law_2420 ?_
      refine A_i2l C (pc := 2422) dL_law_2422 ?_
      refine A_lcmp C (pc := 2423) dL_law_2423 ?_
      refine A_if_eq C (pc := 2424) 2429 (by decide) dL_law_2424 hf (fun _ hf => ?_) (fun _ hf => ?_)
      · refine A_goto C (pc := 2429) 4081 (by decide) dL_law_2429 ?_
        cases hf
        refine A_sub [0, 1, 2, 3, 4, 5] rfl ?_
        exact A_widen (by omega) (by omega) (K _)
      · refine A_iconst C (pc := 2427) ic_0 dL_law_2427 ?_
        cases hf
  · refine A_iconst C (pc := 2410) ic_0 dL_law_2410 ?_
    cases hf
set_option maxRecDepth 100000 in
theorem w_law_31 (C : Cx p s m args c cL_law 9 RL B D Y) (hX : XI B s) (hl9 : l.stackTraces = false) (hXs : va_X b LN xs s s.heap) (hbl : b < s.heap.size) (hbA : ¬ B ≤ b) {M M2 : Mem} {x5 a1 a2 a3 : Int32} (h1 : vp_in (x5 + 1) LN) (h2 : vp_in (x5 + 2) LN) (h3 : vp_in (x5 + 3) LN) (e1 : xs (x5 + 1).toNatClampNeg = a1) (e2 : xs (x5 + 2).toNatClampNeg = a2) (e3 : xs (x5 + 3).toNatClampNeg = a3) (hkc : k + 4 ≤ room_1.cells) (hks : sl + 24 ≤ room_1.slots) (hf : f_law_31 M a1 a2 a3 = some (some M2)) (K : ∀ o2, At p l e room_1 s m args below meth c 9 (k + 4) (sl + 24) Q B D Y o2 4081 M2 [(0, .ref b), (1, .ref (B + 0)), (2, .ref (B + 47)), (3, .ref (B + 110)), (4, .ref (B + 111)), (5, .int x5)] []) : At p l e room_1 s m args below meth c 9 k sl Q B D Y o 2432 M [(0, .ref b), (1, .ref (B + 0)), (2, .ref (B + 47)), (3, .ref (B + 110)), (4, .ref (B + 111)), (5, .int x5)] [] := by
  dsimp only [f_law_31] at hf
  refine A_aload_n C (pc := 2432) 1 rfl dL_law_2432 ?_
  refine A_aload_n C (pc := 2433) 0 rfl dL_law_2433 ?_
  refine A_iload C (pc := 2434) 5 rfl dL_law_2434 ?_
  refine A_iconst C (pc := 2436) ic_1 dL_law_2436 ?_
  refine A_iadd C (pc := 2437) dL_law_2437 ?_
  refine A_sld C (pc := 2438) hXs hbl hbA h1 e1 dL_law_2438 ?_
  refine A_aload_n C (pc := 2439) 3 rfl dL_law_2439 ?_
  obtain ⟨z2440, h2440, hf⟩ := bd_i hf
  refine L_callS C (pc := 2440) hX (A := [.ref (B + 0), .int a1, .ref (B + 110)]) (rest := []) kl_L_295 kw_L_aparts (m_L_aparts l hl9 B D Y o h2440) rfl rfl (Nat.le_of_ble_eq_true rfl) ⟨rfl, rfl, Nat.le_of_ble_eq_true rfl, Nat.le_of_ble_eq_true rfl⟩ ⟨by omega, by omega⟩ dL_law_2440 ?_
  refine A_istore C (pc := 2443) [(0, .ref b), (1, .ref (B + 0)), (2, .ref (B + 47)), (3, .ref (B + 110)), (4, .ref (B + 111)), (5, .int x5), (6, .int z2440.1)] (by decide) [1, 2, 3, 4, 5, 6, 0] rfl dL_law_2443 ?_
  refine A_aload_n C (pc := 2445) 2 rfl dL_law_2445 ?_
  refine A_aload_n C (pc := 2446) 0 rfl dL_law_2446 ?_
  refine A_iload C (pc := 2447) 5 rfl dL_law_2447 ?_
  refine A_iconst C (pc := 2449) ic_1 dL_law_2449 ?_
  refine A_iadd C (pc := 2450) dL_law_2450 ?_
  refine A_sld C (pc := 2451) hXs hbl hbA h1 e1 dL_law_2451 ?_
  obtain ⟨z2452, h2452, hf⟩ := bd_i hf
  refine A_callV1 C (pc := 2452) (A := [.int a1]) (rest := []) k_L_297 ky_X7_aparts kv_X7_aparts (m_X7_aparts l B D Y _ h2452) (by decide) rfl rfl rfl rfl (Nat.le_of_ble_eq_true rfl) ⟨rfl, rfl, Nat.le_of_ble_eq_true rfl, Nat.le_of_ble_eq_true rfl⟩ ⟨by omega, by omega⟩ dL_law_2452 ?_
  refine A_istore C (pc := 2455) [(0, .ref b), (1, .ref (B + 0)), (2, .ref (B + 47)), (3, .ref (B + 110)), (4, .ref (B + 111)), (5, .int x5), (6, .int z2440.1), (7, .int z2452.1)] (by decide) [1, 2, 3, 4, 5, 6, 7, 0] rfl dL_law_2455 ?_
  refine A_aload_n C (pc := 2457) 2 rfl dL_law_2457 ?_
  obtain ⟨z2458, h2458, hf⟩ := bd_i hf
  refine A_callV1 C (pc := 2458) (A := []) (rest := []) k_L_198 ky_X7_thrown kv_X7_thrown (m_X7_thrown l B D Y _ h2458) (by decide) rfl rfl rfl rfl (Nat.le_of_ble_eq_true rfl) ⟨rfl, rfl, Nat.le_of_ble_eq_true rfl, Nat.le_of_ble_eq_true rfl⟩ ⟨by omega, by omega⟩ dL_law_2458 ?_
  refine A_iload C (pc := 2461) 6 rfl dL_law_2461 ?_
  refine A_icmp_eq C (pc := 2463) 2468 (by decide) dL_law_2463 hf (fun _ hf => ?_) (fun _ hf => ?_)
  · refine A_iload C (pc := 2468) 6 rfl dL_law_2468 ?_
    refine A_if_ne C (pc := 2470) 2485 (by decide) dL_law_2470 hf (fun _ hf => ?_) (fun _ hf => ?_)
    · refine A_goto C (pc := 2485) 4081 (by decide) dL_law_2485 ?_
      cases hf
      refine A_sub [0, 1, 2, 3, 4, 5] rfl ?_
      exact A_widen (by omega) (by omega) (K _)
    · refine A_aload_n C (pc := 2473) 3 rfl dL_law_2473 ?_
      refine A_iconst C (pc := 2474) ic_0 dL_law_2474 ?_
      obtain ⟨w2475, e2475, hf⟩ := bd_i hf
      refine A_laldO C (pc := 2475) e2475 dL_law_2475 ?_
      refine A_iload C (pc := 2476) 7 rfl dL_law_2476 ?_
      refine A_i2l C (pc := 2478) dL_law_2478 ?_
      refine A_lcmp C (pc := 2479) dL_law_2479 ?_
      refine A_if_eq C (pc := 2480) 2485 (by decide) dL_law_2480 hf (fun _ hf => ?_) (fun _ hf => ?_)
      · refine A_goto C (pc := 2485) 4081 (by decide) dL_law_2485 ?_
        cases hf
        refine A_sub [0, 1, 2, 3, 4, 5] rfl ?_
        exact A_widen (by omega) (by omega) (K _)
      · refine A_iconst C (pc := 2483) ic_0 dL_law_2483 ?_
        cases hf
  · refine A_iconst C (pc := 2466) ic_0 dL_law_2466 ?_
    cases hf
set_option maxRecDepth 100000 in
theorem w_law_32 (C : Cx p s m args c cL_law 9 RL B D Y) (hX : XI B s) (hl9 : l.stackTraces = false) (hXs : va_X b LN xs s s.heap) (hbl : b < s.heap.size) (hbA : ¬ B ≤ b) {M M2 : Mem} {x5 a1 a2 a3 : Int32} (h1 : vp_in (x5 + 1) LN) (h2 : vp_in (x5 + 2) LN) (h3 : vp_in (x5 + 3) LN) (e1 : xs (x5 + 1).toNatClampNeg = a1) (e2 : xs (x5 + 2).toNatClampNeg = a2) (e3 : xs (x5 + 3).toNatClampNeg = a3) (hkc : k + 4 ≤ room_1.cells) (hks : sl + 24 ≤ room_1.slots) (hf : f_law_32 M a1 a2 a3 = some (some M2)) (K : ∀ o2, At p l e room_1 s m args below meth c 9 (k + 4) (sl + 24) Q B D Y o2 4081 M2 [(0, .ref b), (1, .ref (B + 0)), (2, .ref (B + 47)), (3, .ref (B + 110)), (4, .ref (B + 111)), (5, .int x5)] []) : At p l e room_1 s m args below meth c 9 k sl Q B D Y o 2488 M [(0, .ref b), (1, .ref (B + 0)), (2, .ref (B + 47)), (3, .ref (B + 110)), (4, .ref (B + 111)), (5, .int x5)] [] := by
  dsimp only [f_law_32] at hf
  refine A_aload_n C (pc := 2488) 1 rfl dL_law_2488 ?_
  refine A_aload_n C (pc := 2489) 0 rfl dL_law_2489 ?_
  refine A_iload C (pc := 2490) 5 rfl dL_law_2490 ?_
  refine A_iconst C (pc := 2492) ic_1 dL_law_2492 ?_
  refine A_iadd C (pc := 2493) dL_law_2493 ?_
  refine A_sld C (pc := 2494) hXs hbl hbA h1 e1 dL_law_2494 ?_
  refine A_aload_n C (pc := 2495) 3 rfl dL_law_2495 ?_
  obtain ⟨z2496, h2496, hf⟩ := bd_i hf
  refine L_callS C (pc := 2496) hX (A := [.ref (B + 0), .int a1, .ref (B + 110)]) (rest := []) kl_L_298 kw_L_sets (m_L_sets l hl9 B D Y o h2496) rfl rfl (Nat.le_of_ble_eq_true rfl) ⟨rfl, rfl, Nat.le_of_ble_eq_true rfl, Nat.le_of_ble_eq_true rfl⟩ ⟨by omega, by omega⟩ dL_law_2496 ?_
  refine A_istore C (pc := 2499) [(0, .ref b), (1, .ref (B + 0)), (2, .ref (B + 47)), (3, .ref (B + 110)), (4, .ref (B + 111)), (5, .int x5), (6, .int z2496.1)] (by decide) [1, 2, 3, 4, 5, 6, 0] rfl dL_law_2499 ?_
  refine A_aload_n C (pc := 2501) 2 rfl dL_law_2501 ?_
  refine A_aload_n C (pc := 2502) 0 rfl dL_law_2502 ?_
  refine A_iload C (pc := 2503) 5 rfl dL_law_2503 ?_
  refine A_iconst C (pc := 2505) ic_1 dL_law_2505 ?_
  refine A_iadd C (pc := 2506) dL_law_2506 ?_
  refine A_sld C (pc := 2507) hXs hbl hbA h1 e1 dL_law_2507 ?_
  obtain ⟨z2508, h2508, hf⟩ := bd_i hf
  refine A_callV1 C (pc := 2508) (A := [.int a1]) (rest := []) k_L_300 ky_X7_sets kv_X7_sets (m_X7_sets l B D Y _ h2508) (by decide) rfl rfl rfl rfl (Nat.le_of_ble_eq_true rfl) ⟨rfl, rfl, Nat.le_of_ble_eq_true rfl, Nat.le_of_ble_eq_true rfl⟩ ⟨by omega, by omega⟩ dL_law_2508 ?_
  refine A_istore C (pc := 2511) [(0, .ref b), (1, .ref (B + 0)), (2, .ref (B + 47)), (3, .ref (B + 110)), (4, .ref (B + 111)), (5, .int x5), (6, .int z2496.1), (7, .int z2508.1)] (by decide) [1, 2, 3, 4, 5, 6, 7, 0] rfl dL_law_2511 ?_
  refine A_aload_n C (pc := 2513) 2 rfl dL_law_2513 ?_
  obtain ⟨z2514, h2514, hf⟩ := bd_i hf
  refine A_callV1 C (pc := 2514) (A := []) (rest := []) k_L_198 ky_X7_thrown kv_X7_thrown (m_X7_thrown l B D Y _ h2514) (by decide) rfl rfl rfl rfl (Nat.le_of_ble_eq_true rfl) ⟨rfl, rfl, Nat.le_of_ble_eq_true rfl, Nat.le_of_ble_eq_true rfl⟩ ⟨by omega, by omega⟩ dL_law_2514 ?_
  refine A_iload C (pc := 2517) 6 rfl dL_law_2517 ?_
  refine A_icmp_eq C (pc := 2519) 2524 (by decide) dL_law_2519 hf (fun _ hf => ?_) (fun _ hf => ?_)
  · refine A_iload C (pc := 2524) 6 rfl dL_law_2524 ?_
    refine A_if_ne C (pc := 2526) 2541 (by decide) dL_law_2526 hf (fun _ hf => ?_) (fun _ hf => ?_)
    · refine A_goto C (pc := 2541) 4081 (by decide) dL_law_2541 ?_
      cases hf
      refine A_sub [0, 1, 2, 3, 4, 5] rfl ?_
      exact A_widen (by omega) (by omega) (K _)
    · refine A_aload_n C (pc := 2529) 3 rfl dL_law_2529 ?_
      refine A_iconst C (pc := 2530) ic_0 dL_law_2530 ?_
      obtain ⟨w2531, e2531, hf⟩ := bd_i hf
      refine A_laldO C (pc := 2531) e2531 dL_law_2531 ?_
      refine A_iload C (pc := 2532) 7 rfl dL_law_2532 ?_
      refine A_i2l C (pc := 2534) dL_law_2534 ?_
      refine A_lcmp C (pc := 2535) dL_law_2535 ?_
      refine A_if_eq C (pc := 2536) 2541 (by decide) dL_law_2536 hf (fun _ hf => ?_) (fun _ hf => ?_)
      · refine A_goto C (pc := 2541) 4081 (by decide) dL_law_2541 ?_
        cases hf
        refine A_sub [0, 1, 2, 3, 4, 5] rfl ?_
        exact A_widen (by omega) (by omega) (K _)
      · refine A_iconst C (pc := 2539) ic_0 dL_law_2539 ?_
        cases hf
  · refine A_iconst C (pc := 2522) ic_0 dL_law_2522 ?_
    cases hf
set_option maxRecDepth 100000 in
theorem w_law_33 (C : Cx p s m args c cL_law 9 RL B D Y) (hX : XI B s) (hl9 : l.stackTraces = false) (hXs : va_X b LN xs s s.heap) (hbl : b < s.heap.size) (hbA : ¬ B ≤ b) {M M2 : Mem} {x5 a1 a2 a3 : Int32} (h1 : vp_in (x5 + 1) LN) (h2 : vp_in (x5 + 2) LN) (h3 : vp_in (x5 + 3) LN) (e1 : xs (x5 + 1).toNatClampNeg = a1) (e2 : xs (x5 + 2).toNatClampNeg = a2) (e3 : xs (x5 + 3).toNatClampNeg = a3) (hkc : k + 4 ≤ room_1.cells) (hks : sl + 24 ≤ room_1.slots) (hf : f_law_33 M a1 a2 a3 = some (some M2)) (K : ∀ o2, At p l e room_1 s m args below meth c 9 (k + 4) (sl + 24) Q B D Y o2 4081 M2 [(0, .ref b), (1, .ref (B + 0)), (2, .ref (B + 47)), (3, .ref (B + 110)), (4, .ref (B + 111)), (5, .int x5)] []) : At p l e room_1 s m args below meth c 9 k sl Q B D Y o 2544 M [(0, .ref b), (1, .ref (B + 0)), (2, .ref (B + 47)), (3, .ref (B + 110)), (4, .ref (B + 111)), (5, .int x5)] [] := by
  dsimp only [f_law_33] at hf
  refine A_aload_n C (pc := 2544) 1 rfl dL_law_2544 ?_
  refine A_aload_n C (pc := 2545) 0 rfl dL_law_2545 ?_
  refine A_iload C (pc := 2546) 5 rfl dL_law_2546 ?_
  refine A_iconst C (pc := 2548) ic_1 dL_law_2548 ?_
  refine A_iadd C (pc := 2549) dL_law_2549 ?_
  refine A_sld C (pc := 2550) hXs hbl hbA h1 e1 dL_law_2550 ?_
  refine A_aload_n C (pc := 2551) 0 rfl dL_law_2551 ?_
  refine A_iload C (pc := 2552) 5 rfl dL_law_2552 ?_
  refine A_iconst C (pc := 2554) ic_2 dL_law_2554 ?_
  refine A_iadd C (pc := 2555) dL_law_2555 ?_
  refine A_sld C (pc := 2556) hXs hbl hbA h2 e2 dL_law_2556 ?_
  refine A_aload_n C (pc := 2557) 3 rfl dL_law_2557 ?_
  obtain ⟨z2558, h2558, hf⟩ := bd_i hf
  refine L_callS C (pc := 2558) hX (A := [.ref (B + 0), .int a1, .int a2, .ref (B + 110)]) (rest := []) kl_L_301 kw_L_setsOf (m_L_setsOf l hl9 B D Y o h2558) rfl rfl (Nat.le_of_ble_eq_true rfl) ⟨rfl, rfl, Nat.le_of_ble_eq_true rfl, Nat.le_of_ble_eq_true rfl⟩ ⟨by omega, by omega⟩ dL_law_2558 ?_
  refine A_istore C (pc := 2561) [(0, .ref b), (1, .ref (B + 0)), (2, .ref (B + 47)), (3, .ref (B + 110)), (4, .ref (B + 111)), (5, .int x5), (6, .int z2558.1)] (by decide) [1, 2, 3, 4, 5, 6, 0] rfl dL_law_2561 ?_
  refine A_aload_n C (pc := 2563) 2 rfl dL_law_2563 ?_
  refine A_aload_n C (pc := 2564) 0 rfl dL_law_2564 ?_
  refine A_iload C (pc := 2565) 5 rfl dL_law_2565 ?_
  refine A_iconst C (pc := 2567) ic_1 dL_law_2567 ?_
  refine A_iadd C (pc := 2568) dL_law_2568 ?_
  refine A_sld C (pc := 2569) hXs hbl hbA h1 e1 dL_law_2569 ?_
  refine A_aload_n C (pc := 2570) 0 rfl dL_law_2570 ?_
  refine A_iload C (pc := 2571) 5 rfl dL_law_2571 ?_
  refine A_iconst C (pc := 2573) ic_2 dL_law_2573 ?_
  refine A_iadd C (pc := 2574) dL_law_2574 ?_
  refine A_sld C (pc := 2575) hXs hbl hbA h2 e2 dL_law_2575 ?_
  obtain ⟨z2576, h2576, hf⟩ := bd_i hf
  refine A_callV1 C (pc := 2576) (A := [.int a1, .int a2]) (rest := []) k_L_303 ky_X7_setsOf kv_X7_setsOf (m_X7_setsOf l B D Y _ h2576) (by decide) rfl rfl rfl rfl (Nat.le_of_ble_eq_true rfl) ⟨rfl, rfl, Nat.le_of_ble_eq_true rfl, Nat.le_of_ble_eq_true rfl⟩ ⟨by omega, by omega⟩ dL_law_2576 ?_
  refine A_istore C (pc := 2579) [(0, .ref b), (1, .ref (B + 0)), (2, .ref (B + 47)), (3, .ref (B + 110)), (4, .ref (B + 111)), (5, .int x5), (6, .int z2558.1), (7, .int z2576.1)] (by decide) [1, 2, 3, 4, 5, 6, 7, 0] rfl dL_law_2579 ?_
  refine A_aload_n C (pc := 2581) 2 rfl dL_law_2581 ?_
  obtain ⟨z2582, h2582, hf⟩ := bd_i hf
  refine A_callV1 C (pc := 2582) (A := []) (rest := []) k_L_198 ky_X7_thrown kv_X7_thrown (m_X7_thrown l B D Y _ h2582) (by decide) rfl rfl rfl rfl (Nat.le_of_ble_eq_true rfl) ⟨rfl, rfl, Nat.le_of_ble_eq_true rfl, Nat.le_of_ble_eq_true rfl⟩ ⟨by omega, by omega⟩ dL_law_2582 ?_
  refine A_iload C (pc := 2585) 6 rfl dL_law_2585 ?_
  refine A_icmp_eq C (pc := 2587) 2592 (by decide) dL_law_2587 hf (fun _ hf => ?_) (fun _ hf => ?_)
  · refine A_iload C (pc := 2592) 6 rfl dL_law_2592 ?_
    refine A_if_ne C (pc := 2594) 2609 (by decide) dL_law_2594 hf (fun _ hf => ?_) (fun _ hf => ?_)
    · refine A_goto C (pc := 2609) 4081 (by decide) dL_law_2609 ?_
      cases hf
      refine A_sub [0, 1, 2, 3, 4, 5] rfl ?_
      exact A_widen (by omega) (by omega) (K _)
    · refine A_aload_n C (pc := 2597) 3 rfl dL_law_2597 ?_
      refine A_iconst C (pc := 2598) ic_0 dL_law_2598 ?_
      obtain ⟨w2599, e2599, hf⟩ := bd_i hf
      refine A_laldO C (pc := 2599) e2599 dL_law_2599 ?_
      refine A_iload C (pc := 2600) 7 rfl dL_law_2600 ?_
      refine A_i2l C (pc := 2602) dL_law_2602 ?_
      refine A_lcmp C (pc := 2603) dL_law_2603 ?_
      refine A_if_eq C (pc := 2604) 2609 (by decide) dL_law_2604 hf (fun _ hf => ?_) (fun _ hf => ?_)
      · refine A_goto C (pc := 2609) 4081 (by decide) dL_law_2609 ?_
        cases hf
        refine A_sub [0, 1, 2, 3, 4, 5] rfl ?_
        exact A_widen (by omega) (by omega) (K _)
      · refine A_iconst C (pc := 2607) ic_0 dL_law_2607 ?_
        cases hf
  · refine A_iconst C (pc := 2590) ic_0 dL_law_2590 ?_
    cases hf
set_option maxRecDepth 100000 in
theorem w_law_34 (C : Cx p s m args c cL_law 9 RL B D Y) (hX : XI B s) (hl9 : l.stackTraces = false) (hXs : va_X b LN xs s s.heap) (hbl : b < s.heap.size) (hbA : ¬ B ≤ b) {M M2 : Mem} {x5 a1 a2 a3 : Int32} (h1 : vp_in (x5 + 1) LN) (h2 : vp_in (x5 + 2) LN) (h3 : vp_in (x5 + 3) LN) (e1 : xs (x5 + 1).toNatClampNeg = a1) (e2 : xs (x5 + 2).toNatClampNeg = a2) (e3 : xs (x5 + 3).toNatClampNeg = a3) (hkc : k + 4 ≤ room_1.cells) (hks : sl + 24 ≤ room_1.slots) (hf : f_law_34 M a1 a2 a3 = some (some M2)) (K : ∀ o2, At p l e room_1 s m args below meth c 9 (k + 4) (sl + 24) Q B D Y o2 4081 M2 [(0, .ref b), (1, .ref (B + 0)), (2, .ref (B + 47)), (3, .ref (B + 110)), (4, .ref (B + 111)), (5, .int x5)] []) : At p l e room_1 s m args below meth c 9 k sl Q B D Y o 2612 M [(0, .ref b), (1, .ref (B + 0)), (2, .ref (B + 47)), (3, .ref (B + 110)), (4, .ref (B + 111)), (5, .int x5)] [] := by
  dsimp only [f_law_34] at hf
  refine A_aload_n C (pc := 2612) 1 rfl dL_law_2612 ?_
  refine A_aload_n C (pc := 2613) 0 rfl dL_law_2613 ?_
  refine A_iload C (pc := 2614) 5 rfl dL_law_2614 ?_
  refine A_iconst C (pc := 2616) ic_1 dL_law_2616 ?_
  refine A_iadd C (pc := 2617) dL_law_2617 ?_
  refine A_sld C (pc := 2618) hXs hbl hbA h1 e1 dL_law_2618 ?_
  refine A_aload_n C (pc := 2619) 0 rfl dL_law_2619 ?_
  refine A_iload C (pc := 2620) 5 rfl dL_law_2620 ?_
  refine A_iconst C (pc := 2622) ic_2 dL_law_2622 ?_
  refine A_iadd C (pc := 2623) dL_law_2623 ?_
  refine A_sld C (pc := 2624) hXs hbl hbA h2 e2 dL_law_2624 ?_
  refine A_aload_n C (pc := 2625) 3 rfl dL_law_2625 ?_
  obtain ⟨z2626, h2626, hf⟩ := bd_i hf
  refine L_callS C (pc := 2626) hX (A := [.ref (B + 0), .int a1, .int a2, .ref (B + 110)]) (rest := []) kl_L_304 kw_L_setAt (m_L_setAt l hl9 B D Y o h2626) rfl rfl (Nat.le_of_ble_eq_true rfl) ⟨rfl, rfl, Nat.le_of_ble_eq_true rfl, Nat.le_of_ble_eq_true rfl⟩ ⟨by omega, by omega⟩ dL_law_2626 ?_
  refine A_istore C (pc := 2629) [(0, .ref b), (1, .ref (B + 0)), (2, .ref (B + 47)), (3, .ref (B + 110)), (4, .ref (B + 111)), (5, .int x5), (6, .int z2626.1)] (by decide) [1, 2, 3, 4, 5, 6, 0] rfl dL_law_2629 ?_
  refine A_aload_n C (pc := 2631) 2 rfl dL_law_2631 ?_
  refine A_aload_n C (pc := 2632) 0 rfl dL_law_2632 ?_
  refine A_iload C (pc := 2633) 5 rfl dL_law_2633 ?_
  refine A_iconst C (pc := 2635) ic_1 dL_law_2635 ?_
  refine A_iadd C (pc := 2636) dL_law_2636 ?_
  refine A_sld C (pc := 2637) hXs hbl hbA h1 e1 dL_law_2637 ?_
  refine A_aload_n C (pc := 2638) 0 rfl dL_law_2638 ?_
  refine A_iload C (pc := 2639) 5 rfl dL_law_2639 ?_
  refine A_iconst C (pc := 2641) ic_2 dL_law_2641 ?_
  refine A_iadd C (pc := 2642) dL_law_2642 ?_
  refine A_sld C (pc := 2643) hXs hbl hbA h2 e2 dL_law_2643 ?_
  obtain ⟨z2644, h2644, hf⟩ := bd_i hf
  refine A_callV1 C (pc := 2644) (A := [.int a1, .int a2]) (rest := []) k_L_306 ky_X7_setAt kv_X7_setAt (m_X7_setAt l B D Y _ h2644) (by decide) rfl rfl rfl rfl (Nat.le_of_ble_eq_true rfl) ⟨rfl, rfl, Nat.le_of_ble_eq_true rfl, Nat.le_of_ble_eq_true rfl⟩ ⟨by omega, by omega⟩ dL_law_2644 ?_
  refine A_istore C (pc := 2647) [(0, .ref b), (1, .ref (B + 0)), (2, .ref (B + 47)), (3, .ref (B + 110)), (4, .ref (B + 111)), (5, .int x5), (6, .int z2626.1), (7, .int z2644.1)] (by decide) [1, 2, 3, 4, 5, 6, 7, 0] rfl dL_law_2647 ?_
  refine A_aload_n C (pc := 2649) 2 rfl dL_law_2649 ?_
  obtain ⟨z2650, h2650, hf⟩ := bd_i hf
  refine A_callV1 C (pc := 2650) (A := []) (rest := []) k_L_198 ky_X7_thrown kv_X7_thrown (m_X7_thrown l B D Y _ h2650) (by decide) rfl rfl rfl rfl (Nat.le_of_ble_eq_true rfl) ⟨rfl, rfl, Nat.le_of_ble_eq_true rfl, Nat.le_of_ble_eq_true rfl⟩ ⟨by omega, by omega⟩ dL_law_2650 ?_
  refine A_iload C (pc := 2653) 6 rfl dL_law_2653 ?_
  refine A_icmp_eq C (pc := 2655) 2660 (by decide) dL_law_2655 hf (fun _ hf => ?_) (fun _ hf => ?_)
  · refine A_iload C (pc := 2660) 6 rfl dL_law_2660 ?_
    refine A_if_ne C (pc := 2662) 2677 (by decide) dL_law_2662 hf (fun _ hf => ?_) (fun _ hf => ?_)
    · refine A_goto C (pc := 2677) 4081 (by decide) dL_law_2677 ?_
      cases hf
      refine A_sub [0, 1, 2, 3, 4, 5] rfl ?_
      exact A_widen (by omega) (by omega) (K _)
    · refine A_aload_n C (pc := 2665) 3 rfl dL_law_2665 ?_
      refine A_iconst C (pc := 2666) ic_0 dL_law_2666 ?_
      obtain ⟨w2667, e2667, hf⟩ := bd_i hf
      refine A_laldO C (pc := 2667) e2667 dL_law_2667 ?_
      refine A_iload C (pc := 2668) 7 rfl dL_law_2668 ?_
      refine A_i2l C (pc := 2670) dL_law_2670 ?_
      refine A_lcmp C (pc := 2671) dL_law_2671 ?_
      refine A_if_eq C (pc := 2672) 2677 (by decide) dL_law_2672 hf (fun _ hf => ?_) (fun _ hf => ?_)
      · refine A_goto C (pc := 2677) 4081 (by decide) dL_law_2677 ?_
        cases hf
        refine A_sub [0, 1, 2, 3, 4, 5] rfl ?_
        exact A_widen (by omega) (by omega) (K _)
      · refine A_iconst C (pc := 2675) ic_0 dL_law_2675 ?_
        cases hf
  · refine A_iconst C (pc := 2658) ic_0 dL_law_2658 ?_
    cases hf
set_option maxRecDepth 100000 in
theorem w_law_35 (C : Cx p s m args c cL_law 9 RL B D Y) (hX : XI B s) (hl9 : l.stackTraces = false) (hXs : va_X b LN xs s s.heap) (hbl : b < s.heap.size) (hbA : ¬ B ≤ b) {M M2 : Mem} {x5 a1 a2 a3 : Int32} (h1 : vp_in (x5 + 1) LN) (h2 : vp_in (x5 + 2) LN) (h3 : vp_in (x5 + 3) LN) (e1 : xs (x5 + 1).toNatClampNeg = a1) (e2 : xs (x5 + 2).toNatClampNeg = a2) (e3 : xs (x5 + 3).toNatClampNeg = a3) (hkc : k + 4 ≤ room_1.cells) (hks : sl + 24 ≤ room_1.slots) (hf : f_law_35 M a1 a2 a3 = some (some M2)) (K : ∀ o2, At p l e room_1 s m args below meth c 9 (k + 4) (sl + 24) Q B D Y o2 4081 M2 [(0, .ref b), (1, .ref (B + 0)), (2, .ref (B + 47)), (3, .ref (B + 110)), (4, .ref (B + 111)), (5, .int x5)] []) : At p l e room_1 s m args below meth c 9 k sl Q B D Y o 2680 M [(0, .ref b), (1, .ref (B + 0)), (2, .ref (B + 47)), (3, .ref (B + 110)), (4, .ref (B + 111)), (5, .int x5)] [] := by
  dsimp only [f_law_35] at hf
  refine A_aload_n C (pc := 2680) 1 rfl dL_law_2680 ?_
  refine A_aload_n C (pc := 2681) 0 rfl dL_law_2681 ?_
  refine A_iload C (pc := 2682) 5 rfl dL_law_2682 ?_
  refine A_iconst C (pc := 2684) ic_1 dL_law_2684 ?_
  refine A_iadd C (pc := 2685) dL_law_2685 ?_
  refine A_sld C (pc := 2686) hXs hbl hbA h1 e1 dL_law_2686 ?_
  refine A_aload_n C (pc := 2687) 0 rfl dL_law_2687 ?_
  refine A_iload C (pc := 2688) 5 rfl dL_law_2688 ?_
  refine A_iconst C (pc := 2690) ic_2 dL_law_2690 ?_
  refine A_iadd C (pc := 2691) dL_law_2691 ?_
  refine A_sld C (pc := 2692) hXs hbl hbA h2 e2 dL_law_2692 ?_
  refine A_aload_n C (pc := 2693) 3 rfl dL_law_2693 ?_
  obtain ⟨z2694, h2694, hf⟩ := bd_i hf
  refine L_callS C (pc := 2694) hX (A := [.ref (B + 0), .int a1, .int a2, .ref (B + 110)]) (rest := []) kl_L_307 kw_L_placeOf (m_L_placeOf l hl9 B D Y o h2694) rfl rfl (Nat.le_of_ble_eq_true rfl) ⟨rfl, rfl, Nat.le_of_ble_eq_true rfl, Nat.le_of_ble_eq_true rfl⟩ ⟨by omega, by omega⟩ dL_law_2694 ?_
  refine A_istore C (pc := 2697) [(0, .ref b), (1, .ref (B + 0)), (2, .ref (B + 47)), (3, .ref (B + 110)), (4, .ref (B + 111)), (5, .int x5), (6, .int z2694.1)] (by decide) [1, 2, 3, 4, 5, 6, 0] rfl dL_law_2697 ?_
  refine A_aload_n C (pc := 2699) 2 rfl dL_law_2699 ?_
  refine A_aload_n C (pc := 2700) 0 rfl dL_law_2700 ?_
  refine A_iload C (pc := 2701) 5 rfl dL_law_2701 ?_
  refine A_iconst C (pc := 2703) ic_1 dL_law_2703 ?_
  refine A_iadd C (pc := 2704) dL_law_2704 ?_
  refine A_sld C (pc := 2705) hXs hbl hbA h1 e1 dL_law_2705 ?_
  refine A_aload_n C (pc := 2706) 0 rfl dL_law_2706 ?_
  refine A_iload C (pc := 2707) 5 rfl dL_law_2707 ?_
  refine A_iconst C (pc := 2709) ic_2 dL_law_2709 ?_
  refine A_iadd C (pc := 2710) dL_law_2710 ?_
  refine A_sld C (pc := 2711) hXs hbl hbA h2 e2 dL_law_2711 ?_
  obtain ⟨z2712, h2712, hf⟩ := bd_i hf
  refine A_callV1 C (pc := 2712) (A := [.int a1, .int a2]) (rest := []) k_L_309 ky_X7_placeOf kv_X7_placeOf (m_X7_placeOf l B D Y _ h2712) (by decide) rfl rfl rfl rfl (Nat.le_of_ble_eq_true rfl) ⟨rfl, rfl, Nat.le_of_ble_eq_true rfl, Nat.le_of_ble_eq_true rfl⟩ ⟨by omega, by omega⟩ dL_law_2712 ?_
  refine A_istore C (pc := 2715) [(0, .ref b), (1, .ref (B + 0)), (2, .ref (B + 47)), (3, .ref (B + 110)), (4, .ref (B + 111)), (5, .int x5), (6, .int z2694.1), (7, .int z2712.1)] (by decide) [1, 2, 3, 4, 5, 6, 7, 0] rfl dL_law_2715 ?_
  refine A_aload_n C (pc := 2717) 2 rfl dL_law_2717 ?_
  obtain ⟨z2718, h2718, hf⟩ := bd_i hf
  refine A_callV1 C (pc := 2718) (A := []) (rest := []) k_L_198 ky_X7_thrown kv_X7_thrown (m_X7_thrown l B D Y _ h2718) (by decide) rfl rfl rfl rfl (Nat.le_of_ble_eq_true rfl) ⟨rfl, rfl, Nat.le_of_ble_eq_true rfl, Nat.le_of_ble_eq_true rfl⟩ ⟨by omega, by omega⟩ dL_law_2718 ?_
  refine A_iload C (pc := 2721) 6 rfl dL_law_2721 ?_
  refine A_icmp_eq C (pc := 2723) 2728 (by decide) dL_law_2723 hf (fun _ hf => ?_) (fun _ hf => ?_)
  · refine A_iload C (pc := 2728) 6 rfl dL_law_2728 ?_
    refine A_if_ne C (pc := 2730) 2745 (by decide) dL_law_2730 hf (fun _ hf => ?_) (fun _ hf => ?_)
    · refine A_goto C (pc := 2745) 4081 (by decide) dL_law_2745 ?_
      cases hf
      refine A_sub [0, 1, 2, 3, 4, 5] rfl ?_
      exact A_widen (by omega) (by omega) (K _)
    · refine A_aload_n C (pc := 2733) 3 rfl dL_law_2733 ?_
      refine A_iconst C (pc := 2734) ic_0 dL_law_2734 ?_
      obtain ⟨w2735, e2735, hf⟩ := bd_i hf
      refine A_laldO C (pc := 2735) e2735 dL_law_2735 ?_
      refine A_iload C (pc := 2736) 7 rfl dL_law_2736 ?_
      refine A_i2l C (pc := 2738) dL_law_2738 ?_
      refine A_lcmp C (pc := 2739) dL_law_2739 ?_
      refine A_if_eq C (pc := 2740) 2745 (by decide) dL_law_2740 hf (fun _ hf => ?_) (fun _ hf => ?_)
      · refine A_goto C (pc := 2745) 4081 (by decide) dL_law_2745 ?_
        cases hf
        refine A_sub [0, 1, 2, 3, 4, 5] rfl ?_
        exact A_widen (by omega) (by omega) (K _)
      · refine A_iconst C (pc := 2743) ic_0 dL_law_2743 ?_
        cases hf
  · refine A_iconst C (pc := 2726) ic_0 dL_law_2726 ?_
    cases hf
set_option maxRecDepth 100000 in
theorem w_law_36 (C : Cx p s m args c cL_law 9 RL B D Y) (hX : XI B s) (hl9 : l.stackTraces = false) (hXs : va_X b LN xs s s.heap) (hbl : b < s.heap.size) (hbA : ¬ B ≤ b) {M M2 : Mem} {x5 a1 a2 a3 : Int32} (h1 : vp_in (x5 + 1) LN) (h2 : vp_in (x5 + 2) LN) (h3 : vp_in (x5 + 3) LN) (e1 : xs (x5 + 1).toNatClampNeg = a1) (e2 : xs (x5 + 2).toNatClampNeg = a2) (e3 : xs (x5 + 3).toNatClampNeg = a3) (hkc : k + 4 ≤ room_1.cells) (hks : sl + 24 ≤ room_1.slots) (hf : f_law_36 M a1 a2 a3 = some (some M2)) (K : ∀ o2, At p l e room_1 s m args below meth c 9 (k + 4) (sl + 24) Q B D Y o2 4081 M2 [(0, .ref b), (1, .ref (B + 0)), (2, .ref (B + 47)), (3, .ref (B + 110)), (4, .ref (B + 111)), (5, .int x5)] []) : At p l e room_1 s m args below meth c 9 k sl Q B D Y o 2748 M [(0, .ref b), (1, .ref (B + 0)), (2, .ref (B + 47)), (3, .ref (B + 110)), (4, .ref (B + 111)), (5, .int x5)] [] := by
  dsimp only [f_law_36] at hf
  refine A_aload_n C (pc := 2748) 1 rfl dL_law_2748 ?_
  refine A_aload_n C (pc := 2749) 0 rfl dL_law_2749 ?_
  refine A_iload C (pc := 2750) 5 rfl dL_law_2750 ?_
  refine A_iconst C (pc := 2752) ic_1 dL_law_2752 ?_
  refine A_iadd C (pc := 2753) dL_law_2753 ?_
  refine A_sld C (pc := 2754) hXs hbl hbA h1 e1 dL_law_2754 ?_
  refine A_aload_n C (pc := 2755) 0 rfl dL_law_2755 ?_
  refine A_iload C (pc := 2756) 5 rfl dL_law_2756 ?_
  refine A_iconst C (pc := 2758) ic_2 dL_law_2758 ?_
  refine A_iadd C (pc := 2759) dL_law_2759 ?_
  refine A_sld C (pc := 2760) hXs hbl hbA h2 e2 dL_law_2760 ?_
  refine A_aload_n C (pc := 2761) 0 rfl dL_law_2761 ?_
  refine A_iload C (pc := 2762) 5 rfl dL_law_2762 ?_
  refine A_iconst C (pc := 2764) ic_3 dL_law_2764 ?_
  refine A_iadd C (pc := 2765) dL_law_2765 ?_
  refine A_sld C (pc := 2766) hXs hbl hbA h3 e3 dL_law_2766 ?_
  refine A_i2c C (pc := 2767) dL_law_2767 ?_
  refine A_aload_n C (pc := 2768) 3 rfl dL_law_2768 ?_
  obtain ⟨z2769, h2769, hf⟩ := bd_i hf
  refine L_callS C (pc := 2769) hX (A := [.ref (B + 0), .int a1, .int a2, .int ((a3.toUInt32 % 65536).toInt32), .ref (B + 110)]) (rest := []) kl_L_310 kw_L_near (m_L_near l hl9 B D Y o h2769) rfl rfl (Nat.le_of_ble_eq_true rfl) ⟨rfl, rfl, Nat.le_of_ble_eq_true rfl, Nat.le_of_ble_eq_true rfl⟩ ⟨by omega, by omega⟩ dL_law_2769 ?_
  refine A_istore C (pc := 2772) [(0, .ref b), (1, .ref (B + 0)), (2, .ref (B + 47)), (3, .ref (B + 110)), (4, .ref (B + 111)), (5, .int x5), (6, .int z2769.1)] (by decide) [1, 2, 3, 4, 5, 6, 0] rfl dL_law_2772 ?_
  refine A_aload_n C (pc := 2774) 2 rfl dL_law_2774 ?_
  refine A_aload_n C (pc := 2775) 0 rfl dL_law_2775 ?_
  refine A_iload C (pc := 2776) 5 rfl dL_law_2776 ?_
  refine A_iconst C (pc := 2778) ic_1 dL_law_2778 ?_
  refine A_iadd C (pc := 2779) dL_law_2779 ?_
  refine A_sld C (pc := 2780) hXs hbl hbA h1 e1 dL_law_2780 ?_
  refine A_aload_n C (pc := 2781) 0 rfl dL_law_2781 ?_
  refine A_iload C (pc := 2782) 5 rfl dL_law_2782 ?_
  refine A_iconst C (pc := 2784) ic_2 dL_law_2784 ?_
  refine A_iadd C (pc := 2785) dL_law_2785 ?_
  refine A_sld C (pc := 2786) hXs hbl hbA h2 e2 dL_law_2786 ?_
  refine A_aload_n C (pc := 2787) 0 rfl dL_law_2787 ?_
  refine A_iload C (pc := 2788) 5 rfl dL_law_2788 ?_
  refine A_iconst C (pc := 2790) ic_3 dL_law_2790 ?_
  refine A_iadd C (pc := 2791) dL_law_2791 ?_
  refine A_sld C (pc := 2792) hXs hbl hbA h3 e3 dL_law_2792 ?_
  refine A_i2c C (pc := 2793) dL_law_2793 ?_
  obtain ⟨z2794, h2794, hf⟩ := bd_i hf
  refine A_callV1 C (pc := 2794) (A := [.int a1, .int a2, .int ((a3.toUInt32 % 65536).toInt32)]) (rest := []) k_L_313 ky_X7_near kv_X7_near (m_X7_near l B D Y _ h2794) (by decide) rfl rfl rfl rfl (Nat.le_of_ble_eq_true rfl) ⟨rfl, rfl, Nat.le_of_ble_eq_true rfl, Nat.le_of_ble_eq_true rfl⟩ ⟨by omega, by omega⟩ dL_law_2794 ?_
  refine A_istore C (pc := 2797) [(0, .ref b), (1, .ref (B + 0)), (2, .ref (B + 47)), (3, .ref (B + 110)), (4, .ref (B + 111)), (5, .int x5), (6, .int z2769.1), (7, .int z2794.1)] (by decide) [1, 2, 3, 4, 5, 6, 7, 0] rfl dL_law_2797 ?_
  refine A_aload_n C (pc := 2799) 2 rfl dL_law_2799 ?_
  obtain ⟨z2800, h2800, hf⟩ := bd_i hf
  refine A_callV1 C (pc := 2800) (A := []) (rest := []) k_L_198 ky_X7_thrown kv_X7_thrown (m_X7_thrown l B D Y _ h2800) (by decide) rfl rfl rfl rfl (Nat.le_of_ble_eq_true rfl) ⟨rfl, rfl, Nat.le_of_ble_eq_true rfl, Nat.le_of_ble_eq_true rfl⟩ ⟨by omega, by omega⟩ dL_law_2800 ?_
  refine A_iload C (pc := 2803) 6 rfl dL_law_2803 ?_
  refine A_icmp_eq C (pc := 2805) 2810 (by decide) dL_law_2805 hf (fun _ hf => ?_) (fun _ hf => ?_)
  · refine A_iload C (pc := 2810) 6 rfl dL_law_2810 ?_
    refine A_if_ne C (pc := 2812) 2827 (by decide) dL_law_2812 hf (fun _ hf => ?_) (fun _ hf => ?_)
    · refine A_goto C (pc := 2827) 4081 (by decide) dL_law_2827 ?_
      cases hf
      refine A_sub [0, 1, 2, 3, 4, 5] rfl ?_
      exact A_widen (by omega) (by omega) (K _)
    · refine A_aload_n C (pc := 2815) 3 rfl dL_law_2815 ?_
      refine A_iconst C (pc := 2816) ic_0 dL_law_2816 ?_
      obtain ⟨w2817, e2817, hf⟩ := bd_i hf
      refine A_laldO C (pc := 2817) e2817 dL_law_2817 ?_
      refine A_iload C (pc := 2818) 7 rfl dL_law_2818 ?_
      refine A_i2l C (pc := 2820) dL_law_2820 ?_
      refine A_lcmp C (pc := 2821) dL_law_2821 ?_
      refine A_if_eq C (pc := 2822) 2827 (by decide) dL_law_2822 hf (fun _ hf => ?_) (fun _ hf => ?_)
      · refine A_goto C (pc := 2827) 4081 (by decide) dL_law_2827 ?_
        cases hf
        refine A_sub [0, 1, 2, 3, 4, 5] rfl ?_
        exact A_widen (by omega) (by omega) (K _)
      · refine A_iconst C (pc := 2825) ic_0 dL_law_2825 ?_
        cases hf
  · refine A_iconst C (pc := 2808) ic_0 dL_law_2808 ?_
    cases hf
set_option maxRecDepth 100000 in
theorem w_law_37 (C : Cx p s m args c cL_law 9 RL B D Y) (hX : XI B s) (hl9 : l.stackTraces = false) (hXs : va_X b LN xs s s.heap) (hbl : b < s.heap.size) (hbA : ¬ B ≤ b) {M M2 : Mem} {x5 a1 a2 a3 : Int32} (h1 : vp_in (x5 + 1) LN) (h2 : vp_in (x5 + 2) LN) (h3 : vp_in (x5 + 3) LN) (e1 : xs (x5 + 1).toNatClampNeg = a1) (e2 : xs (x5 + 2).toNatClampNeg = a2) (e3 : xs (x5 + 3).toNatClampNeg = a3) (hkc : k + 4 ≤ room_1.cells) (hks : sl + 24 ≤ room_1.slots) (hf : f_law_37 M a1 a2 a3 = some (some M2)) (K : ∀ o2, At p l e room_1 s m args below meth c 9 (k + 4) (sl + 24) Q B D Y o2 4081 M2 [(0, .ref b), (1, .ref (B + 0)), (2, .ref (B + 47)), (3, .ref (B + 110)), (4, .ref (B + 111)), (5, .int x5)] []) : At p l e room_1 s m args below meth c 9 k sl Q B D Y o 2830 M [(0, .ref b), (1, .ref (B + 0)), (2, .ref (B + 47)), (3, .ref (B + 110)), (4, .ref (B + 111)), (5, .int x5)] [] := by
  dsimp only [f_law_37] at hf
  refine A_aload_n C (pc := 2830) 1 rfl dL_law_2830 ?_
  refine A_aload_n C (pc := 2831) 0 rfl dL_law_2831 ?_
  refine A_iload C (pc := 2832) 5 rfl dL_law_2832 ?_
  refine A_iconst C (pc := 2834) ic_1 dL_law_2834 ?_
  refine A_iadd C (pc := 2835) dL_law_2835 ?_
  refine A_sld C (pc := 2836) hXs hbl hbA h1 e1 dL_law_2836 ?_
  refine A_aload_n C (pc := 2837) 0 rfl dL_law_2837 ?_
  refine A_iload C (pc := 2838) 5 rfl dL_law_2838 ?_
  refine A_iconst C (pc := 2840) ic_2 dL_law_2840 ?_
  refine A_iadd C (pc := 2841) dL_law_2841 ?_
  refine A_sld C (pc := 2842) hXs hbl hbA h2 e2 dL_law_2842 ?_
  refine A_aload_n C (pc := 2843) 3 rfl dL_law_2843 ?_
  obtain ⟨z2844, h2844, hf⟩ := bd_i hf
  refine L_callS C (pc := 2844) hX (A := [.ref (B + 0), .int a1, .int a2, .ref (B + 110)]) (rest := []) kl_L_314 kw_L_closed (m_L_closed l hl9 B D Y o h2844) rfl rfl (Nat.le_of_ble_eq_true rfl) ⟨rfl, rfl, Nat.le_of_ble_eq_true rfl, Nat.le_of_ble_eq_true rfl⟩ ⟨by omega, by omega⟩ dL_law_2844 ?_
  refine A_istore C (pc := 2847) [(0, .ref b), (1, .ref (B + 0)), (2, .ref (B + 47)), (3, .ref (B + 110)), (4, .ref (B + 111)), (5, .int x5), (6, .int z2844.1)] (by decide) [1, 2, 3, 4, 5, 6, 0] rfl dL_law_2847 ?_
  refine A_aload_n C (pc := 2849) 2 rfl dL_law_2849 ?_
  refine A_aload_n C (pc := 2850) 0 rfl dL_law_2850 ?_
  refine A_iload C (pc := 2851) 5 rfl dL_law_2851 ?_
  refine A_iconst C (pc := 2853) ic_1 dL_law_2853 ?_
  refine A_iadd C (pc := 2854) dL_law_2854 ?_
  refine A_sld C (pc := 2855) hXs hbl hbA h1 e1 dL_law_2855 ?_
  refine A_aload_n C (pc := 2856) 0 rfl dL_law_2856 ?_
  refine A_iload C (pc := 2857) 5 rfl dL_law_2857 ?_
  refine A_iconst C (pc := 2859) ic_2 dL_law_2859 ?_
  refine A_iadd C (pc := 2860) dL_law_2860 ?_
  refine A_sld C (pc := 2861) hXs hbl hbA h2 e2 dL_law_2861 ?_
  obtain ⟨z2862, h2862, hf⟩ := bd_i hf
  refine A_callV1 C (pc := 2862) (A := [.int a1, .int a2]) (rest := []) k_L_316 ky_X7_closed kv_X7_closed (m_X7_closed l B D Y _ h2862) (by decide) rfl rfl rfl rfl (Nat.le_of_ble_eq_true rfl) ⟨rfl, rfl, Nat.le_of_ble_eq_true rfl, Nat.le_of_ble_eq_true rfl⟩ ⟨by omega, by omega⟩ dL_law_2862 ?_
  refine A_istore C (pc := 2865) [(0, .ref b), (1, .ref (B + 0)), (2, .ref (B + 47)), (3, .ref (B + 110)), (4, .ref (B + 111)), (5, .int x5), (6, .int z2844.1), (7, .int z2862.1)] (by decide) [1, 2, 3, 4, 5, 6, 7, 0] rfl dL_law_2865 ?_
  refine A_aload_n C (pc := 2867) 2 rfl dL_law_2867 ?_
  obtain ⟨z2868, h2868, hf⟩ := bd_i hf
  refine A_callV1 C (pc := 2868) (A := []) (rest := []) k_L_198 ky_X7_thrown kv_X7_thrown (m_X7_thrown l B D Y _ h2868) (by decide) rfl rfl rfl rfl (Nat.le_of_ble_eq_true rfl) ⟨rfl, rfl, Nat.le_of_ble_eq_true rfl, Nat.le_of_ble_eq_true rfl⟩ ⟨by omega, by omega⟩ dL_law_2868 ?_
  refine A_iload C (pc := 2871) 6 rfl dL_law_2871 ?_
  refine A_icmp_eq C (pc := 2873) 2878 (by decide) dL_law_2873 hf (fun _ hf => ?_) (fun _ hf => ?_)
  · refine A_iload C (pc := 2878) 6 rfl dL_law_2878 ?_
    refine A_if_ne C (pc := 2880) 2895 (by decide) dL_law_2880 hf (fun _ hf => ?_) (fun _ hf => ?_)
    · refine A_goto C (pc := 2895) 4081 (by decide) dL_law_2895 ?_
      cases hf
      refine A_sub [0, 1, 2, 3, 4, 5] rfl ?_
      exact A_widen (by omega) (by omega) (K _)
    · refine A_aload_n C (pc := 2883) 3 rfl dL_law_2883 ?_
      refine A_iconst C (pc := 2884) ic_0 dL_law_2884 ?_
      obtain ⟨w2885, e2885, hf⟩ := bd_i hf
      refine A_laldO C (pc := 2885) e2885 dL_law_2885 ?_
      refine A_iload C (pc := 2886) 7 rfl dL_law_2886 ?_
      refine A_i2l C (pc := 2888) dL_law_2888 ?_
      refine A_lcmp C (pc := 2889) dL_law_2889 ?_
      refine A_if_eq C (pc := 2890) 2895 (by decide) dL_law_2890 hf (fun _ hf => ?_) (fun _ hf => ?_)
      · refine A_goto C (pc := 2895) 4081 (by decide) dL_law_2895 ?_
        cases hf
        refine A_sub [0, 1, 2, 3, 4, 5] rfl ?_
        exact A_widen (by omega) (by omega) (K _)
      · refine A_iconst C (pc := 2893) ic_0 dL_law_2893 ?_
        cases hf
  · refine A_iconst C (pc := 2876) ic_0 dL_law_2876 ?_
    cases hf
set_option maxRecDepth 100000 in
theorem w_law_38 (C : Cx p s m args c cL_law 9 RL B D Y) (hX : XI B s) (hl9 : l.stackTraces = false) (hXs : va_X b LN xs s s.heap) (hbl : b < s.heap.size) (hbA : ¬ B ≤ b) {M M2 : Mem} {x5 a1 a2 a3 : Int32} (h1 : vp_in (x5 + 1) LN) (h2 : vp_in (x5 + 2) LN) (h3 : vp_in (x5 + 3) LN) (e1 : xs (x5 + 1).toNatClampNeg = a1) (e2 : xs (x5 + 2).toNatClampNeg = a2) (e3 : xs (x5 + 3).toNatClampNeg = a3) (hkc : k + 4 ≤ room_1.cells) (hks : sl + 24 ≤ room_1.slots) (hf : f_law_38 M a1 a2 a3 = some (some M2)) (K : ∀ o2, At p l e room_1 s m args below meth c 9 (k + 4) (sl + 24) Q B D Y o2 4081 M2 [(0, .ref b), (1, .ref (B + 0)), (2, .ref (B + 47)), (3, .ref (B + 110)), (4, .ref (B + 111)), (5, .int x5)] []) : At p l e room_1 s m args below meth c 9 k sl Q B D Y o 2898 M [(0, .ref b), (1, .ref (B + 0)), (2, .ref (B + 47)), (3, .ref (B + 110)), (4, .ref (B + 111)), (5, .int x5)] [] := by
  dsimp only [f_law_38] at hf
  refine A_aload_n C (pc := 2898) 1 rfl dL_law_2898 ?_
  refine A_aload_n C (pc := 2899) 0 rfl dL_law_2899 ?_
  refine A_iload C (pc := 2900) 5 rfl dL_law_2900 ?_
  refine A_iconst C (pc := 2902) ic_1 dL_law_2902 ?_
  refine A_iadd C (pc := 2903) dL_law_2903 ?_
  refine A_sld C (pc := 2904) hXs hbl hbA h1 e1 dL_law_2904 ?_
  refine A_aload_n C (pc := 2905) 0 rfl dL_law_2905 ?_
  refine A_iload C (pc := 2906) 5 rfl dL_law_2906 ?_
  refine A_iconst C (pc := 2908) ic_2 dL_law_2908 ?_
  refine A_iadd C (pc := 2909) dL_law_2909 ?_
  refine A_sld C (pc := 2910) hXs hbl hbA h2 e2 dL_law_2910 ?_
  refine A_aload_n C (pc := 2911) 3 rfl dL_law_2911 ?_
  obtain ⟨z2912, h2912, hf⟩ := bd_i hf
  refine L_callS C (pc := 2912) hX (A := [.ref (B + 0), .int a1, .int a2, .ref (B + 110)]) (rest := []) kl_L_317 kw_L_inner (m_L_inner l hl9 B D Y o h2912) rfl rfl (Nat.le_of_ble_eq_true rfl) ⟨rfl, rfl, Nat.le_of_ble_eq_true rfl, Nat.le_of_ble_eq_true rfl⟩ ⟨by omega, by omega⟩ dL_law_2912 ?_
  refine A_istore C (pc := 2915) [(0, .ref b), (1, .ref (B + 0)), (2, .ref (B + 47)), (3, .ref (B + 110)), (4, .ref (B + 111)), (5, .int x5), (6, .int z2912.1)] (by decide) [1, 2, 3, 4, 5, 6, 0] rfl dL_law_2915 ?_
  refine A_aload_n C (pc := 2917) 2 rfl dL_law_2917 ?_
  refine A_aload_n C (pc := 2918) 0 rfl dL_law_2918 ?_
  refine A_iload C (pc := 2919) 5 rfl dL_law_2919 ?_
  refine A_iconst C (pc := 2921) ic_1 dL_law_2921 ?_
  refine A_iadd C (pc := 2922) dL_law_2922 ?_
  refine A_sld C (pc := 2923) hXs hbl hbA h1 e1 dL_law_2923 ?_
  refine A_aload_n C (pc := 2924) 0 rfl dL_law_2924 ?_
  refine A_iload C (pc := 2925) 5 rfl dL_law_2925 ?_
  refine A_iconst C (pc := 2927) ic_2 dL_law_2927 ?_
  refine A_iadd C (pc := 2928) dL_law_2928 ?_
  refine A_sld C (pc := 2929) hXs hbl hbA h2 e2 dL_law_2929 ?_
  obtain ⟨z2930, h2930, hf⟩ := bd_i hf
  refine A_callV1 C (pc := 2930) (A := [.int a1, .int a2]) (rest := []) k_L_319 ky_X7_inner kv_X7_inner (m_X7_inner l B D Y _ h2930) (by decide) rfl rfl rfl rfl (Nat.le_of_ble_eq_true rfl) ⟨rfl, rfl, Nat.le_of_ble_eq_true rfl, Nat.le_of_ble_eq_true rfl⟩ ⟨by omega, by omega⟩ dL_law_2930 ?_
  refine A_istore C (pc := 2933) [(0, .ref b), (1, .ref (B + 0)), (2, .ref (B + 47)), (3, .ref (B + 110)), (4, .ref (B + 111)), (5, .int x5), (6, .int z2912.1), (7, .int z2930.1)] (by decide) [1, 2, 3, 4, 5, 6, 7, 0] rfl dL_law_2933 ?_
  refine A_aload_n C (pc := 2935) 2 rfl dL_law_2935 ?_
  obtain ⟨z2936, h2936, hf⟩ := bd_i hf
  refine A_callV1 C (pc := 2936) (A := []) (rest := []) k_L_198 ky_X7_thrown kv_X7_thrown (m_X7_thrown l B D Y _ h2936) (by decide) rfl rfl rfl rfl (Nat.le_of_ble_eq_true rfl) ⟨rfl, rfl, Nat.le_of_ble_eq_true rfl, Nat.le_of_ble_eq_true rfl⟩ ⟨by omega, by omega⟩ dL_law_2936 ?_
  refine A_iload C (pc := 2939) 6 rfl dL_law_2939 ?_
  refine A_icmp_eq C (pc := 2941) 2946 (by decide) dL_law_2941 hf (fun _ hf => ?_) (fun _ hf => ?_)
  · refine A_iload C (pc := 2946) 6 rfl dL_law_2946 ?_
    refine A_if_ne C (pc := 2948) 2963 (by decide) dL_law_2948 hf (fun _ hf => ?_) (fun _ hf => ?_)
    · refine A_goto C (pc := 2963) 4081 (by decide) dL_law_2963 ?_
      cases hf
      refine A_sub [0, 1, 2, 3, 4, 5] rfl ?_
      exact A_widen (by omega) (by omega) (K _)
    · refine A_aload_n C (pc := 2951) 3 rfl dL_law_2951 ?_
      refine A_iconst C (pc := 2952) ic_0 dL_law_2952 ?_
      obtain ⟨w2953, e2953, hf⟩ := bd_i hf
      refine A_laldO C (pc := 2953) e2953 dL_law_2953 ?_
      refine A_iload C (pc := 2954) 7 rfl dL_law_2954 ?_
      refine A_i2l C (pc := 2956) dL_law_2956 ?_
      refine A_lcmp C (pc := 2957) dL_law_2957 ?_
      refine A_if_eq C (pc := 2958) 2963 (by decide) dL_law_2958 hf (fun _ hf => ?_) (fun _ hf => ?_)
      · refine A_goto C (pc := 2963) 4081 (by decide) dL_law_2963 ?_
        cases hf
        refine A_sub [0, 1, 2, 3, 4, 5] rfl ?_
        exact A_widen (by omega) (by omega) (K _)
      · refine A_iconst C (pc := 2961) ic_0 dL_law_2961 ?_
        cases hf
  · refine A_iconst C (pc := 2944) ic_0 dL_law_2944 ?_
    cases hf
set_option maxRecDepth 100000 in
theorem w_law_39 (C : Cx p s m args c cL_law 9 RL B D Y) (hX : XI B s) (hl9 : l.stackTraces = false) (hXs : va_X b LN xs s s.heap) (hbl : b < s.heap.size) (hbA : ¬ B ≤ b) {M M2 : Mem} {x5 a1 a2 a3 : Int32} (h1 : vp_in (x5 + 1) LN) (h2 : vp_in (x5 + 2) LN) (h3 : vp_in (x5 + 3) LN) (e1 : xs (x5 + 1).toNatClampNeg = a1) (e2 : xs (x5 + 2).toNatClampNeg = a2) (e3 : xs (x5 + 3).toNatClampNeg = a3) (hkc : k + 4 ≤ room_1.cells) (hks : sl + 24 ≤ room_1.slots) (hf : f_law_39 M a1 a2 a3 = some (some M2)) (K : ∀ o2, At p l e room_1 s m args below meth c 9 (k + 4) (sl + 24) Q B D Y o2 4081 M2 [(0, .ref b), (1, .ref (B + 0)), (2, .ref (B + 47)), (3, .ref (B + 110)), (4, .ref (B + 111)), (5, .int x5)] []) : At p l e room_1 s m args below meth c 9 k sl Q B D Y o 2966 M [(0, .ref b), (1, .ref (B + 0)), (2, .ref (B + 47)), (3, .ref (B + 110)), (4, .ref (B + 111)), (5, .int x5)] [] := by
  dsimp only [f_law_39] at hf
  refine A_aload_n C (pc := 2966) 1 rfl dL_law_2966 ?_
  refine A_aload_n C (pc := 2967) 0 rfl dL_law_2967 ?_
  refine A_iload C (pc := 2968) 5 rfl dL_law_2968 ?_
  refine A_iconst C (pc := 2970) ic_1 dL_law_2970 ?_
  refine A_iadd C (pc := 2971) dL_law_2971 ?_
  refine A_sld C (pc := 2972) hXs hbl hbA h1 e1 dL_law_2972 ?_
  refine A_aload_n C (pc := 2973) 0 rfl dL_law_2973 ?_
  refine A_iload C (pc := 2974) 5 rfl dL_law_2974 ?_
  refine A_iconst C (pc := 2976) ic_2 dL_law_2976 ?_
  refine A_iadd C (pc := 2977) dL_law_2977 ?_
  refine A_sld C (pc := 2978) hXs hbl hbA h2 e2 dL_law_2978 ?_
  refine A_aload_n C (pc := 2979) 3 rfl dL_law_2979 ?_
  obtain ⟨z2980, h2980, hf⟩ := bd_i hf
  refine L_callS C (pc := 2980) hX (A := [.ref (B + 0), .int a1, .int a2, .ref (B + 110)]) (rest := []) kl_L_320 kw_L_tops (m_L_tops l hl9 B D Y o h2980) rfl rfl (Nat.le_of_ble_eq_true rfl) ⟨rfl, rfl, Nat.le_of_ble_eq_true rfl, Nat.le_of_ble_eq_true rfl⟩ ⟨by omega, by omega⟩ dL_law_2980 ?_
  refine A_istore C (pc := 2983) [(0, .ref b), (1, .ref (B + 0)), (2, .ref (B + 47)), (3, .ref (B + 110)), (4, .ref (B + 111)), (5, .int x5), (6, .int z2980.1)] (by decide) [1, 2, 3, 4, 5, 6, 0] rfl dL_law_2983 ?_
  refine A_aload_n C (pc := 2985) 2 rfl dL_law_2985 ?_
  refine A_aload_n C (pc := 2986) 0 rfl dL_law_2986 ?_
  refine A_iload C (pc := 2987) 5 rfl dL_law_2987 ?_
  refine A_iconst C (pc := 2989) ic_1 dL_law_2989 ?_
  refine A_iadd C (pc := 2990) dL_law_2990 ?_
  refine A_sld C (pc := 2991) hXs hbl hbA h1 e1 dL_law_2991 ?_
  refine A_aload_n C (pc := 2992) 0 rfl dL_law_2992 ?_
  refine A_iload C (pc := 2993) 5 rfl dL_law_2993 ?_
  refine A_iconst C (pc := 2995) ic_2 dL_law_2995 ?_
  refine A_iadd C (pc := 2996) dL_law_2996 ?_
  refine A_sld C (pc := 2997) hXs hbl hbA h2 e2 dL_law_2997 ?_
  obtain ⟨z2998, h2998, hf⟩ := bd_i hf
  refine A_callV1 C (pc := 2998) (A := [.int a1, .int a2]) (rest := []) k_L_322 ky_X7_tops kv_X7_tops (m_X7_tops l B D Y _ h2998) (by decide) rfl rfl rfl rfl (Nat.le_of_ble_eq_true rfl) ⟨rfl, rfl, Nat.le_of_ble_eq_true rfl, Nat.le_of_ble_eq_true rfl⟩ ⟨by omega, by omega⟩ dL_law_2998 ?_
  refine A_istore C (pc := 3001) [(0, .ref b), (1, .ref (B + 0)), (2, .ref (B + 47)), (3, .ref (B + 110)), (4, .ref (B + 111)), (5, .int x5), (6, .int z2980.1), (7, .int z2998.1)] (by decide) [1, 2, 3, 4, 5, 6, 7, 0] rfl dL_law_3001 ?_
  refine A_aload_n C (pc := 3003) 2 rfl dL_law_3003 ?_
  obtain ⟨z3004, h3004, hf⟩ := bd_i hf
  refine A_callV1 C (pc := 3004) (A := []) (rest := []) k_L_198 ky_X7_thrown kv_X7_thrown (m_X7_thrown l B D Y _ h3004) (by decide) rfl rfl rfl rfl (Nat.le_of_ble_eq_true rfl) ⟨rfl, rfl, Nat.le_of_ble_eq_true rfl, Nat.le_of_ble_eq_true rfl⟩ ⟨by omega, by omega⟩ dL_law_3004 ?_
  refine A_iload C (pc := 3007) 6 rfl dL_law_3007 ?_
  refine A_icmp_eq C (pc := 3009) 3014 (by decide) dL_law_3009 hf (fun _ hf => ?_) (fun _ hf => ?_)
  · refine A_iload C (pc := 3014) 6 rfl dL_law_3014 ?_
    refine A_if_ne C (pc := 3016) 3031 (by decide) dL_law_3016 hf (fun _ hf => ?_) (fun _ hf => ?_)
    · refine A_goto C (pc := 3031) 4081 (by decide) dL_law_3031 ?_
      cases hf
      refine A_sub [0, 1, 2, 3, 4, 5] rfl ?_
      exact A_widen (by omega) (by omega) (K _)
    · refine A_aload_n C (pc := 3019) 3 rfl dL_law_3019 ?_
      refine A_iconst C (pc := 3020) ic_0 dL_law_3020 ?_
      obtain ⟨w3021, e3021, hf⟩ := bd_i hf
      refine A_laldO C (pc := 3021) e3021 dL_law_3021 ?_
      refine A_iload C (pc := 3022) 7 rfl dL_law_3022 ?_
      refine A_i2l C (pc := 3024) dL_law_3024 ?_
      refine A_lcmp C (pc := 3025) dL_law_3025 ?_
      refine A_if_eq C (pc := 3026) 3031 (by decide) dL_law_3026 hf (fun _ hf => ?_) (fun _ hf => ?_)
      · refine A_goto C (pc := 3031) 4081 (by decide) dL_law_3031 ?_
        cases hf
        refine A_sub [0, 1, 2, 3, 4, 5] rfl ?_
        exact A_widen (by omega) (by omega) (K _)
      · refine A_iconst C (pc := 3029) ic_0 dL_law_3029 ?_
        cases hf
  · refine A_iconst C (pc := 3012) ic_0 dL_law_3012 ?_
    cases hf
set_option maxRecDepth 100000 in
theorem w_law_40 (C : Cx p s m args c cL_law 9 RL B D Y) (hX : XI B s) (hl9 : l.stackTraces = false) (hXs : va_X b LN xs s s.heap) (hbl : b < s.heap.size) (hbA : ¬ B ≤ b) {M M2 : Mem} {x5 a1 a2 a3 : Int32} (h1 : vp_in (x5 + 1) LN) (h2 : vp_in (x5 + 2) LN) (h3 : vp_in (x5 + 3) LN) (e1 : xs (x5 + 1).toNatClampNeg = a1) (e2 : xs (x5 + 2).toNatClampNeg = a2) (e3 : xs (x5 + 3).toNatClampNeg = a3) (hkc : k + 4 ≤ room_1.cells) (hks : sl + 24 ≤ room_1.slots) (hf : f_law_40 M a1 a2 a3 = some (some M2)) (K : ∀ o2, At p l e room_1 s m args below meth c 9 (k + 4) (sl + 24) Q B D Y o2 4081 M2 [(0, .ref b), (1, .ref (B + 0)), (2, .ref (B + 47)), (3, .ref (B + 110)), (4, .ref (B + 111)), (5, .int x5)] []) : At p l e room_1 s m args below meth c 9 k sl Q B D Y o 3034 M [(0, .ref b), (1, .ref (B + 0)), (2, .ref (B + 47)), (3, .ref (B + 110)), (4, .ref (B + 111)), (5, .int x5)] [] := by
  dsimp only [f_law_40] at hf
  refine A_aload_n C (pc := 3034) 1 rfl dL_law_3034 ?_
  refine A_aload_n C (pc := 3035) 0 rfl dL_law_3035 ?_
  refine A_iload C (pc := 3036) 5 rfl dL_law_3036 ?_
  refine A_iconst C (pc := 3038) ic_1 dL_law_3038 ?_
  refine A_iadd C (pc := 3039) dL_law_3039 ?_
  refine A_sld C (pc := 3040) hXs hbl hbA h1 e1 dL_law_3040 ?_
  refine A_aload_n C (pc := 3041) 0 rfl dL_law_3041 ?_
  refine A_iload C (pc := 3042) 5 rfl dL_law_3042 ?_
  refine A_iconst C (pc := 3044) ic_2 dL_law_3044 ?_
  refine A_iadd C (pc := 3045) dL_law_3045 ?_
  refine A_sld C (pc := 3046) hXs hbl hbA h2 e2 dL_law_3046 ?_
  refine A_aload_n C (pc := 3047) 3 rfl dL_law_3047 ?_
  obtain ⟨z3048, h3048, hf⟩ := bd_i hf
  refine L_callS C (pc := 3048) hX (A := [.ref (B + 0), .int a1, .int a2, .ref (B + 110)]) (rest := []) kl_L_323 kw_L_shared (m_L_shared l hl9 B D Y o h3048) rfl rfl (Nat.le_of_ble_eq_true rfl) ⟨rfl, rfl, Nat.le_of_ble_eq_true rfl, Nat.le_of_ble_eq_true rfl⟩ ⟨by omega, by omega⟩ dL_law_3048 ?_
  refine A_istore C (pc := 3051) [(0, .ref b), (1, .ref (B + 0)), (2, .ref (B + 47)), (3, .ref (B + 110)), (4, .ref (B + 111)), (5, .int x5), (6, .int z3048.1)] (by decide) [1, 2, 3, 4, 5, 6, 0] rfl dL_law_3051 ?_
  refine A_aload_n C (pc := 3053) 2 rfl dL_law_3053 ?_
  refine A_aload_n C (pc := 3054) 0 rfl dL_law_3054 ?_
  refine A_iload C (pc := 3055) 5 rfl dL_law_3055 ?_
  refine A_iconst C (pc := 3057) ic_1 dL_law_3057 ?_
  refine A_iadd C (pc := 3058) dL_law_3058 ?_
  refine A_sld C (pc := 3059) hXs hbl hbA h1 e1 dL_law_3059 ?_
  refine A_aload_n C (pc := 3060) 0 rfl dL_law_3060 ?_
  refine A_iload C (pc := 3061) 5 rfl dL_law_3061 ?_
  refine A_iconst C (pc := 3063) ic_2 dL_law_3063 ?_
  refine A_iadd C (pc := 3064) dL_law_3064 ?_
  refine A_sld C (pc := 3065) hXs hbl hbA h2 e2 dL_law_3065 ?_
  obtain ⟨z3066, h3066, hf⟩ := bd_i hf
  refine A_callV1 C (pc := 3066) (A := [.int a1, .int a2]) (rest := []) k_L_325 ky_X7_shared kv_X7_shared (m_X7_shared l B D Y _ h3066) (by decide) rfl rfl rfl rfl (Nat.le_of_ble_eq_true rfl) ⟨rfl, rfl, Nat.le_of_ble_eq_true rfl, Nat.le_of_ble_eq_true rfl⟩ ⟨by omega, by omega⟩ dL_law_3066 ?_
  refine A_istore C (pc := 3069) [(0, .ref b), (1, .ref (B + 0)), (2, .ref (B + 47)), (3, .ref (B + 110)), (4, .ref (B + 111)), (5, .int x5), (6, .int z3048.1), (7, .int z3066.1)] (by decide) [1, 2, 3, 4, 5, 6, 7, 0] rfl dL_law_3069 ?_
  refine A_aload_n C (pc := 3071) 2 rfl dL_law_3071 ?_
  obtain ⟨z3072, h3072, hf⟩ := bd_i hf
  refine A_callV1 C (pc := 3072) (A := []) (rest := []) k_L_198 ky_X7_thrown kv_X7_thrown (m_X7_thrown l B D Y _ h3072) (by decide) rfl rfl rfl rfl (Nat.le_of_ble_eq_true rfl) ⟨rfl, rfl, Nat.le_of_ble_eq_true rfl, Nat.le_of_ble_eq_true rfl⟩ ⟨by omega, by omega⟩ dL_law_3072 ?_
  refine A_iload C (pc := 3075) 6 rfl dL_law_3075 ?_
  refine A_icmp_eq C (pc := 3077) 3082 (by decide) dL_law_3077 hf (fun _ hf => ?_) (fun _ hf => ?_)
  · refine A_iload C (pc := 3082) 6 rfl dL_law_3082 ?_
    refine A_if_ne C (pc := 3084) 3099 (by decide) dL_law_3084 hf (fun _ hf => ?_) (fun _ hf => ?_)
    · refine A_goto C (pc := 3099) 4081 (by decide) dL_law_3099 ?_
      cases hf
      refine A_sub [0, 1, 2, 3, 4, 5] rfl ?_
      exact A_widen (by omega) (by omega) (K _)
    · refine A_aload_n C (pc := 3087) 3 rfl dL_law_3087 ?_
      refine A_iconst C (pc := 3088) ic_0 dL_law_3088 ?_
      obtain ⟨w3089, e3089, hf⟩ := bd_i hf
      refine A_laldO C (pc := 3089) e3089 dL_law_3089 ?_
      refine A_iload C (pc := 3090) 7 rfl dL_law_3090 ?_
      refine A_i2l C (pc := 3092) dL_law_3092 ?_
      refine A_lcmp C (pc := 3093) dL_law_3093 ?_
      refine A_if_eq C (pc := 3094) 3099 (by decide) dL_law_3094 hf (fun _ hf => ?_) (fun _ hf => ?_)
      · refine A_goto C (pc := 3099) 4081 (by decide) dL_law_3099 ?_
        cases hf
        refine A_sub [0, 1, 2, 3, 4, 5] rfl ?_
        exact A_widen (by omega) (by omega) (K _)
      · refine A_iconst C (pc := 3097) ic_0 dL_law_3097 ?_
        cases hf
  · refine A_iconst C (pc := 3080) ic_0 dL_law_3080 ?_
    cases hf
set_option maxRecDepth 100000 in
theorem w_law_41 (C : Cx p s m args c cL_law 9 RL B D Y) (hX : XI B s) (hl9 : l.stackTraces = false) (hXs : va_X b LN xs s s.heap) (hbl : b < s.heap.size) (hbA : ¬ B ≤ b) {M M2 : Mem} {x5 a1 a2 a3 : Int32} (h1 : vp_in (x5 + 1) LN) (h2 : vp_in (x5 + 2) LN) (h3 : vp_in (x5 + 3) LN) (e1 : xs (x5 + 1).toNatClampNeg = a1) (e2 : xs (x5 + 2).toNatClampNeg = a2) (e3 : xs (x5 + 3).toNatClampNeg = a3) (hkc : k + 4 ≤ room_1.cells) (hks : sl + 24 ≤ room_1.slots) (hf : f_law_41 M a1 a2 a3 = some (some M2)) (K : ∀ o2, At p l e room_1 s m args below meth c 9 (k + 4) (sl + 24) Q B D Y o2 4081 M2 [(0, .ref b), (1, .ref (B + 0)), (2, .ref (B + 47)), (3, .ref (B + 110)), (4, .ref (B + 111)), (5, .int x5)] []) : At p l e room_1 s m args below meth c 9 k sl Q B D Y o 3102 M [(0, .ref b), (1, .ref (B + 0)), (2, .ref (B + 47)), (3, .ref (B + 110)), (4, .ref (B + 111)), (5, .int x5)] [] := by
  dsimp only [f_law_41] at hf
  refine A_aload_n C (pc := 3102) 1 rfl dL_law_3102 ?_
  refine A_aload_n C (pc := 3103) 0 rfl dL_law_3103 ?_
  refine A_iload C (pc := 3104) 5 rfl dL_law_3104 ?_
  refine A_iconst C (pc := 3106) ic_1 dL_law_3106 ?_
  refine A_iadd C (pc := 3107) dL_law_3107 ?_
  refine A_sld C (pc := 3108) hXs hbl hbA h1 e1 dL_law_3108 ?_
  refine A_aload_n C (pc := 3109) 3 rfl dL_law_3109 ?_
  obtain ⟨z3110, h3110, hf⟩ := bd_i hf
  refine L_callS C (pc := 3110) hX (A := [.ref (B + 0), .int a1, .ref (B + 110)]) (rest := []) kl_L_326 kw_L_rows (m_L_rows l hl9 B D Y o h3110) rfl rfl (Nat.le_of_ble_eq_true rfl) ⟨rfl, rfl, Nat.le_of_ble_eq_true rfl, Nat.le_of_ble_eq_true rfl⟩ ⟨by omega, by omega⟩ dL_law_3110 ?_
  refine A_istore C (pc := 3113) [(0, .ref b), (1, .ref (B + 0)), (2, .ref (B + 47)), (3, .ref (B + 110)), (4, .ref (B + 111)), (5, .int x5), (6, .int z3110.1)] (by decide) [1, 2, 3, 4, 5, 6, 0] rfl dL_law_3113 ?_
  refine A_aload_n C (pc := 3115) 2 rfl dL_law_3115 ?_
  refine A_aload_n C (pc := 3116) 0 rfl dL_law_3116 ?_
  refine A_iload C (pc := 3117) 5 rfl dL_law_3117 ?_
  refine A_iconst C (pc := 3119) ic_1 dL_law_3119 ?_
  refine A_iadd C (pc := 3120) dL_law_3120 ?_
  refine A_sld C (pc := 3121) hXs hbl hbA h1 e1 dL_law_3121 ?_
  obtain ⟨z3122, h3122, hf⟩ := bd_i hf
  refine A_callV1 C (pc := 3122) (A := [.int a1]) (rest := []) k_L_328 ky_X7_rows kv_X7_rows (m_X7_rows l B D Y _ h3122) (by decide) rfl rfl rfl rfl (Nat.le_of_ble_eq_true rfl) ⟨rfl, rfl, Nat.le_of_ble_eq_true rfl, Nat.le_of_ble_eq_true rfl⟩ ⟨by omega, by omega⟩ dL_law_3122 ?_
  refine A_istore C (pc := 3125) [(0, .ref b), (1, .ref (B + 0)), (2, .ref (B + 47)), (3, .ref (B + 110)), (4, .ref (B + 111)), (5, .int x5), (6, .int z3110.1), (7, .int z3122.1)] (by decide) [1, 2, 3, 4, 5, 6, 7, 0] rfl dL_law_3125 ?_
  refine A_aload_n C (pc := 3127) 2 rfl dL_law_3127 ?_
  obtain ⟨z3128, h3128, hf⟩ := bd_i hf
  refine A_callV1 C (pc := 3128) (A := []) (rest := []) k_L_198 ky_X7_thrown kv_X7_thrown (m_X7_thrown l B D Y _ h3128) (by decide) rfl rfl rfl rfl (Nat.le_of_ble_eq_true rfl) ⟨rfl, rfl, Nat.le_of_ble_eq_true rfl, Nat.le_of_ble_eq_true rfl⟩ ⟨by omega, by omega⟩ dL_law_3128 ?_
  refine A_iload C (pc := 3131) 6 rfl dL_law_3131 ?_
  refine A_icmp_eq C (pc := 3133) 3138 (by decide) dL_law_3133 hf (fun _ hf => ?_) (fun _ hf => ?_)
  · refine A_iload C (pc := 3138) 6 rfl dL_law_3138 ?_
    refine A_if_ne C (pc := 3140) 3155 (by decide) dL_law_3140 hf (fun _ hf => ?_) (fun _ hf => ?_)
    · refine A_goto C (pc := 3155) 4081 (by decide) dL_law_3155 ?_
      cases hf
      refine A_sub [0, 1, 2, 3, 4, 5] rfl ?_
      exact A_widen (by omega) (by omega) (K _)
    · refine A_aload_n C (pc := 3143) 3 rfl dL_law_3143 ?_
      refine A_iconst C (pc := 3144) ic_0 dL_law_3144 ?_
      obtain ⟨w3145, e3145, hf⟩ := bd_i hf
      refine A_laldO C (pc := 3145) e3145 dL_law_3145 ?_
      refine A_iload C (pc := 3146) 7 rfl dL_law_3146 ?_
      refine A_i2l C (pc := 3148) dL_law_3148 ?_
      refine A_lcmp C (pc := 3149) dL_law_3149 ?_
      refine A_if_eq C (pc := 3150) 3155 (by decide) dL_law_3150 hf (fun _ hf => ?_) (fun _ hf => ?_)
      · refine A_goto C (pc := 3155) 4081 (by decide) dL_law_3155 ?_
        cases hf
        refine A_sub [0, 1, 2, 3, 4, 5] rfl ?_
        exact A_widen (by omega) (by omega) (K _)
      · refine A_iconst C (pc := 3153) ic_0 dL_law_3153 ?_
        cases hf
  · refine A_iconst C (pc := 3136) ic_0 dL_law_3136 ?_
    cases hf
set_option maxRecDepth 100000 in
theorem w_law_42 (C : Cx p s m args c cL_law 9 RL B D Y) (hX : XI B s) (hl9 : l.stackTraces = false) (hXs : va_X b LN xs s s.heap) (hbl : b < s.heap.size) (hbA : ¬ B ≤ b) {M M2 : Mem} {x5 a1 a2 a3 : Int32} (h1 : vp_in (x5 + 1) LN) (h2 : vp_in (x5 + 2) LN) (h3 : vp_in (x5 + 3) LN) (e1 : xs (x5 + 1).toNatClampNeg = a1) (e2 : xs (x5 + 2).toNatClampNeg = a2) (e3 : xs (x5 + 3).toNatClampNeg = a3) (hkc : k + 4 ≤ room_1.cells) (hks : sl + 24 ≤ room_1.slots) (hf : f_law_42 M a1 a2 a3 = some (some M2)) (K : ∀ o2, At p l e room_1 s m args below meth c 9 (k + 4) (sl + 24) Q B D Y o2 4081 M2 [(0, .ref b), (1, .ref (B + 0)), (2, .ref (B + 47)), (3, .ref (B + 110)), (4, .ref (B + 111)), (5, .int x5)] []) : At p l e room_1 s m args below meth c 9 k sl Q B D Y o 3158 M [(0, .ref b), (1, .ref (B + 0)), (2, .ref (B + 47)), (3, .ref (B + 110)), (4, .ref (B + 111)), (5, .int x5)] [] := by
  dsimp only [f_law_42] at hf
  refine A_aload_n C (pc := 3158) 1 rfl dL_law_3158 ?_
  refine A_aload_n C (pc := 3159) 0 rfl dL_law_3159 ?_
  refine A_iload C (pc := 3160) 5 rfl dL_law_3160 ?_
  refine A_iconst C (pc := 3162) ic_1 dL_law_3162 ?_
  refine A_iadd C (pc := 3163) dL_law_3163 ?_
  refine A_sld C (pc := 3164) hXs hbl hbA h1 e1 dL_law_3164 ?_
  refine A_aload_n C (pc := 3165) 0 rfl dL_law_3165 ?_
  refine A_iload C (pc := 3166) 5 rfl dL_law_3166 ?_
  refine A_iconst C (pc := 3168) ic_2 dL_law_3168 ?_
  refine A_iadd C (pc := 3169) dL_law_3169 ?_
  refine A_sld C (pc := 3170) hXs hbl hbA h2 e2 dL_law_3170 ?_
  refine A_aload_n C (pc := 3171) 3 rfl dL_law_3171 ?_
  obtain ⟨z3172, h3172, hf⟩ := bd_i hf
  refine L_callS C (pc := 3172) hX (A := [.ref (B + 0), .int a1, .int a2, .ref (B + 110)]) (rest := []) kl_L_329 kw_L_rowAt (m_L_rowAt l hl9 B D Y o h3172) rfl rfl (Nat.le_of_ble_eq_true rfl) ⟨rfl, rfl, Nat.le_of_ble_eq_true rfl, Nat.le_of_ble_eq_true rfl⟩ ⟨by omega, by omega⟩ dL_law_3172 ?_
  refine A_istore C (pc := 3175) [(0, .ref b), (1, .ref (B + 0)), (2, .ref (B + 47)), (3, .ref (B + 110)), (4, .ref (B + 111)), (5, .int x5), (6, .int z3172.1)] (by decide) [1, 2, 3, 4, 5, 6, 0] rfl dL_law_3175 ?_
  refine A_aload_n C (pc := 3177) 2 rfl dL_law_3177 ?_
  refine A_aload_n C (pc := 3178) 0 rfl dL_law_3178 ?_
  refine A_iload C (pc := 3179) 5 rfl dL_law_3179 ?_
  refine A_iconst C (pc := 3181) ic_1 dL_law_3181 ?_
  refine A_iadd C (pc := 3182) dL_law_3182 ?_
  refine A_sld C (pc := 3183) hXs hbl hbA h1 e1 dL_law_3183 ?_
  refine A_aload_n C (pc := 3184) 0 rfl dL_law_3184 ?_
  refine A_iload C (pc := 3185) 5 rfl dL_law_3185 ?_
  refine A_iconst C (pc := 3187) ic_2 dL_law_3187 ?_
  refine A_iadd C (pc := 3188) dL_law_3188 ?_
  refine A_sld C (pc := 3189) hXs hbl hbA h2 e2 dL_law_3189 ?_
  obtain ⟨z3190, h3190, hf⟩ := bd_i hf
  refine A_callV1 C (pc := 3190) (A := [.int a1, .int a2]) (rest := []) k_L_331 ky_X7_rowAt kv_X7_rowAt (m_X7_rowAt l B D Y _ h3190) (by decide) rfl rfl rfl rfl (Nat.le_of_ble_eq_true rfl) ⟨rfl, rfl, Nat.le_of_ble_eq_true rfl, Nat.le_of_ble_eq_true rfl⟩ ⟨by omega, by omega⟩ dL_law_3190 ?_
  refine A_istore C (pc := 3193) [(0, .ref b), (1, .ref (B + 0)), (2, .ref (B + 47)), (3, .ref (B + 110)), (4, .ref (B + 111)), (5, .int x5), (6, .int z3172.1), (7, .int z3190.1)] (by decide) [1, 2, 3, 4, 5, 6, 7, 0] rfl dL_law_3193 ?_
  refine A_aload_n C (pc := 3195) 2 rfl dL_law_3195 ?_
  obtain ⟨z3196, h3196, hf⟩ := bd_i hf
  refine A_callV1 C (pc := 3196) (A := []) (rest := []) k_L_198 ky_X7_thrown kv_X7_thrown (m_X7_thrown l B D Y _ h3196) (by decide) rfl rfl rfl rfl (Nat.le_of_ble_eq_true rfl) ⟨rfl, rfl, Nat.le_of_ble_eq_true rfl, Nat.le_of_ble_eq_true rfl⟩ ⟨by omega, by omega⟩ dL_law_3196 ?_
  refine A_iload C (pc := 3199) 6 rfl dL_law_3199 ?_
  refine A_icmp_eq C (pc := 3201) 3206 (by decide) dL_law_3201 hf (fun _ hf => ?_) (fun _ hf => ?_)
  · refine A_iload C (pc := 3206) 6 rfl dL_law_3206 ?_
    refine A_if_ne C (pc := 3208) 3223 (by decide) dL_law_3208 hf (fun _ hf => ?_) (fun _ hf => ?_)
    · refine A_goto C (pc := 3223) 4081 (by decide) dL_law_3223 ?_
      cases hf
      refine A_sub [0, 1, 2, 3, 4, 5] rfl ?_
      exact A_widen (by omega) (by omega) (K _)
    · refine A_aload_n C (pc := 3211) 3 rfl dL_law_3211 ?_
      refine A_iconst C (pc := 3212) ic_0 dL_law_3212 ?_
      obtain ⟨w3213, e3213, hf⟩ := bd_i hf
      refine A_laldO C (pc := 3213) e3213 dL_law_3213 ?_
      refine A_iload C (pc := 3214) 7 rfl dL_law_3214 ?_
      refine A_i2l C (pc := 3216) dL_law_3216 ?_
      refine A_lcmp C (pc := 3217) dL_law_3217 ?_
      refine A_if_eq C (pc := 3218) 3223 (by decide) dL_law_3218 hf (fun _ hf => ?_) (fun _ hf => ?_)
      · refine A_goto C (pc := 3223) 4081 (by decide) dL_law_3223 ?_
        cases hf
        refine A_sub [0, 1, 2, 3, 4, 5] rfl ?_
        exact A_widen (by omega) (by omega) (K _)
      · refine A_iconst C (pc := 3221) ic_0 dL_law_3221 ?_
        cases hf
  · refine A_iconst C (pc := 3204) ic_0 dL_law_3204 ?_
    cases hf
set_option maxRecDepth 100000 in
theorem w_law_43 (C : Cx p s m args c cL_law 9 RL B D Y) (hX : XI B s) (hl9 : l.stackTraces = false) (hXs : va_X b LN xs s s.heap) (hbl : b < s.heap.size) (hbA : ¬ B ≤ b) {M M2 : Mem} {x5 a1 a2 a3 : Int32} (h1 : vp_in (x5 + 1) LN) (h2 : vp_in (x5 + 2) LN) (h3 : vp_in (x5 + 3) LN) (e1 : xs (x5 + 1).toNatClampNeg = a1) (e2 : xs (x5 + 2).toNatClampNeg = a2) (e3 : xs (x5 + 3).toNatClampNeg = a3) (hkc : k + 4 ≤ room_1.cells) (hks : sl + 24 ≤ room_1.slots) (hf : f_law_43 M a1 a2 a3 = some (some M2)) (K : ∀ o2, At p l e room_1 s m args below meth c 9 (k + 4) (sl + 24) Q B D Y o2 4081 M2 [(0, .ref b), (1, .ref (B + 0)), (2, .ref (B + 47)), (3, .ref (B + 110)), (4, .ref (B + 111)), (5, .int x5)] []) : At p l e room_1 s m args below meth c 9 k sl Q B D Y o 3226 M [(0, .ref b), (1, .ref (B + 0)), (2, .ref (B + 47)), (3, .ref (B + 110)), (4, .ref (B + 111)), (5, .int x5)] [] := by
  dsimp only [f_law_43] at hf
  refine A_aload_n C (pc := 3226) 1 rfl dL_law_3226 ?_
  refine A_aload_n C (pc := 3227) 0 rfl dL_law_3227 ?_
  refine A_iload C (pc := 3228) 5 rfl dL_law_3228 ?_
  refine A_iconst C (pc := 3230) ic_1 dL_law_3230 ?_
  refine A_iadd C (pc := 3231) dL_law_3231 ?_
  refine A_sld C (pc := 3232) hXs hbl hbA h1 e1 dL_law_3232 ?_
  refine A_aload_n C (pc := 3233) 0 rfl dL_law_3233 ?_
  refine A_iload C (pc := 3234) 5 rfl dL_law_3234 ?_
  refine A_iconst C (pc := 3236) ic_2 dL_law_3236 ?_
  refine A_iadd C (pc := 3237) dL_law_3237 ?_
  refine A_sld C (pc := 3238) hXs hbl hbA h2 e2 dL_law_3238 ?_
  refine A_aload_n C (pc := 3239) 3 rfl dL_law_3239 ?_
  obtain ⟨z3240, h3240, hf⟩ := bd_i hf
  refine L_callS C (pc := 3240) hX (A := [.ref (B + 0), .int a1, .int a2, .ref (B + 110)]) (rest := []) kl_L_332 kw_L_rowPlace (m_L_rowPlace l hl9 B D Y o h3240) rfl rfl (Nat.le_of_ble_eq_true rfl) ⟨rfl, rfl, Nat.le_of_ble_eq_true rfl, Nat.le_of_ble_eq_true rfl⟩ ⟨by omega, by omega⟩ dL_law_3240 ?_
  refine A_istore C (pc := 3243) [(0, .ref b), (1, .ref (B + 0)), (2, .ref (B + 47)), (3, .ref (B + 110)), (4, .ref (B + 111)), (5, .int x5), (6, .int z3240.1)] (by decide) [1, 2, 3, 4, 5, 6, 0] rfl dL_law_3243 ?_
  refine A_aload_n C (pc := 3245) 2 rfl dL_law_3245 ?_
  refine A_aload_n C (pc := 3246) 0 rfl dL_law_3246 ?_
  refine A_iload C (pc := 3247) 5 rfl dL_law_3247 ?_
  refine A_iconst C (pc := 3249) ic_1 dL_law_3249 ?_
  refine A_iadd C (pc := 3250) dL_law_3250 ?_
  refine A_sld C (pc := 3251) hXs hbl hbA h1 e1 dL_law_3251 ?_
  refine A_aload_n C (pc := 3252) 0 rfl dL_law_3252 ?_
  refine A_iload C (pc := 3253) 5 rfl dL_law_3253 ?_
  refine A_iconst C (pc := 3255) ic_2 dL_law_3255 ?_
  refine A_iadd C (pc := 3256) dL_law_3256 ?_
  refine A_sld C (pc := 3257) hXs hbl hbA h2 e2 dL_law_3257 ?_
  obtain ⟨z3258, h3258, hf⟩ := bd_i hf
  refine A_callV1 C (pc := 3258) (A := [.int a1, .int a2]) (rest := []) k_L_334 ky_X7_rowPlace kv_X7_rowPlace (m_X7_rowPlace l B D Y _ h3258) (by decide) rfl rfl rfl rfl (Nat.le_of_ble_eq_true rfl) ⟨rfl, rfl, Nat.le_of_ble_eq_true rfl, Nat.le_of_ble_eq_true rfl⟩ ⟨by omega, by omega⟩ dL_law_3258 ?_
  refine A_istore C (pc := 3261) [(0, .ref b), (1, .ref (B + 0)), (2, .ref (B + 47)), (3, .ref (B + 110)), (4, .ref (B + 111)), (5, .int x5), (6, .int z3240.1), (7, .int z3258.1)] (by decide) [1, 2, 3, 4, 5, 6, 7, 0] rfl dL_law_3261 ?_
  refine A_aload_n C (pc := 3263) 2 rfl dL_law_3263 ?_
  obtain ⟨z3264, h3264, hf⟩ := bd_i hf
  refine A_callV1 C (pc := 3264) (A := []) (rest := []) k_L_198 ky_X7_thrown kv_X7_thrown (m_X7_thrown l B D Y _ h3264) (by decide) rfl rfl rfl rfl (Nat.le_of_ble_eq_true rfl) ⟨rfl, rfl, Nat.le_of_ble_eq_true rfl, Nat.le_of_ble_eq_true rfl⟩ ⟨by omega, by omega⟩ dL_law_3264 ?_
  refine A_iload C (pc := 3267) 6 rfl dL_law_3267 ?_
  refine A_icmp_eq C (pc := 3269) 3274 (by decide) dL_law_3269 hf (fun _ hf => ?_) (fun _ hf => ?_)
  · refine A_iload C (pc := 3274) 6 rfl dL_law_3274 ?_
    refine A_if_ne C (pc := 3276) 3291 (by decide) dL_law_3276 hf (fun _ hf => ?_) (fun _ hf => ?_)
    · refine A_goto C (pc := 3291) 4081 (by decide) dL_law_3291 ?_
      cases hf
      refine A_sub [0, 1, 2, 3, 4, 5] rfl ?_
      exact A_widen (by omega) (by omega) (K _)
    · refine A_aload_n C (pc := 3279) 3 rfl dL_law_3279 ?_
      refine A_iconst C (pc := 3280) ic_0 dL_law_3280 ?_
      obtain ⟨w3281, e3281, hf⟩ := bd_i hf
      refine A_laldO C (pc := 3281) e3281 dL_law_3281 ?_
      refine A_iload C (pc := 3282) 7 rfl dL_law_3282 ?_
      refine A_i2l C (pc := 3284) dL_law_3284 ?_
      refine A_lcmp C (pc := 3285) dL_law_3285 ?_
      refine A_if_eq C (pc := 3286) 3291 (by decide) dL_law_3286 hf (fun _ hf => ?_) (fun _ hf => ?_)
      · refine A_goto C (pc := 3291) 4081 (by decide) dL_law_3291 ?_
        cases hf
        refine A_sub [0, 1, 2, 3, 4, 5] rfl ?_
        exact A_widen (by omega) (by omega) (K _)
      · refine A_iconst C (pc := 3289) ic_0 dL_law_3289 ?_
        cases hf
  · refine A_iconst C (pc := 3272) ic_0 dL_law_3272 ?_
    cases hf
set_option maxRecDepth 100000 in
theorem w_law_44 (C : Cx p s m args c cL_law 9 RL B D Y) (hX : XI B s) (hl9 : l.stackTraces = false) (hXs : va_X b LN xs s s.heap) (hbl : b < s.heap.size) (hbA : ¬ B ≤ b) {M M2 : Mem} {x5 a1 a2 a3 : Int32} (h1 : vp_in (x5 + 1) LN) (h2 : vp_in (x5 + 2) LN) (h3 : vp_in (x5 + 3) LN) (e1 : xs (x5 + 1).toNatClampNeg = a1) (e2 : xs (x5 + 2).toNatClampNeg = a2) (e3 : xs (x5 + 3).toNatClampNeg = a3) (hkc : k + 4 ≤ room_1.cells) (hks : sl + 24 ≤ room_1.slots) (hf : f_law_44 M a1 a2 a3 = some (some M2)) (K : ∀ o2, At p l e room_1 s m args below meth c 9 (k + 4) (sl + 24) Q B D Y o2 4081 M2 [(0, .ref b), (1, .ref (B + 0)), (2, .ref (B + 47)), (3, .ref (B + 110)), (4, .ref (B + 111)), (5, .int x5)] []) : At p l e room_1 s m args below meth c 9 k sl Q B D Y o 3294 M [(0, .ref b), (1, .ref (B + 0)), (2, .ref (B + 47)), (3, .ref (B + 110)), (4, .ref (B + 111)), (5, .int x5)] [] := by
  dsimp only [f_law_44] at hf
  refine A_aload_n C (pc := 3294) 1 rfl dL_law_3294 ?_
  refine A_aload_n C (pc := 3295) 0 rfl dL_law_3295 ?_
  refine A_iload C (pc := 3296) 5 rfl dL_law_3296 ?_
  refine A_iconst C (pc := 3298) ic_1 dL_law_3298 ?_
  refine A_iadd C (pc := 3299) dL_law_3299 ?_
  refine A_sld C (pc := 3300) hXs hbl hbA h1 e1 dL_law_3300 ?_
  refine A_aload_n C (pc := 3301) 0 rfl dL_law_3301 ?_
  refine A_iload C (pc := 3302) 5 rfl dL_law_3302 ?_
  refine A_iconst C (pc := 3304) ic_2 dL_law_3304 ?_
  refine A_iadd C (pc := 3305) dL_law_3305 ?_
  refine A_sld C (pc := 3306) hXs hbl hbA h2 e2 dL_law_3306 ?_
  refine A_aload_n C (pc := 3307) 3 rfl dL_law_3307 ?_
  obtain ⟨z3308, h3308, hf⟩ := bd_i hf
  refine L_callS C (pc := 3308) hX (A := [.ref (B + 0), .int a1, .int a2, .ref (B + 110)]) (rest := []) kl_L_335 kw_L_nextRow (m_L_nextRow l hl9 B D Y o h3308) rfl rfl (Nat.le_of_ble_eq_true rfl) ⟨rfl, rfl, Nat.le_of_ble_eq_true rfl, Nat.le_of_ble_eq_true rfl⟩ ⟨by omega, by omega⟩ dL_law_3308 ?_
  refine A_istore C (pc := 3311) [(0, .ref b), (1, .ref (B + 0)), (2, .ref (B + 47)), (3, .ref (B + 110)), (4, .ref (B + 111)), (5, .int x5), (6, .int z3308.1)] (by decide) [1, 2, 3, 4, 5, 6, 0] rfl dL_law_3311 ?_
  refine A_aload_n C (pc := 3313) 2 rfl dL_law_3313 ?_
  refine A_aload_n C (pc := 3314) 0 rfl dL_law_3314 ?_
  refine A_iload C (pc := 3315) 5 rfl dL_law_3315 ?_
  refine A_iconst C (pc := 3317) ic_1 dL_law_3317 ?_
  refine A_iadd C (pc := 3318) dL_law_3318 ?_
  refine A_sld C (pc := 3319) hXs hbl hbA h1 e1 dL_law_3319 ?_
  refine A_aload_n C (pc := 3320) 0 rfl dL_law_3320 ?_
  refine A_iload C (pc := 3321) 5 rfl dL_law_3321 ?_
  refine A_iconst C (pc := 3323) ic_2 dL_law_3323 ?_
  refine A_iadd C (pc := 3324) dL_law_3324 ?_
  refine A_sld C (pc := 3325) hXs hbl hbA h2 e2 dL_law_3325 ?_
  obtain ⟨z3326, h3326, hf⟩ := bd_i hf
  refine A_callV1 C (pc := 3326) (A := [.int a1, .int a2]) (rest := []) k_L_337 ky_X7_nextRow kv_X7_nextRow (m_X7_nextRow l B D Y _ h3326) (by decide) rfl rfl rfl rfl (Nat.le_of_ble_eq_true rfl) ⟨rfl, rfl, Nat.le_of_ble_eq_true rfl, Nat.le_of_ble_eq_true rfl⟩ ⟨by omega, by omega⟩ dL_law_3326 ?_
  refine A_istore C (pc := 3329) [(0, .ref b), (1, .ref (B + 0)), (2, .ref (B + 47)), (3, .ref (B + 110)), (4, .ref (B + 111)), (5, .int x5), (6, .int z3308.1), (7, .int z3326.1)] (by decide) [1, 2, 3, 4, 5, 6, 7, 0] rfl dL_law_3329 ?_
  refine A_aload_n C (pc := 3331) 2 rfl dL_law_3331 ?_
  obtain ⟨z3332, h3332, hf⟩ := bd_i hf
  refine A_callV1 C (pc := 3332) (A := []) (rest := []) k_L_198 ky_X7_thrown kv_X7_thrown (m_X7_thrown l B D Y _ h3332) (by decide) rfl rfl rfl rfl (Nat.le_of_ble_eq_true rfl) ⟨rfl, rfl, Nat.le_of_ble_eq_true rfl, Nat.le_of_ble_eq_true rfl⟩ ⟨by omega, by omega⟩ dL_law_3332 ?_
  refine A_iload C (pc := 3335) 6 rfl dL_law_3335 ?_
  refine A_icmp_eq C (pc := 3337) 3342 (by decide) dL_law_3337 hf (fun _ hf => ?_) (fun _ hf => ?_)
  · refine A_iload C (pc := 3342) 6 rfl dL_law_3342 ?_
    refine A_if_ne C (pc := 3344) 3359 (by decide) dL_law_3344 hf (fun _ hf => ?_) (fun _ hf => ?_)
    · refine A_goto C (pc := 3359) 4081 (by decide) dL_law_3359 ?_
      cases hf
      refine A_sub [0, 1, 2, 3, 4, 5] rfl ?_
      exact A_widen (by omega) (by omega) (K _)
    · refine A_aload_n C (pc := 3347) 3 rfl dL_law_3347 ?_
      refine A_iconst C (pc := 3348) ic_0 dL_law_3348 ?_
      obtain ⟨w3349, e3349, hf⟩ := bd_i hf
      refine A_laldO C (pc := 3349) e3349 dL_law_3349 ?_
      refine A_iload C (pc := 3350) 7 rfl dL_law_3350 ?_
      refine A_i2l C (pc := 3352) dL_law_3352 ?_
      refine A_lcmp C (pc := 3353) dL_law_3353 ?_
      refine A_if_eq C (pc := 3354) 3359 (by decide) dL_law_3354 hf (fun _ hf => ?_) (fun _ hf => ?_)
      · refine A_goto C (pc := 3359) 4081 (by decide) dL_law_3359 ?_
        cases hf
        refine A_sub [0, 1, 2, 3, 4, 5] rfl ?_
        exact A_widen (by omega) (by omega) (K _)
      · refine A_iconst C (pc := 3357) ic_0 dL_law_3357 ?_
        cases hf
  · refine A_iconst C (pc := 3340) ic_0 dL_law_3340 ?_
    cases hf
set_option maxRecDepth 100000 in
theorem w_law_45 (C : Cx p s m args c cL_law 9 RL B D Y) (hX : XI B s) (hl9 : l.stackTraces = false) (hXs : va_X b LN xs s s.heap) (hbl : b < s.heap.size) (hbA : ¬ B ≤ b) {M M2 : Mem} {x5 a1 a2 a3 : Int32} (h1 : vp_in (x5 + 1) LN) (h2 : vp_in (x5 + 2) LN) (h3 : vp_in (x5 + 3) LN) (e1 : xs (x5 + 1).toNatClampNeg = a1) (e2 : xs (x5 + 2).toNatClampNeg = a2) (e3 : xs (x5 + 3).toNatClampNeg = a3) (hkc : k + 4 ≤ room_1.cells) (hks : sl + 24 ≤ room_1.slots) (hf : f_law_45 M a1 a2 a3 = some (some M2)) (K : ∀ o2, At p l e room_1 s m args below meth c 9 (k + 4) (sl + 24) Q B D Y o2 4081 M2 [(0, .ref b), (1, .ref (B + 0)), (2, .ref (B + 47)), (3, .ref (B + 110)), (4, .ref (B + 111)), (5, .int x5)] []) : At p l e room_1 s m args below meth c 9 k sl Q B D Y o 3362 M [(0, .ref b), (1, .ref (B + 0)), (2, .ref (B + 47)), (3, .ref (B + 110)), (4, .ref (B + 111)), (5, .int x5)] [] := by
  dsimp only [f_law_45] at hf
  refine A_aload_n C (pc := 3362) 1 rfl dL_law_3362 ?_
  refine A_aload_n C (pc := 3363) 0 rfl dL_law_3363 ?_
  refine A_iload C (pc := 3364) 5 rfl dL_law_3364 ?_
  refine A_iconst C (pc := 3366) ic_1 dL_law_3366 ?_
  refine A_iadd C (pc := 3367) dL_law_3367 ?_
  refine A_sld C (pc := 3368) hXs hbl hbA h1 e1 dL_law_3368 ?_
  refine A_aload_n C (pc := 3369) 0 rfl dL_law_3369 ?_
  refine A_iload C (pc := 3370) 5 rfl dL_law_3370 ?_
  refine A_iconst C (pc := 3372) ic_2 dL_law_3372 ?_
  refine A_iadd C (pc := 3373) dL_law_3373 ?_
  refine A_sld C (pc := 3374) hXs hbl hbA h2 e2 dL_law_3374 ?_
  refine A_aload_n C (pc := 3375) 0 rfl dL_law_3375 ?_
  refine A_iload C (pc := 3376) 5 rfl dL_law_3376 ?_
  refine A_iconst C (pc := 3378) ic_3 dL_law_3378 ?_
  refine A_iadd C (pc := 3379) dL_law_3379 ?_
  refine A_sld C (pc := 3380) hXs hbl hbA h3 e3 dL_law_3380 ?_
  refine A_aload_n C (pc := 3381) 3 rfl dL_law_3381 ?_
  obtain ⟨z3382, h3382, hf⟩ := bd_i hf
  refine L_callS C (pc := 3382) hX (A := [.ref (B + 0), .int a1, .int a2, .int a3, .ref (B + 110)]) (rest := []) kl_L_338 kw_L_rowsWith (m_L_rowsWith l hl9 B D Y o h3382) rfl rfl (Nat.le_of_ble_eq_true rfl) ⟨rfl, rfl, Nat.le_of_ble_eq_true rfl, Nat.le_of_ble_eq_true rfl⟩ ⟨by omega, by omega⟩ dL_law_3382 ?_
  refine A_istore C (pc := 3385) [(0, .ref b), (1, .ref (B + 0)), (2, .ref (B + 47)), (3, .ref (B + 110)), (4, .ref (B + 111)), (5, .int x5), (6, .int z3382.1)] (by decide) [1, 2, 3, 4, 5, 6, 0] rfl dL_law_3385 ?_
  refine A_aload_n C (pc := 3387) 2 rfl dL_law_3387 ?_
  refine A_aload_n C (pc := 3388) 0 rfl dL_law_3388 ?_
  refine A_iload C (pc := 3389) 5 rfl dL_law_3389 ?_
  refine A_iconst C (pc := 3391) ic_1 dL_law_3391 ?_
  refine A_iadd C (pc := 3392) dL_law_3392 ?_
  refine A_sld C (pc := 3393) hXs hbl hbA h1 e1 dL_law_3393 ?_
  refine A_aload_n C (pc := 3394) 0 rfl dL_law_3394 ?_
  refine A_iload C (pc := 3395) 5 rfl dL_law_3395 ?_
  refine A_iconst C (pc := 3397) ic_2 dL_law_3397 ?_
  refine A_iadd C (pc := 3398) dL_law_3398 ?_
  refine A_sld C (pc := 3399) hXs hbl hbA h2 e2 dL_law_3399 ?_
  refine A_aload_n C (pc := 3400) 0 rfl dL_law_3400 ?_
  refine A_iload C (pc := 3401) 5 rfl dL_law_3401 ?_
  refine A_iconst C (pc := 3403) ic_3 dL_law_3403 ?_
  refine A_iadd C (pc := 3404) dL_law_3404 ?_
  refine A_sld C (pc := 3405) hXs hbl hbA h3 e3 dL_law_3405 ?_
  obtain ⟨z3406, h3406, hf⟩ := bd_i hf
  refine A_callV1 C (pc := 3406) (A := [.int a1, .int a2, .int a3]) (rest := []) k_L_340 ky_X7_rowsWith kv_X7_rowsWith (m_X7_rowsWith l B D Y _ h3406) (by decide) rfl rfl rfl rfl (Nat.le_of_ble_eq_true rfl) ⟨rfl, rfl, Nat.le_of_ble_eq_true rfl, Nat.le_of_ble_eq_true rfl⟩ ⟨by omega, by omega⟩ dL_law_3406 ?_
  refine A_istore C (pc := 3409) [(0, .ref b), (1, .ref (B + 0)), (2, .ref (B + 47)), (3, .ref (B + 110)), (4, .ref (B + 111)), (5, .int x5), (6, .int z3382.1), (7, .int z3406.1)] (by decide) [1, 2, 3, 4, 5, 6, 7, 0] rfl dL_law_3409 ?_
  refine A_aload_n C (pc := 3411) 2 rfl dL_law_3411 ?_
  obtain ⟨z3412, h3412, hf⟩ := bd_i hf
  refine A_callV1 C (pc := 3412) (A := []) (rest := []) k_L_198 ky_X7_thrown kv_X7_thrown (m_X7_thrown l B D Y _ h3412) (by decide) rfl rfl rfl rfl (Nat.le_of_ble_eq_true rfl) ⟨rfl, rfl, Nat.le_of_ble_eq_true rfl, Nat.le_of_ble_eq_true rfl⟩ ⟨by omega, by omega⟩ dL_law_3412 ?_
  refine A_iload C (pc := 3415) 6 rfl dL_law_3415 ?_
  refine A_icmp_eq C (pc := 3417) 3422 (by decide) dL_law_3417 hf (fun _ hf => ?_) (fun _ hf => ?_)
  · refine A_iload C (pc := 3422) 6 rfl dL_law_3422 ?_
    refine A_if_ne C (pc := 3424) 3439 (by decide) dL_law_3424 hf (fun _ hf => ?_) (fun _ hf => ?_)
    · refine A_goto C (pc := 3439) 4081 (by decide) dL_law_3439 ?_
      cases hf
      refine A_sub [0, 1, 2, 3, 4, 5] rfl ?_
      exact A_widen (by omega) (by omega) (K _)
    · refine A_aload_n C (pc := 3427) 3 rfl dL_law_3427 ?_
      refine A_iconst C (pc := 3428) ic_0 dL_law_3428 ?_
      obtain ⟨w3429, e3429, hf⟩ := bd_i hf
      refine A_laldO C (pc := 3429) e3429 dL_law_3429 ?_
      refine A_iload C (pc := 3430) 7 rfl dL_law_3430 ?_
      refine A_i2l C (pc := 3432) dL_law_3432 ?_
      refine A_lcmp C (pc := 3433) dL_law_3433 ?_
      refine A_if_eq C (pc := 3434) 3439 (by decide) dL_law_3434 hf (fun _ hf => ?_) (fun _ hf => ?_)
      · refine A_goto C (pc := 3439) 4081 (by decide) dL_law_3439 ?_
        cases hf
        refine A_sub [0, 1, 2, 3, 4, 5] rfl ?_
        exact A_widen (by omega) (by omega) (K _)
      · refine A_iconst C (pc := 3437) ic_0 dL_law_3437 ?_
        cases hf
  · refine A_iconst C (pc := 3420) ic_0 dL_law_3420 ?_
    cases hf
set_option maxRecDepth 100000 in
theorem w_law_46 (C : Cx p s m args c cL_law 9 RL B D Y) (hX : XI B s) (hl9 : l.stackTraces = false) (hXs : va_X b LN xs s s.heap) (hbl : b < s.heap.size) (hbA : ¬ B ≤ b) {M M2 : Mem} {x5 a1 a2 a3 : Int32} (h1 : vp_in (x5 + 1) LN) (h2 : vp_in (x5 + 2) LN) (h3 : vp_in (x5 + 3) LN) (e1 : xs (x5 + 1).toNatClampNeg = a1) (e2 : xs (x5 + 2).toNatClampNeg = a2) (e3 : xs (x5 + 3).toNatClampNeg = a3) (hkc : k + 4 ≤ room_1.cells) (hks : sl + 24 ≤ room_1.slots) (hf : f_law_46 M a1 a2 a3 = some (some M2)) (K : ∀ o2, At p l e room_1 s m args below meth c 9 (k + 4) (sl + 24) Q B D Y o2 4081 M2 [(0, .ref b), (1, .ref (B + 0)), (2, .ref (B + 47)), (3, .ref (B + 110)), (4, .ref (B + 111)), (5, .int x5)] []) : At p l e room_1 s m args below meth c 9 k sl Q B D Y o 3442 M [(0, .ref b), (1, .ref (B + 0)), (2, .ref (B + 47)), (3, .ref (B + 110)), (4, .ref (B + 111)), (5, .int x5)] [] := by
  dsimp only [f_law_46] at hf
  refine A_aload_n C (pc := 3442) 1 rfl dL_law_3442 ?_
  refine A_aload_n C (pc := 3443) 0 rfl dL_law_3443 ?_
  refine A_iload C (pc := 3444) 5 rfl dL_law_3444 ?_
  refine A_iconst C (pc := 3446) ic_1 dL_law_3446 ?_
  refine A_iadd C (pc := 3447) dL_law_3447 ?_
  refine A_sld C (pc := 3448) hXs hbl hbA h1 e1 dL_law_3448 ?_
  refine A_aload_n C (pc := 3449) 0 rfl dL_law_3449 ?_
  refine A_iload C (pc := 3450) 5 rfl dL_law_3450 ?_
  refine A_iconst C (pc := 3452) ic_2 dL_law_3452 ?_
  refine A_iadd C (pc := 3453) dL_law_3453 ?_
  refine A_sld C (pc := 3454) hXs hbl hbA h2 e2 dL_law_3454 ?_
  refine A_aload_n C (pc := 3455) 0 rfl dL_law_3455 ?_
  refine A_iload C (pc := 3456) 5 rfl dL_law_3456 ?_
  refine A_iconst C (pc := 3458) ic_3 dL_law_3458 ?_
  refine A_iadd C (pc := 3459) dL_law_3459 ?_
  refine A_sld C (pc := 3460) hXs hbl hbA h3 e3 dL_law_3460 ?_
  refine A_aload_n C (pc := 3461) 3 rfl dL_law_3461 ?_
  obtain ⟨z3462, h3462, hf⟩ := bd_i hf
  refine L_callS C (pc := 3462) hX (A := [.ref (B + 0), .int a1, .int a2, .int a3, .ref (B + 110)]) (rest := []) kl_L_341 kw_L_rowsAt (m_L_rowsAt l hl9 B D Y o h3462) rfl rfl (Nat.le_of_ble_eq_true rfl) ⟨rfl, rfl, Nat.le_of_ble_eq_true rfl, Nat.le_of_ble_eq_true rfl⟩ ⟨by omega, by omega⟩ dL_law_3462 ?_
  refine A_istore C (pc := 3465) [(0, .ref b), (1, .ref (B + 0)), (2, .ref (B + 47)), (3, .ref (B + 110)), (4, .ref (B + 111)), (5, .int x5), (6, .int z3462.1)] (by decide) [1, 2, 3, 4, 5, 6, 0] rfl dL_law_3465 ?_
  refine A_aload_n C (pc := 3467) 2 rfl dL_law_3467 ?_
  refine A_aload_n C (pc := 3468) 0 rfl dL_law_3468 ?_
  refine A_iload C (pc := 3469) 5 rfl dL_law_3469 ?_
  refine A_iconst C (pc := 3471) ic_1 dL_law_3471 ?_
  refine A_iadd C (pc := 3472) dL_law_3472 ?_
  refine A_sld C (pc := 3473) hXs hbl hbA h1 e1 dL_law_3473 ?_
  refine A_aload_n C (pc := 3474) 0 rfl dL_law_3474 ?_
  refine A_iload C (pc := 3475) 5 rfl dL_law_3475 ?_
  refine A_iconst C (pc := 3477) ic_2 dL_law_3477 ?_
  refine A_iadd C (pc := 3478) dL_law_3478 ?_
  refine A_sld C (pc := 3479) hXs hbl hbA h2 e2 dL_law_3479 ?_
  refine A_aload_n C (pc := 3480) 0 rfl dL_law_3480 ?_
  refine A_iload C (pc := 3481) 5 rfl dL_law_3481 ?_
  refine A_iconst C (pc := 3483) ic_3 dL_law_3483 ?_
  refine A_iadd C (pc := 3484) dL_law_3484 ?_
  refine A_sld C (pc := 3485) hXs hbl hbA h3 e3 dL_law_3485 ?_
  obtain ⟨z3486, h3486, hf⟩ := bd_i hf
  refine A_callV1 C (pc := 3486) (A := [.int a1, .int a2, .int a3]) (rest := []) k_L_343 ky_X7_rowsAt kv_X7_rowsAt (m_X7_rowsAt l B D Y _ h3486) (by decide) rfl rfl rfl rfl (Nat.le_of_ble_eq_true rfl) ⟨rfl, rfl, Nat.le_of_ble_eq_true rfl, Nat.le_of_ble_eq_true rfl⟩ ⟨by omega, by omega⟩ dL_law_3486 ?_
  refine A_istore C (pc := 3489) [(0, .ref b), (1, .ref (B + 0)), (2, .ref (B + 47)), (3, .ref (B + 110)), (4, .ref (B + 111)), (5, .int x5), (6, .int z3462.1), (7, .int z3486.1)] (by decide) [1, 2, 3, 4, 5, 6, 7, 0] rfl dL_law_3489 ?_
  refine A_aload_n C (pc := 3491) 2 rfl dL_law_3491 ?_
  obtain ⟨z3492, h3492, hf⟩ := bd_i hf
  refine A_callV1 C (pc := 3492) (A := []) (rest := []) k_L_198 ky_X7_thrown kv_X7_thrown (m_X7_thrown l B D Y _ h3492) (by decide) rfl rfl rfl rfl (Nat.le_of_ble_eq_true rfl) ⟨rfl, rfl, Nat.le_of_ble_eq_true rfl, Nat.le_of_ble_eq_true rfl⟩ ⟨by omega, by omega⟩ dL_law_3492 ?_
  refine A_iload C (pc := 3495) 6 rfl dL_law_3495 ?_
  refine A_icmp_eq C (pc := 3497) 3502 (by decide) dL_law_3497 hf (fun _ hf => ?_) (fun _ hf => ?_)
  · refine A_iload C (pc := 3502) 6 rfl dL_law_3502 ?_
    refine A_if_ne C (pc := 3504) 3519 (by decide) dL_law_3504 hf (fun _ hf => ?_) (fun _ hf => ?_)
    · refine A_goto C (pc := 3519) 4081 (by decide) dL_law_3519 ?_
      cases hf
      refine A_sub [0, 1, 2, 3, 4, 5] rfl ?_
      exact A_widen (by omega) (by omega) (K _)
    · refine A_aload_n C (pc := 3507) 3 rfl dL_law_3507 ?_
      refine A_iconst C (pc := 3508) ic_0 dL_law_3508 ?_
      obtain ⟨w3509, e3509, hf⟩ := bd_i hf
      refine A_laldO C (pc := 3509) e3509 dL_law_3509 ?_
      refine A_iload C (pc := 3510) 7 rfl dL_law_3510 ?_
      refine A_i2l C (pc := 3512) dL_law_3512 ?_
      refine A_lcmp C (pc := 3513) dL_law_3513 ?_
      refine A_if_eq C (pc := 3514) 3519 (by decide) dL_law_3514 hf (fun _ hf => ?_) (fun _ hf => ?_)
      · refine A_goto C (pc := 3519) 4081 (by decide) dL_law_3519 ?_
        cases hf
        refine A_sub [0, 1, 2, 3, 4, 5] rfl ?_
        exact A_widen (by omega) (by omega) (K _)
      · refine A_iconst C (pc := 3517) ic_0 dL_law_3517 ?_
        cases hf
  · refine A_iconst C (pc := 3500) ic_0 dL_law_3500 ?_
    cases hf
set_option maxRecDepth 100000 in
theorem w_law_47 (C : Cx p s m args c cL_law 9 RL B D Y) (hX : XI B s) (hl9 : l.stackTraces = false) (hXs : va_X b LN xs s s.heap) (hbl : b < s.heap.size) (hbA : ¬ B ≤ b) {M M2 : Mem} {x5 a1 a2 a3 : Int32} (h1 : vp_in (x5 + 1) LN) (h2 : vp_in (x5 + 2) LN) (h3 : vp_in (x5 + 3) LN) (e1 : xs (x5 + 1).toNatClampNeg = a1) (e2 : xs (x5 + 2).toNatClampNeg = a2) (e3 : xs (x5 + 3).toNatClampNeg = a3) (hkc : k + 4 ≤ room_1.cells) (hks : sl + 24 ≤ room_1.slots) (hf : f_law_47 M a1 a2 a3 = some (some M2)) (K : ∀ o2, At p l e room_1 s m args below meth c 9 (k + 4) (sl + 24) Q B D Y o2 4081 M2 [(0, .ref b), (1, .ref (B + 0)), (2, .ref (B + 47)), (3, .ref (B + 110)), (4, .ref (B + 111)), (5, .int x5)] []) : At p l e room_1 s m args below meth c 9 k sl Q B D Y o 3522 M [(0, .ref b), (1, .ref (B + 0)), (2, .ref (B + 47)), (3, .ref (B + 110)), (4, .ref (B + 111)), (5, .int x5)] [] := by
  dsimp only [f_law_47] at hf
  refine A_aload_n C (pc := 3522) 1 rfl dL_law_3522 ?_
  refine A_aload_n C (pc := 3523) 0 rfl dL_law_3523 ?_
  refine A_iload C (pc := 3524) 5 rfl dL_law_3524 ?_
  refine A_iconst C (pc := 3526) ic_1 dL_law_3526 ?_
  refine A_iadd C (pc := 3527) dL_law_3527 ?_
  refine A_sld C (pc := 3528) hXs hbl hbA h1 e1 dL_law_3528 ?_
  refine A_aload_n C (pc := 3529) 0 rfl dL_law_3529 ?_
  refine A_iload C (pc := 3530) 5 rfl dL_law_3530 ?_
  refine A_iconst C (pc := 3532) ic_2 dL_law_3532 ?_
  refine A_iadd C (pc := 3533) dL_law_3533 ?_
  refine A_sld C (pc := 3534) hXs hbl hbA h2 e2 dL_law_3534 ?_
  refine A_aload C (pc := 3535) 4 rfl dL_law_3535 ?_
  obtain ⟨z3537, h3537, hf⟩ := bd_i hf
  refine L_callS C (pc := 3537) hX (A := [.ref (B + 0), .int a1, .int a2, .ref (B + 111)]) (rest := []) kl_L_344 kw_L_meanPlace (m_L_meanPlace l hl9 B D Y o h3537) rfl rfl (Nat.le_of_ble_eq_true rfl) ⟨rfl, rfl, Nat.le_of_ble_eq_true rfl, Nat.le_of_ble_eq_true rfl⟩ ⟨by omega, by omega⟩ dL_law_3537 ?_
  refine A_istore C (pc := 3540) [(0, .ref b), (1, .ref (B + 0)), (2, .ref (B + 47)), (3, .ref (B + 110)), (4, .ref (B + 111)), (5, .int x5), (6, .int z3537.1)] (by decide) [1, 2, 3, 4, 5, 6, 0] rfl dL_law_3540 ?_
  refine A_aload_n C (pc := 3542) 2 rfl dL_law_3542 ?_
  refine A_aload_n C (pc := 3543) 0 rfl dL_law_3543 ?_
  refine A_iload C (pc := 3544) 5 rfl dL_law_3544 ?_
  refine A_iconst C (pc := 3546) ic_1 dL_law_3546 ?_
  refine A_iadd C (pc := 3547) dL_law_3547 ?_
  refine A_sld C (pc := 3548) hXs hbl hbA h1 e1 dL_law_3548 ?_
  refine A_aload_n C (pc := 3549) 0 rfl dL_law_3549 ?_
  refine A_iload C (pc := 3550) 5 rfl dL_law_3550 ?_
  refine A_iconst C (pc := 3552) ic_2 dL_law_3552 ?_
  refine A_iadd C (pc := 3553) dL_law_3553 ?_
  refine A_sld C (pc := 3554) hXs hbl hbA h2 e2 dL_law_3554 ?_
  obtain ⟨z3555, h3555, hf⟩ := bd_i hf
  refine A_callV1 C (pc := 3555) (A := [.int a1, .int a2]) (rest := []) k_L_347 ky_X7_meanPlace kv_X7_meanPlace (m_X7_meanPlace l B D Y _ h3555) (by decide) rfl rfl rfl rfl (Nat.le_of_ble_eq_true rfl) ⟨rfl, rfl, Nat.le_of_ble_eq_true rfl, Nat.le_of_ble_eq_true rfl⟩ ⟨by omega, by omega⟩ dL_law_3555 ?_
  refine A_dstore C (pc := 3558) [(0, .ref b), (1, .ref (B + 0)), (2, .ref (B + 47)), (3, .ref (B + 110)), (4, .ref (B + 111)), (5, .int x5), (6, .int z3537.1), (7, .double z3555.1)] (by decide) [1, 2, 3, 4, 5, 6, 7, 0] rfl dL_law_3558 ?_
  refine A_aload_n C (pc := 3560) 2 rfl dL_law_3560 ?_
  obtain ⟨z3561, h3561, hf⟩ := bd_i hf
  refine A_callV1 C (pc := 3561) (A := []) (rest := []) k_L_198 ky_X7_thrown kv_X7_thrown (m_X7_thrown l B D Y _ h3561) (by decide) rfl rfl rfl rfl (Nat.le_of_ble_eq_true rfl) ⟨rfl, rfl, Nat.le_of_ble_eq_true rfl, Nat.le_of_ble_eq_true rfl⟩ ⟨by omega, by omega⟩ dL_law_3561 ?_
  refine A_iload C (pc := 3564) 6 rfl dL_law_3564 ?_
  refine A_icmp_eq C (pc := 3566) 3571 (by decide) dL_law_3566 hf (fun _ hf => ?_) (fun _ hf => ?_)
  · refine A_iload C (pc := 3571) 6 rfl dL_law_3571 ?_
    refine A_if_ne C (pc := 3573) 3608 (by decide) dL_law_3573 hf (fun _ hf => ?_) (fun _ hf => ?_)
    · refine A_goto C (pc := 3608) 4081 (by decide) dL_law_3608 ?_
      cases hf
      refine A_sub [0, 1, 2, 3, 4, 5] rfl ?_
      exact A_widen (by omega) (by omega) (K _)
    · refine A_aload C (pc := 3576) 4 rfl dL_law_3576 ?_
      refine A_iconst C (pc := 3578) ic_0 dL_law_3578 ?_
      obtain ⟨w3579, e3579, hf⟩ := bd_i hf
      refine A_daldO C (pc := 3579) e3579 dL_law_3579 ?_
      refine A_dload C (pc := 3580) 7 rfl dL_law_3580 ?_
      refine A_dcmp C (pc := 3582) dL_law_3582 ?_
      refine A_if_eq C (pc := 3583) 3608 (by decide) dL_law_3583 hf (fun _ hf => ?_) (fun _ hf => ?_)
      · refine A_goto C (pc := 3608) 4081 (by decide) dL_law_3608 ?_
        cases hf
        refine A_sub [0, 1, 2, 3, 4, 5] rfl ?_
        exact A_widen (by omega) (by omega) (K _)
      · refine A_aload C (pc := 3586) 4 rfl dL_law_3586 ?_
        refine A_iconst C (pc := 3588) ic_0 dL_law_3588 ?_
        obtain ⟨w3589, e3589, hf⟩ := bd_i hf
        refine A_daldO C (pc := 3589) e3589 dL_law_3589 ?_
        refine A_aload C (pc := 3590) 4 rfl dL_law_3590 ?_
        refine A_iconst C (pc := 3592) ic_0 dL_law_3592 ?_
        obtain ⟨w3593, e3593, hf⟩ := bd_i hf
        refine A_daldO C (pc := 3593) e3593 dL_law_3593 ?_
        refine A_dcmp C (pc := 3594) dL_law_3594 ?_
        refine A_if_eq C (pc := 3595) 3606 (by decide) dL_law_3595 hf (fun _ hf => ?_) (fun _ hf => ?_)
        · refine A_iconst C (pc := 3606) ic_0 dL_law_3606 ?_
          cases hf
        · refine A_dload C (pc := 3598) 7 rfl dL_law_3598 ?_
          refine A_dload C (pc := 3600) 7 rfl dL_law_3600 ?_
          refine A_dcmp C (pc := 3602) dL_law_3602 ?_
          refine A_if_ne C (pc := 3603) 3608 (by decide) dL_law_3603 hf (fun _ hf => ?_) (fun _ hf => ?_)
          · refine A_goto C (pc := 3608) 4081 (by decide) dL_law_3608 ?_
            cases hf
            refine A_sub [0, 1, 2, 3, 4, 5] rfl ?_
            exact A_widen (by omega) (by omega) (K _)
          · refine A_iconst C (pc := 3606) ic_0 dL_law_3606 ?_
            cases hf
  · refine A_iconst C (pc := 3569) ic_0 dL_law_3569 ?_
    cases hf
set_option maxRecDepth 100000 in
theorem w_law_48 (C : Cx p s m args c cL_law 9 RL B D Y) (hX : XI B s) (hl9 : l.stackTraces = false) (hXs : va_X b LN xs s s.heap) (hbl : b < s.heap.size) (hbA : ¬ B ≤ b) {M M2 : Mem} {x5 a1 a2 a3 : Int32} (h1 : vp_in (x5 + 1) LN) (h2 : vp_in (x5 + 2) LN) (h3 : vp_in (x5 + 3) LN) (e1 : xs (x5 + 1).toNatClampNeg = a1) (e2 : xs (x5 + 2).toNatClampNeg = a2) (e3 : xs (x5 + 3).toNatClampNeg = a3) (hkc : k + 4 ≤ room_1.cells) (hks : sl + 24 ≤ room_1.slots) (hf : f_law_48 M a1 a2 a3 = some (some M2)) (K : ∀ o2, At p l e room_1 s m args below meth c 9 (k + 4) (sl + 24) Q B D Y o2 4081 M2 [(0, .ref b), (1, .ref (B + 0)), (2, .ref (B + 47)), (3, .ref (B + 110)), (4, .ref (B + 111)), (5, .int x5)] []) : At p l e room_1 s m args below meth c 9 k sl Q B D Y o 3611 M [(0, .ref b), (1, .ref (B + 0)), (2, .ref (B + 47)), (3, .ref (B + 110)), (4, .ref (B + 111)), (5, .int x5)] [] := by
  dsimp only [f_law_48] at hf
  refine A_aload_n C (pc := 3611) 1 rfl dL_law_3611 ?_
  refine A_aload_n C (pc := 3612) 0 rfl dL_law_3612 ?_
  refine A_iload C (pc := 3613) 5 rfl dL_law_3613 ?_
  refine A_iconst C (pc := 3615) ic_1 dL_law_3615 ?_
  refine A_iadd C (pc := 3616) dL_law_3616 ?_
  refine A_sld C (pc := 3617) hXs hbl hbA h1 e1 dL_law_3617 ?_
  refine A_aload_n C (pc := 3618) 0 rfl dL_law_3618 ?_
  refine A_iload C (pc := 3619) 5 rfl dL_law_3619 ?_
  refine A_iconst C (pc := 3621) ic_2 dL_law_3621 ?_
  refine A_iadd C (pc := 3622) dL_law_3622 ?_
  refine A_sld C (pc := 3623) hXs hbl hbA h2 e2 dL_law_3623 ?_
  refine A_aload_n C (pc := 3624) 0 rfl dL_law_3624 ?_
  refine A_iload C (pc := 3625) 5 rfl dL_law_3625 ?_
  refine A_iconst C (pc := 3627) ic_3 dL_law_3627 ?_
  refine A_iadd C (pc := 3628) dL_law_3628 ?_
  refine A_sld C (pc := 3629) hXs hbl hbA h3 e3 dL_law_3629 ?_
  refine A_aload C (pc := 3630) 4 rfl dL_law_3630 ?_
  obtain ⟨z3632, h3632, hf⟩ := bd_i hf
  refine L_callS C (pc := 3632) hX (A := [.ref (B + 0), .int a1, .int a2, .int a3, .ref (B + 111)]) (rest := []) kl_L_348 kw_L_share (m_L_share l hl9 B D Y o h3632) rfl rfl (Nat.le_of_ble_eq_true rfl) ⟨rfl, rfl, Nat.le_of_ble_eq_true rfl, Nat.le_of_ble_eq_true rfl⟩ ⟨by omega, by omega⟩ dL_law_3632 ?_
  refine A_istore C (pc := 3635) [(0, .ref b), (1, .ref (B + 0)), (2, .ref (B + 47)), (3, .ref (B + 110)), (4, .ref (B + 111)), (5, .int x5), (6, .int z3632.1)] (by decide) [1, 2, 3, 4, 5, 6, 0] rfl dL_law_3635 ?_
  refine A_aload_n C (pc := 3637) 2 rfl dL_law_3637 ?_
  refine A_aload_n C (pc := 3638) 0 rfl dL_law_3638 ?_
  refine A_iload C (pc := 3639) 5 rfl dL_law_3639 ?_
  refine A_iconst C (pc := 3641) ic_1 dL_law_3641 ?_
  refine A_iadd C (pc := 3642) dL_law_3642 ?_
  refine A_sld C (pc := 3643) hXs hbl hbA h1 e1 dL_law_3643 ?_
  refine A_aload_n C (pc := 3644) 0 rfl dL_law_3644 ?_
  refine A_iload C (pc := 3645) 5 rfl dL_law_3645 ?_
  refine A_iconst C (pc := 3647) ic_2 dL_law_3647 ?_
  refine A_iadd C (pc := 3648) dL_law_3648 ?_
  refine A_sld C (pc := 3649) hXs hbl hbA h2 e2 dL_law_3649 ?_
  refine A_aload_n C (pc := 3650) 0 rfl dL_law_3650 ?_
  refine A_iload C (pc := 3651) 5 rfl dL_law_3651 ?_
  refine A_iconst C (pc := 3653) ic_3 dL_law_3653 ?_
  refine A_iadd C (pc := 3654) dL_law_3654 ?_
  refine A_sld C (pc := 3655) hXs hbl hbA h3 e3 dL_law_3655 ?_
  obtain ⟨z3656, h3656, hf⟩ := bd_i hf
  refine A_callV1 C (pc := 3656) (A := [.int a1, .int a2, .int a3]) (rest := []) k_L_351 ky_X7_share kv_X7_share (m_X7_share l B D Y _ h3656) (by decide) rfl rfl rfl rfl (Nat.le_of_ble_eq_true rfl) ⟨rfl, rfl, Nat.le_of_ble_eq_true rfl, Nat.le_of_ble_eq_true rfl⟩ ⟨by omega, by omega⟩ dL_law_3656 ?_
  refine A_fstore C (pc := 3659) [(0, .ref b), (1, .ref (B + 0)), (2, .ref (B + 47)), (3, .ref (B + 110)), (4, .ref (B + 111)), (5, .int x5), (6, .int z3632.1), (7, .float z3656.1)] (by decide) [1, 2, 3, 4, 5, 6, 7, 0] rfl dL_law_3659 ?_
  refine A_aload_n C (pc := 3661) 2 rfl dL_law_3661 ?_
  obtain ⟨z3662, h3662, hf⟩ := bd_i hf
  refine A_callV1 C (pc := 3662) (A := []) (rest := []) k_L_198 ky_X7_thrown kv_X7_thrown (m_X7_thrown l B D Y _ h3662) (by decide) rfl rfl rfl rfl (Nat.le_of_ble_eq_true rfl) ⟨rfl, rfl, Nat.le_of_ble_eq_true rfl, Nat.le_of_ble_eq_true rfl⟩ ⟨by omega, by omega⟩ dL_law_3662 ?_
  refine A_iload C (pc := 3665) 6 rfl dL_law_3665 ?_
  refine A_icmp_eq C (pc := 3667) 3672 (by decide) dL_law_3667 hf (fun _ hf => ?_) (fun _ hf => ?_)
  · refine A_iload C (pc := 3672) 6 rfl dL_law_3672 ?_
    refine A_if_ne C (pc := 3674) 3710 (by decide) dL_law_3674 hf (fun _ hf => ?_) (fun _ hf => ?_)
    · refine A_goto C (pc := 3710) 4081 (by decide) dL_law_3710 ?_
      cases hf
      refine A_sub [0, 1, 2, 3, 4, 5] rfl ?_
      exact A_widen (by omega) (by omega) (K _)
    · refine A_aload C (pc := 3677) 4 rfl dL_law_3677 ?_
      refine A_iconst C (pc := 3679) ic_0 dL_law_3679 ?_
      obtain ⟨w3680, e3680, hf⟩ := bd_i hf
      refine A_daldO C (pc := 3680) e3680 dL_law_3680 ?_
      refine A_fload C (pc := 3681) 7 rfl dL_law_3681 ?_
      obtain ⟨c3683, hf⟩ := chk_i hf
      refine A_f2d C (pc := 3683) (nn64_i c3683) dL_law_3683 ?_
      refine A_dcmp C (pc := 3684) dL_law_3684 ?_
      refine A_if_eq C (pc := 3685) 3710 (by decide) dL_law_3685 hf (fun _ hf => ?_) (fun _ hf => ?_)
      · refine A_goto C (pc := 3710) 4081 (by decide) dL_law_3710 ?_
        cases hf
        refine A_sub [0, 1, 2, 3, 4, 5] rfl ?_
        exact A_widen (by omega) (by omega) (K _)
      · refine A_aload C (pc := 3688) 4 rfl dL_law_3688 ?_
        refine A_iconst C (pc := 3690) ic_0 dL_law_3690 ?_
        obtain ⟨w3691, e3691, hf⟩ := bd_i hf
        refine A_daldO C (pc := 3691) e3691 dL_law_3691 ?_
        refine A_aload C (pc := 3692) 4 rfl dL_law_3692 ?_
        refine A_iconst C (pc := 3694) ic_0 dL_law_3694 ?_
        obtain ⟨w3695, e3695, hf⟩ := bd_i hf
        refine A_daldO C (pc := 3695) e3695 dL_law_3695 ?_
        refine A_dcmp C (pc := 3696) dL_law_3696 ?_
        refine A_if_eq C (pc := 3697) 3708 (by decide) dL_law_3697 hf (fun _ hf => ?_) (fun _ hf => ?_)
        · refine A_iconst C (pc := 3708) ic_0 dL_law_3708 ?_
          cases hf
        · refine A_fload C (pc := 3700) 7 rfl dL_law_3700 ?_
          refine A_fload C (pc := 3702) 7 rfl dL_law_3702 ?_
          refine A_fcmp C (pc := 3704) dL_law_3704 ?_
          refine A_if_ne C (pc := 3705) 3710 (by decide) dL_law_3705 hf (fun _ hf => ?_) (fun _ hf => ?_)
          · refine A_goto C (pc := 3710) 4081 (by decide) dL_law_3710 ?_
            cases hf
            refine A_sub [0, 1, 2, 3, 4, 5] rfl ?_
            exact A_widen (by omega) (by omega) (K _)
          · refine A_iconst C (pc := 3708) ic_0 dL_law_3708 ?_
            cases hf
  · refine A_iconst C (pc := 3670) ic_0 dL_law_3670 ?_
    cases hf
set_option maxRecDepth 100000 in
theorem w_law_49 (C : Cx p s m args c cL_law 9 RL B D Y) (hX : XI B s) (hl9 : l.stackTraces = false) (hXs : va_X b LN xs s s.heap) (hbl : b < s.heap.size) (hbA : ¬ B ≤ b) {M M2 : Mem} {x5 a1 a2 a3 : Int32} (h1 : vp_in (x5 + 1) LN) (h2 : vp_in (x5 + 2) LN) (h3 : vp_in (x5 + 3) LN) (e1 : xs (x5 + 1).toNatClampNeg = a1) (e2 : xs (x5 + 2).toNatClampNeg = a2) (e3 : xs (x5 + 3).toNatClampNeg = a3) (hkc : k + 4 ≤ room_1.cells) (hks : sl + 24 ≤ room_1.slots) (hf : f_law_49 M a1 a2 a3 = some (some M2)) (K : ∀ o2, At p l e room_1 s m args below meth c 9 (k + 4) (sl + 24) Q B D Y o2 4081 M2 [(0, .ref b), (1, .ref (B + 0)), (2, .ref (B + 47)), (3, .ref (B + 110)), (4, .ref (B + 111)), (5, .int x5)] []) : At p l e room_1 s m args below meth c 9 k sl Q B D Y o 3713 M [(0, .ref b), (1, .ref (B + 0)), (2, .ref (B + 47)), (3, .ref (B + 110)), (4, .ref (B + 111)), (5, .int x5)] [] := by
  dsimp only [f_law_49] at hf
  refine A_aload_n C (pc := 3713) 1 rfl dL_law_3713 ?_
  refine A_aload_n C (pc := 3714) 0 rfl dL_law_3714 ?_
  refine A_iload C (pc := 3715) 5 rfl dL_law_3715 ?_
  refine A_iconst C (pc := 3717) ic_1 dL_law_3717 ?_
  refine A_iadd C (pc := 3718) dL_law_3718 ?_
  refine A_sld C (pc := 3719) hXs hbl hbA h1 e1 dL_law_3719 ?_
  refine A_aload_n C (pc := 3720) 0 rfl dL_law_3720 ?_
  refine A_iload C (pc := 3721) 5 rfl dL_law_3721 ?_
  refine A_iconst C (pc := 3723) ic_2 dL_law_3723 ?_
  refine A_iadd C (pc := 3724) dL_law_3724 ?_
  refine A_sld C (pc := 3725) hXs hbl hbA h2 e2 dL_law_3725 ?_
  refine A_aload_n C (pc := 3726) 3 rfl dL_law_3726 ?_
  obtain ⟨z3727, h3727, hf⟩ := bd_i hf
  refine L_callS C (pc := 3727) hX (A := [.ref (B + 0), .int a1, .int a2, .ref (B + 110)]) (rest := []) kl_L_352 kw_L_sum (m_L_sum l hl9 B D Y o h3727) rfl rfl (Nat.le_of_ble_eq_true rfl) ⟨rfl, rfl, Nat.le_of_ble_eq_true rfl, Nat.le_of_ble_eq_true rfl⟩ ⟨by omega, by omega⟩ dL_law_3727 ?_
  refine A_istore C (pc := 3730) [(0, .ref b), (1, .ref (B + 0)), (2, .ref (B + 47)), (3, .ref (B + 110)), (4, .ref (B + 111)), (5, .int x5), (6, .int z3727.1)] (by decide) [1, 2, 3, 4, 5, 6, 0] rfl dL_law_3730 ?_
  refine A_aload_n C (pc := 3732) 2 rfl dL_law_3732 ?_
  refine A_aload_n C (pc := 3733) 0 rfl dL_law_3733 ?_
  refine A_iload C (pc := 3734) 5 rfl dL_law_3734 ?_
  refine A_iconst C (pc := 3736) ic_1 dL_law_3736 ?_
  refine A_iadd C (pc := 3737) dL_law_3737 ?_
  refine A_sld C (pc := 3738) hXs hbl hbA h1 e1 dL_law_3738 ?_
  refine A_aload_n C (pc := 3739) 0 rfl dL_law_3739 ?_
  refine A_iload C (pc := 3740) 5 rfl dL_law_3740 ?_
  refine A_iconst C (pc := 3742) ic_2 dL_law_3742 ?_
  refine A_iadd C (pc := 3743) dL_law_3743 ?_
  refine A_sld C (pc := 3744) hXs hbl hbA h2 e2 dL_law_3744 ?_
  obtain ⟨z3745, h3745, hf⟩ := bd_i hf
  refine A_callV1 C (pc := 3745) (A := [.int a1, .int a2]) (rest := []) k_L_354 ky_X7_sum kv_X7_sum (m_X7_sum l B D Y _ h3745) (by decide) rfl rfl rfl rfl (Nat.le_of_ble_eq_true rfl) ⟨rfl, rfl, Nat.le_of_ble_eq_true rfl, Nat.le_of_ble_eq_true rfl⟩ ⟨by omega, by omega⟩ dL_law_3745 ?_
  refine A_istore C (pc := 3748) [(0, .ref b), (1, .ref (B + 0)), (2, .ref (B + 47)), (3, .ref (B + 110)), (4, .ref (B + 111)), (5, .int x5), (6, .int z3727.1), (7, .int z3745.1)] (by decide) [1, 2, 3, 4, 5, 6, 7, 0] rfl dL_law_3748 ?_
  refine A_aload_n C (pc := 3750) 2 rfl dL_law_3750 ?_
  obtain ⟨z3751, h3751, hf⟩ := bd_i hf
  refine A_callV1 C (pc := 3751) (A := []) (rest := []) k_L_198 ky_X7_thrown kv_X7_thrown (m_X7_thrown l B D Y _ h3751) (by decide) rfl rfl rfl rfl (Nat.le_of_ble_eq_true rfl) ⟨rfl, rfl, Nat.le_of_ble_eq_true rfl, Nat.le_of_ble_eq_true rfl⟩ ⟨by omega, by omega⟩ dL_law_3751 ?_
  refine A_iload C (pc := 3754) 6 rfl dL_law_3754 ?_
  refine A_icmp_eq C (pc := 3756) 3761 (by decide) dL_law_3756 hf (fun _ hf => ?_) (fun _ hf => ?_)
  · refine A_iload C (pc := 3761) 6 rfl dL_law_3761 ?_
    refine A_if_ne C (pc := 3763) 3778 (by decide) dL_law_3763 hf (fun _ hf => ?_) (fun _ hf => ?_)
    · refine A_goto C (pc := 3778) 4081 (by decide) dL_law_3778 ?_
      cases hf
      refine A_sub [0, 1, 2, 3, 4, 5] rfl ?_
      exact A_widen (by omega) (by omega) (K _)
    · refine A_aload_n C (pc := 3766) 3 rfl dL_law_3766 ?_
      refine A_iconst C (pc := 3767) ic_0 dL_law_3767 ?_
      obtain ⟨w3768, e3768, hf⟩ := bd_i hf
      refine A_laldO C (pc := 3768) e3768 dL_law_3768 ?_
      refine A_iload C (pc := 3769) 7 rfl dL_law_3769 ?_
      refine A_i2l C (pc := 3771) dL_law_3771 ?_
      refine A_lcmp C (pc := 3772) dL_law_3772 ?_
      refine A_if_eq C (pc := 3773) 3778 (by decide) dL_law_3773 hf (fun _ hf => ?_) (fun _ hf => ?_)
      · refine A_goto C (pc := 3778) 4081 (by decide) dL_law_3778 ?_
        cases hf
        refine A_sub [0, 1, 2, 3, 4, 5] rfl ?_
        exact A_widen (by omega) (by omega) (K _)
      · refine A_iconst C (pc := 3776) ic_0 dL_law_3776 ?_
        cases hf
  · refine A_iconst C (pc := 3759) ic_0 dL_law_3759 ?_
    cases hf
set_option maxRecDepth 100000 in
theorem w_law_50 (C : Cx p s m args c cL_law 9 RL B D Y) (hX : XI B s) (hl9 : l.stackTraces = false) (hXs : va_X b LN xs s s.heap) (hbl : b < s.heap.size) (hbA : ¬ B ≤ b) {M M2 : Mem} {x5 a1 a2 a3 : Int32} (h1 : vp_in (x5 + 1) LN) (h2 : vp_in (x5 + 2) LN) (h3 : vp_in (x5 + 3) LN) (e1 : xs (x5 + 1).toNatClampNeg = a1) (e2 : xs (x5 + 2).toNatClampNeg = a2) (e3 : xs (x5 + 3).toNatClampNeg = a3) (hkc : k + 4 ≤ room_1.cells) (hks : sl + 24 ≤ room_1.slots) (hf : f_law_50 M a1 a2 a3 = some (some M2)) (K : ∀ o2, At p l e room_1 s m args below meth c 9 (k + 4) (sl + 24) Q B D Y o2 4081 M2 [(0, .ref b), (1, .ref (B + 0)), (2, .ref (B + 47)), (3, .ref (B + 110)), (4, .ref (B + 111)), (5, .int x5)] []) : At p l e room_1 s m args below meth c 9 k sl Q B D Y o 3781 M [(0, .ref b), (1, .ref (B + 0)), (2, .ref (B + 47)), (3, .ref (B + 110)), (4, .ref (B + 111)), (5, .int x5)] [] := by
  dsimp only [f_law_50] at hf
  refine A_aload_n C (pc := 3781) 1 rfl dL_law_3781 ?_
  refine A_aload_n C (pc := 3782) 0 rfl dL_law_3782 ?_
  refine A_iload C (pc := 3783) 5 rfl dL_law_3783 ?_
  refine A_iconst C (pc := 3785) ic_1 dL_law_3785 ?_
  refine A_iadd C (pc := 3786) dL_law_3786 ?_
  refine A_sld C (pc := 3787) hXs hbl hbA h1 e1 dL_law_3787 ?_
  refine A_aload_n C (pc := 3788) 0 rfl dL_law_3788 ?_
  refine A_iload C (pc := 3789) 5 rfl dL_law_3789 ?_
  refine A_iconst C (pc := 3791) ic_2 dL_law_3791 ?_
  refine A_iadd C (pc := 3792) dL_law_3792 ?_
  refine A_sld C (pc := 3793) hXs hbl hbA h2 e2 dL_law_3793 ?_
  refine A_aload_n C (pc := 3794) 0 rfl dL_law_3794 ?_
  refine A_iload C (pc := 3795) 5 rfl dL_law_3795 ?_
  refine A_iconst C (pc := 3797) ic_3 dL_law_3797 ?_
  refine A_iadd C (pc := 3798) dL_law_3798 ?_
  refine A_sld C (pc := 3799) hXs hbl hbA h3 e3 dL_law_3799 ?_
  refine A_aload_n C (pc := 3800) 3 rfl dL_law_3800 ?_
  obtain ⟨z3801, h3801, hf⟩ := bd_i hf
  refine L_callS C (pc := 3801) hX (A := [.ref (B + 0), .int a1, .int a2, .int a3, .ref (B + 110)]) (rest := []) kl_L_355 kw_L_number (m_L_number l hl9 B D Y o h3801) rfl rfl (Nat.le_of_ble_eq_true rfl) ⟨rfl, rfl, Nat.le_of_ble_eq_true rfl, Nat.le_of_ble_eq_true rfl⟩ ⟨by omega, by omega⟩ dL_law_3801 ?_
  refine A_istore C (pc := 3804) [(0, .ref b), (1, .ref (B + 0)), (2, .ref (B + 47)), (3, .ref (B + 110)), (4, .ref (B + 111)), (5, .int x5), (6, .int z3801.1)] (by decide) [1, 2, 3, 4, 5, 6, 0] rfl dL_law_3804 ?_
  refine A_aload_n C (pc := 3806) 2 rfl dL_law_3806 ?_
  refine A_aload_n C (pc := 3807) 0 rfl dL_law_3807 ?_
  refine A_iload C (pc := 3808) 5 rfl dL_law_3808 ?_
  refine A_iconst C (pc := 3810) ic_1 dL_law_3810 ?_
  refine A_iadd C (pc := 3811) dL_law_3811 ?_
  refine A_sld C (pc := 3812) hXs hbl hbA h1 e1 dL_law_3812 ?_
  refine A_aload_n C (pc := 3813) 0 rfl dL_law_3813 ?_
  refine A_iload C (pc := 3814) 5 rfl dL_law_3814 ?_
  refine A_iconst C (pc := 3816) ic_2 dL_law_3816 ?_
  refine A_iadd C (pc := 3817) dL_law_3817 ?_
  refine A_sld C (pc := 3818) hXs hbl hbA h2 e2 dL_law_3818 ?_
  refine A_aload_n C (pc := 3819) 0 rfl dL_law_3819 ?_
  refine A_iload C (pc := 3820) 5 rfl dL_law_3820 ?_
  refine A_iconst C (pc := 3822) ic_3 dL_law_3822 ?_
  refine A_iadd C (pc := 3823) dL_law_3823 ?_
  refine A_sld C (pc := 3824) hXs hbl hbA h3 e3 dL_law_3824 ?_
  obtain ⟨z3825, h3825, hf⟩ := bd_i hf
  refine A_callV1 C (pc := 3825) (A := [.int a1, .int a2, .int a3]) (rest := []) k_L_357 ky_X7_number kv_X7_number (m_X7_number l B D Y _ h3825) (by decide) rfl rfl rfl rfl (Nat.le_of_ble_eq_true rfl) ⟨rfl, rfl, Nat.le_of_ble_eq_true rfl, Nat.le_of_ble_eq_true rfl⟩ ⟨by omega, by omega⟩ dL_law_3825 ?_
  refine A_istore C (pc := 3828) [(0, .ref b), (1, .ref (B + 0)), (2, .ref (B + 47)), (3, .ref (B + 110)), (4, .ref (B + 111)), (5, .int x5), (6, .int z3801.1), (7, .int z3825.1)] (by decide) [1, 2, 3, 4, 5, 6, 7, 0] rfl dL_law_3828 ?_
  refine A_aload_n C (pc := 3830) 2 rfl dL_law_3830 ?_
  obtain ⟨z3831, h3831, hf⟩ := bd_i hf
  refine A_callV1 C (pc := 3831) (A := []) (rest := []) k_L_198 ky_X7_thrown kv_X7_thrown (m_X7_thrown l B D Y _ h3831) (by decide) rfl rfl rfl rfl (Nat.le_of_ble_eq_true rfl) ⟨rfl, rfl, Nat.le_of_ble_eq_true rfl, Nat.le_of_ble_eq_true rfl⟩ ⟨by omega, by omega⟩ dL_law_3831 ?_
  refine A_iload C (pc := 3834) 6 rfl dL_law_3834 ?_
  refine A_icmp_eq C (pc := 3836) 3841 (by decide) dL_law_3836 hf (fun _ hf => ?_) (fun _ hf => ?_)
  · refine A_iload C (pc := 3841) 6 rfl dL_law_3841 ?_
    refine A_if_ne C (pc := 3843) 3858 (by decide) dL_law_3843 hf (fun _ hf => ?_) (fun _ hf => ?_)
    · refine A_goto C (pc := 3858) 4081 (by decide) dL_law_3858 ?_
      cases hf
      refine A_sub [0, 1, 2, 3, 4, 5] rfl ?_
      exact A_widen (by omega) (by omega) (K _)
    · refine A_aload_n C (pc := 3846) 3 rfl dL_law_3846 ?_
      refine A_iconst C (pc := 3847) ic_0 dL_law_3847 ?_
      obtain ⟨w3848, e3848, hf⟩ := bd_i hf
      refine A_laldO C (pc := 3848) e3848 dL_law_3848 ?_
      refine A_iload C (pc := 3849) 7 rfl dL_law_3849 ?_
      refine A_i2l C (pc := 3851) dL_law_3851 ?_
      refine A_lcmp C (pc := 3852) dL_law_3852 ?_
      refine A_if_eq C (pc := 3853) 3858 (by decide) dL_law_3853 hf (fun _ hf => ?_) (fun _ hf => ?_)
      · refine A_goto C (pc := 3858) 4081 (by decide) dL_law_3858 ?_
        cases hf
        refine A_sub [0, 1, 2, 3, 4, 5] rfl ?_
        exact A_widen (by omega) (by omega) (K _)
      · refine A_iconst C (pc := 3856) ic_0 dL_law_3856 ?_
        cases hf
  · refine A_iconst C (pc := 3839) ic_0 dL_law_3839 ?_
    cases hf
set_option maxRecDepth 100000 in
theorem w_law_51 (C : Cx p s m args c cL_law 9 RL B D Y) (hX : XI B s) (hl9 : l.stackTraces = false) (hXs : va_X b LN xs s s.heap) (hbl : b < s.heap.size) (hbA : ¬ B ≤ b) {M M2 : Mem} {x5 a1 a2 a3 : Int32} (h1 : vp_in (x5 + 1) LN) (h2 : vp_in (x5 + 2) LN) (h3 : vp_in (x5 + 3) LN) (e1 : xs (x5 + 1).toNatClampNeg = a1) (e2 : xs (x5 + 2).toNatClampNeg = a2) (e3 : xs (x5 + 3).toNatClampNeg = a3) (hkc : k + 4 ≤ room_1.cells) (hks : sl + 24 ≤ room_1.slots) (hf : f_law_51 M a1 a2 a3 = some (some M2)) (K : ∀ o2, At p l e room_1 s m args below meth c 9 (k + 4) (sl + 24) Q B D Y o2 4081 M2 [(0, .ref b), (1, .ref (B + 0)), (2, .ref (B + 47)), (3, .ref (B + 110)), (4, .ref (B + 111)), (5, .int x5)] []) : At p l e room_1 s m args below meth c 9 k sl Q B D Y o 3861 M [(0, .ref b), (1, .ref (B + 0)), (2, .ref (B + 47)), (3, .ref (B + 110)), (4, .ref (B + 111)), (5, .int x5)] [] := by
  dsimp only [f_law_51] at hf
  refine A_aload_n C (pc := 3861) 1 rfl dL_law_3861 ?_
  refine A_aload_n C (pc := 3862) 0 rfl dL_law_3862 ?_
  refine A_iload C (pc := 3863) 5 rfl dL_law_3863 ?_
  refine A_iconst C (pc := 3865) ic_1 dL_law_3865 ?_
  refine A_iadd C (pc := 3866) dL_law_3866 ?_
  refine A_sld C (pc := 3867) hXs hbl hbA h1 e1 dL_law_3867 ?_
  refine A_aload_n C (pc := 3868) 0 rfl dL_law_3868 ?_
  refine A_iload C (pc := 3869) 5 rfl dL_law_3869 ?_
  refine A_iconst C (pc := 3871) ic_2 dL_law_3871 ?_
  refine A_iadd C (pc := 3872) dL_law_3872 ?_
  refine A_sld C (pc := 3873) hXs hbl hbA h2 e2 dL_law_3873 ?_
  refine A_aload_n C (pc := 3874) 3 rfl dL_law_3874 ?_
  obtain ⟨z3875, h3875, hf⟩ := bd_i hf
  refine L_callS C (pc := 3875) hX (A := [.ref (B + 0), .int a1, .int a2, .ref (B + 110)]) (rest := []) kl_L_358 kw_L_undone (m_L_undone l hl9 B D Y o h3875) rfl rfl (Nat.le_of_ble_eq_true rfl) ⟨rfl, rfl, Nat.le_of_ble_eq_true rfl, Nat.le_of_ble_eq_true rfl⟩ ⟨by omega, by omega⟩ dL_law_3875 ?_
  refine A_istore C (pc := 3878) [(0, .ref b), (1, .ref (B + 0)), (2, .ref (B + 47)), (3, .ref (B + 110)), (4, .ref (B + 111)), (5, .int x5), (6, .int z3875.1)] (by decide) [1, 2, 3, 4, 5, 6, 0] rfl dL_law_3878 ?_
  refine A_aload_n C (pc := 3880) 2 rfl dL_law_3880 ?_
  refine A_aload_n C (pc := 3881) 0 rfl dL_law_3881 ?_
  refine A_iload C (pc := 3882) 5 rfl dL_law_3882 ?_
  refine A_iconst C (pc := 3884) ic_1 dL_law_3884 ?_
  refine A_iadd C (pc := 3885) dL_law_3885 ?_
  refine A_sld C (pc := 3886) hXs hbl hbA h1 e1 dL_law_3886 ?_
  refine A_aload_n C (pc := 3887) 0 rfl dL_law_3887 ?_
  refine A_iload C (pc := 3888) 5 rfl dL_law_3888 ?_
  refine A_iconst C (pc := 3890) ic_2 dL_law_3890 ?_
  refine A_iadd C (pc := 3891) dL_law_3891 ?_
  refine A_sld C (pc := 3892) hXs hbl hbA h2 e2 dL_law_3892 ?_
  obtain ⟨z3893, h3893, hf⟩ := bd_i hf
  refine A_callV1 C (pc := 3893) (A := [.int a1, .int a2]) (rest := []) k_L_360 ky_X7_undone kv_X7_undone (m_X7_undone l B D Y _ h3893) (by decide) rfl rfl rfl rfl (Nat.le_of_ble_eq_true rfl) ⟨rfl, rfl, Nat.le_of_ble_eq_true rfl, Nat.le_of_ble_eq_true rfl⟩ ⟨by omega, by omega⟩ dL_law_3893 ?_
  refine A_istore C (pc := 3896) [(0, .ref b), (1, .ref (B + 0)), (2, .ref (B + 47)), (3, .ref (B + 110)), (4, .ref (B + 111)), (5, .int x5), (6, .int z3875.1), (7, .int z3893.1)] (by decide) [1, 2, 3, 4, 5, 6, 7, 0] rfl dL_law_3896 ?_
  refine A_aload_n C (pc := 3898) 2 rfl dL_law_3898 ?_
  obtain ⟨z3899, h3899, hf⟩ := bd_i hf
  refine A_callV1 C (pc := 3899) (A := []) (rest := []) k_L_198 ky_X7_thrown kv_X7_thrown (m_X7_thrown l B D Y _ h3899) (by decide) rfl rfl rfl rfl (Nat.le_of_ble_eq_true rfl) ⟨rfl, rfl, Nat.le_of_ble_eq_true rfl, Nat.le_of_ble_eq_true rfl⟩ ⟨by omega, by omega⟩ dL_law_3899 ?_
  refine A_iload C (pc := 3902) 6 rfl dL_law_3902 ?_
  refine A_icmp_eq C (pc := 3904) 3909 (by decide) dL_law_3904 hf (fun _ hf => ?_) (fun _ hf => ?_)
  · refine A_iload C (pc := 3909) 6 rfl dL_law_3909 ?_
    refine A_if_ne C (pc := 3911) 3926 (by decide) dL_law_3911 hf (fun _ hf => ?_) (fun _ hf => ?_)
    · refine A_goto C (pc := 3926) 4081 (by decide) dL_law_3926 ?_
      cases hf
      refine A_sub [0, 1, 2, 3, 4, 5] rfl ?_
      exact A_widen (by omega) (by omega) (K _)
    · refine A_aload_n C (pc := 3914) 3 rfl dL_law_3914 ?_
      refine A_iconst C (pc := 3915) ic_0 dL_law_3915 ?_
      obtain ⟨w3916, e3916, hf⟩ := bd_i hf
      refine A_laldO C (pc := 3916) e3916 dL_law_3916 ?_
      refine A_iload C (pc := 3917) 7 rfl dL_law_3917 ?_
      refine A_i2l C (pc := 3919) dL_law_3919 ?_
      refine A_lcmp C (pc := 3920) dL_law_3920 ?_
      refine A_if_eq C (pc := 3921) 3926 (by decide) dL_law_3921 hf (fun _ hf => ?_) (fun _ hf => ?_)
      · refine A_goto C (pc := 3926) 4081 (by decide) dL_law_3926 ?_
        cases hf
        refine A_sub [0, 1, 2, 3, 4, 5] rfl ?_
        exact A_widen (by omega) (by omega) (K _)
      · refine A_iconst C (pc := 3924) ic_0 dL_law_3924 ?_
        cases hf
  · refine A_iconst C (pc := 3907) ic_0 dL_law_3907 ?_
    cases hf
set_option maxRecDepth 100000 in
theorem w_law_52 (C : Cx p s m args c cL_law 9 RL B D Y) (hX : XI B s) (hl9 : l.stackTraces = false) (hXs : va_X b LN xs s s.heap) (hbl : b < s.heap.size) (hbA : ¬ B ≤ b) {M M2 : Mem} {x5 a1 a2 a3 : Int32} (h1 : vp_in (x5 + 1) LN) (h2 : vp_in (x5 + 2) LN) (h3 : vp_in (x5 + 3) LN) (e1 : xs (x5 + 1).toNatClampNeg = a1) (e2 : xs (x5 + 2).toNatClampNeg = a2) (e3 : xs (x5 + 3).toNatClampNeg = a3) (hkc : k + 4 ≤ room_1.cells) (hks : sl + 24 ≤ room_1.slots) (hf : f_law_52 M a1 a2 a3 = some (some M2)) (K : ∀ o2, At p l e room_1 s m args below meth c 9 (k + 4) (sl + 24) Q B D Y o2 4081 M2 [(0, .ref b), (1, .ref (B + 0)), (2, .ref (B + 47)), (3, .ref (B + 110)), (4, .ref (B + 111)), (5, .int x5)] []) : At p l e room_1 s m args below meth c 9 k sl Q B D Y o 3929 M [(0, .ref b), (1, .ref (B + 0)), (2, .ref (B + 47)), (3, .ref (B + 110)), (4, .ref (B + 111)), (5, .int x5)] [] := by
  dsimp only [f_law_52] at hf
  refine A_aload_n C (pc := 3929) 1 rfl dL_law_3929 ?_
  refine A_aload_n C (pc := 3930) 0 rfl dL_law_3930 ?_
  refine A_iload C (pc := 3931) 5 rfl dL_law_3931 ?_
  refine A_iconst C (pc := 3933) ic_1 dL_law_3933 ?_
  refine A_iadd C (pc := 3934) dL_law_3934 ?_
  refine A_sld C (pc := 3935) hXs hbl hbA h1 e1 dL_law_3935 ?_
  refine A_aload_n C (pc := 3936) 3 rfl dL_law_3936 ?_
  obtain ⟨z3937, h3937, hf⟩ := bd_i hf
  refine L_callS C (pc := 3937) hX (A := [.ref (B + 0), .int a1, .ref (B + 110)]) (rest := []) kl_L_361 kw_L_isSound (m_L_isSound l hl9 B D Y o h3937) rfl rfl (Nat.le_of_ble_eq_true rfl) ⟨rfl, rfl, Nat.le_of_ble_eq_true rfl, Nat.le_of_ble_eq_true rfl⟩ ⟨by omega, by omega⟩ dL_law_3937 ?_
  refine A_istore C (pc := 3940) [(0, .ref b), (1, .ref (B + 0)), (2, .ref (B + 47)), (3, .ref (B + 110)), (4, .ref (B + 111)), (5, .int x5), (6, .int z3937.1)] (by decide) [1, 2, 3, 4, 5, 6, 0] rfl dL_law_3940 ?_
  refine A_aload_n C (pc := 3942) 2 rfl dL_law_3942 ?_
  refine A_aload_n C (pc := 3943) 0 rfl dL_law_3943 ?_
  refine A_iload C (pc := 3944) 5 rfl dL_law_3944 ?_
  refine A_iconst C (pc := 3946) ic_1 dL_law_3946 ?_
  refine A_iadd C (pc := 3947) dL_law_3947 ?_
  refine A_sld C (pc := 3948) hXs hbl hbA h1 e1 dL_law_3948 ?_
  obtain ⟨z3949, h3949, hf⟩ := bd_i hf
  refine A_callV1 C (pc := 3949) (A := [.int a1]) (rest := []) k_L_363 ky_X7_isSound kv_X7_isSound (m_X7_isSound l B D Y _ h3949) (by decide) rfl rfl rfl rfl (Nat.le_of_ble_eq_true rfl) ⟨rfl, rfl, Nat.le_of_ble_eq_true rfl, Nat.le_of_ble_eq_true rfl⟩ ⟨by omega, by omega⟩ dL_law_3949 ?_
  refine A_istore C (pc := 3952) [(0, .ref b), (1, .ref (B + 0)), (2, .ref (B + 47)), (3, .ref (B + 110)), (4, .ref (B + 111)), (5, .int x5), (6, .int z3937.1), (7, .int z3949.1)] (by decide) [1, 2, 3, 4, 5, 6, 7, 0] rfl dL_law_3952 ?_
  refine A_aload_n C (pc := 3954) 2 rfl dL_law_3954 ?_
  obtain ⟨z3955, h3955, hf⟩ := bd_i hf
  refine A_callV1 C (pc := 3955) (A := []) (rest := []) k_L_198 ky_X7_thrown kv_X7_thrown (m_X7_thrown l B D Y _ h3955) (by decide) rfl rfl rfl rfl (Nat.le_of_ble_eq_true rfl) ⟨rfl, rfl, Nat.le_of_ble_eq_true rfl, Nat.le_of_ble_eq_true rfl⟩ ⟨by omega, by omega⟩ dL_law_3955 ?_
  refine A_iload C (pc := 3958) 6 rfl dL_law_3958 ?_
  refine A_icmp_eq C (pc := 3960) 3965 (by decide) dL_law_3960 hf (fun _ hf => ?_) (fun _ hf => ?_)
  · refine A_iload C (pc := 3965) 6 rfl dL_law_3965 ?_
    refine A_if_ne C (pc := 3967) 3989 (by decide) dL_law_3967 hf (fun _ hf => ?_) (fun _ hf => ?_)
    · refine A_goto C (pc := 3989) 4081 (by decide) dL_law_3989 ?_
      cases hf
      refine A_sub [0, 1, 2, 3, 4, 5] rfl ?_
      exact A_widen (by omega) (by omega) (K _)
    · refine A_aload_n C (pc := 3970) 3 rfl dL_law_3970 ?_
      refine A_iconst C (pc := 3971) ic_0 dL_law_3971 ?_
      obtain ⟨w3972, e3972, hf⟩ := bd_i hf
      refine A_laldO C (pc := 3972) e3972 dL_law_3972 ?_
      refine A_iload C (pc := 3973) 7 rfl dL_law_3973 ?_
      refine A_if_eq C (pc := 3975) 3982 (by decide) dL_law_3975 hf (fun _ hf => ?_) (fun _ hf => ?_)
      · refine A_lconst C (pc := 3982) (v := 0) (by decide) dL_law_3982 ?_
        refine A_lcmp C (pc := 3983) dL_law_3983 ?_
        refine A_if_eq C (pc := 3984) 3989 (by decide) dL_law_3984 hf (fun _ hf => ?_) (fun _ hf => ?_)
        · refine A_goto C (pc := 3989) 4081 (by decide) dL_law_3989 ?_
          cases hf
          refine A_sub [0, 1, 2, 3, 4, 5] rfl ?_
          exact A_widen (by omega) (by omega) (K _)
        · refine A_iconst C (pc := 3987) ic_0 dL_law_3987 ?_
          cases hf
      · refine A_lconst C (pc := 3978) (v := 1) (by decide) dL_law_3978 ?_
        refine A_goto C (pc := 3979) 3983 (by decide) dL_law_3979 ?_
        refine A_lcmp C (pc := 3983) dL_law_3983 ?_
        refine A_if_eq C (pc := 3984) 3989 (by decide) dL_law_3984 hf (fun _ hf => ?_) (fun _ hf => ?_)
        · refine A_goto C (pc := 3989) 4081 (by decide) dL_law_3989 ?_
          cases hf
          refine A_sub [0, 1, 2, 3, 4, 5] rfl ?_
          exact A_widen (by omega) (by omega) (K _)
        · refine A_iconst C (pc := 3987) ic_0 dL_law_3987 ?_
          cases hf
  · refine A_iconst C (pc := 3963) ic_0 dL_law_3963 ?_
    cases hf
set_option maxRecDepth 100000 in
theorem w_law_53 (C : Cx p s m args c cL_law 9 RL B D Y) (hX : XI B s) (hl9 : l.stackTraces = false) (hXs : va_X b LN xs s s.heap) (hbl : b < s.heap.size) (hbA : ¬ B ≤ b) {M M2 : Mem} {x5 a1 a2 a3 : Int32} (h1 : vp_in (x5 + 1) LN) (h2 : vp_in (x5 + 2) LN) (h3 : vp_in (x5 + 3) LN) (e1 : xs (x5 + 1).toNatClampNeg = a1) (e2 : xs (x5 + 2).toNatClampNeg = a2) (e3 : xs (x5 + 3).toNatClampNeg = a3) (hkc : k + 4 ≤ room_1.cells) (hks : sl + 24 ≤ room_1.slots) (hf : f_law_53 M a1 a2 a3 = some (some M2)) (K : ∀ o2, At p l e room_1 s m args below meth c 9 (k + 4) (sl + 24) Q B D Y o2 4081 M2 [(0, .ref b), (1, .ref (B + 0)), (2, .ref (B + 47)), (3, .ref (B + 110)), (4, .ref (B + 111)), (5, .int x5)] []) : At p l e room_1 s m args below meth c 9 k sl Q B D Y o 3992 M [(0, .ref b), (1, .ref (B + 0)), (2, .ref (B + 47)), (3, .ref (B + 110)), (4, .ref (B + 111)), (5, .int x5)] [] := by
  dsimp only [f_law_53] at hf
  refine A_aload_n C (pc := 3992) 1 rfl dL_law_3992 ?_
  refine A_aload_n C (pc := 3993) 0 rfl dL_law_3993 ?_
  refine A_iload C (pc := 3994) 5 rfl dL_law_3994 ?_
  refine A_iconst C (pc := 3996) ic_1 dL_law_3996 ?_
  refine A_iadd C (pc := 3997) dL_law_3997 ?_
  refine A_sld C (pc := 3998) hXs hbl hbA h1 e1 dL_law_3998 ?_
  refine A_aload_n C (pc := 3999) 0 rfl dL_law_3999 ?_
  refine A_iload C (pc := 4000) 5 rfl dL_law_4000 ?_
  refine A_iconst C (pc := 4002) ic_2 dL_law_4002 ?_
  refine A_iadd C (pc := 4003) dL_law_4003 ?_
  refine A_sld C (pc := 4004) hXs hbl hbA h2 e2 dL_law_4004 ?_
  refine A_aload_n C (pc := 4005) 3 rfl dL_law_4005 ?_
  obtain ⟨z4006, h4006, hf⟩ := bd_i hf
  refine L_callS C (pc := 4006) hX (A := [.ref (B + 0), .int a1, .int a2, .ref (B + 110)]) (rest := []) kl_L_364 kw_L_areSound (m_L_areSound l hl9 B D Y o h4006) rfl rfl (Nat.le_of_ble_eq_true rfl) ⟨rfl, rfl, Nat.le_of_ble_eq_true rfl, Nat.le_of_ble_eq_true rfl⟩ ⟨by omega, by omega⟩ dL_law_4006 ?_
  refine A_istore C (pc := 4009) [(0, .ref b), (1, .ref (B + 0)), (2, .ref (B + 47)), (3, .ref (B + 110)), (4, .ref (B + 111)), (5, .int x5), (6, .int z4006.1)] (by decide) [1, 2, 3, 4, 5, 6, 0] rfl dL_law_4009 ?_
  refine A_aload_n C (pc := 4011) 2 rfl dL_law_4011 ?_
  refine A_aload_n C (pc := 4012) 0 rfl dL_law_4012 ?_
  refine A_iload C (pc := 4013) 5 rfl dL_law_4013 ?_
  refine A_iconst C (pc := 4015) ic_1 dL_law_4015 ?_
  refine A_iadd C (pc := 4016) dL_law_4016 ?_
  refine A_sld C (pc := 4017) hXs hbl hbA h1 e1 dL_law_4017 ?_
  refine A_aload_n C (pc := 4018) 0 rfl dL_law_4018 ?_
  refine A_iload C (pc := 4019) 5 rfl dL_law_4019 ?_
  refine A_iconst C (pc := 4021) ic_2 dL_law_4021 ?_
  refine A_iadd C (pc := 4022) dL_law_4022 ?_
  refine A_sld C (pc := 4023) hXs hbl hbA h2 e2 dL_law_4023 ?_
  obtain ⟨z4024, h4024, hf⟩ := bd_i hf
  refine A_callV1 C (pc := 4024) (A := [.int a1, .int a2]) (rest := []) k_L_366 ky_X7_areSound kv_X7_areSound (m_X7_areSound l B D Y _ h4024) (by decide) rfl rfl rfl rfl (Nat.le_of_ble_eq_true rfl) ⟨rfl, rfl, Nat.le_of_ble_eq_true rfl, Nat.le_of_ble_eq_true rfl⟩ ⟨by omega, by omega⟩ dL_law_4024 ?_
  refine A_istore C (pc := 4027) [(0, .ref b), (1, .ref (B + 0)), (2, .ref (B + 47)), (3, .ref (B + 110)), (4, .ref (B + 111)), (5, .int x5), (6, .int z4006.1), (7, .int z4024.1)] (by decide) [1, 2, 3, 4, 5, 6, 7, 0] rfl dL_law_4027 ?_
  refine A_aload_n C (pc := 4029) 2 rfl dL_law_4029 ?_
  obtain ⟨z4030, h4030, hf⟩ := bd_i hf
  refine A_callV1 C (pc := 4030) (A := []) (rest := []) k_L_198 ky_X7_thrown kv_X7_thrown (m_X7_thrown l B D Y _ h4030) (by decide) rfl rfl rfl rfl (Nat.le_of_ble_eq_true rfl) ⟨rfl, rfl, Nat.le_of_ble_eq_true rfl, Nat.le_of_ble_eq_true rfl⟩ ⟨by omega, by omega⟩ dL_law_4030 ?_
  refine A_iload C (pc := 4033) 6 rfl dL_law_4033 ?_
  refine A_icmp_eq C (pc := 4035) 4040 (by decide) dL_law_4035 hf (fun _ hf => ?_) (fun _ hf => ?_)
  · refine A_iload C (pc := 4040) 6 rfl dL_law_4040 ?_
    refine A_if_ne C (pc := 4042) 4064 (by decide) dL_law_4042 hf (fun _ hf => ?_) (fun _ hf => ?_)
    · refine A_goto C (pc := 4064) 4081 (by decide) dL_law_4064 ?_
      cases hf
      refine A_sub [0, 1, 2, 3, 4, 5] rfl ?_
      exact A_widen (by omega) (by omega) (K _)
    · refine A_aload_n C (pc := 4045) 3 rfl dL_law_4045 ?_
      refine A_iconst C (pc := 4046) ic_0 dL_law_4046 ?_
      obtain ⟨w4047, e4047, hf⟩ := bd_i hf
      refine A_laldO C (pc := 4047) e4047 dL_law_4047 ?_
      refine A_iload C (pc := 4048) 7 rfl dL_law_4048 ?_
      refine A_if_eq C (pc := 4050) 4057 (by decide) dL_law_4050 hf (fun _ hf => ?_) (fun _ hf => ?_)
      · refine A_lconst C (pc := 4057) (v := 0) (by decide) dL_law_4057 ?_
        refine A_lcmp C (pc := 4058) dL_law_4058 ?_
        refine A_if_eq C (pc := 4059) 4064 (by decide) dL_law_4059 hf (fun _ hf => ?_) (fun _ hf => ?_)
        · refine A_goto C (pc := 4064) 4081 (by decide) dL_law_4064 ?_
          cases hf
          refine A_sub [0, 1, 2, 3, 4, 5] rfl ?_
          exact A_widen (by omega) (by omega) (K _)
        · refine A_iconst C (pc := 4062) ic_0 dL_law_4062 ?_
          cases hf
      · refine A_lconst C (pc := 4053) (v := 1) (by decide) dL_law_4053 ?_
        refine A_goto C (pc := 4054) 4058 (by decide) dL_law_4054 ?_
        refine A_lcmp C (pc := 4058) dL_law_4058 ?_
        refine A_if_eq C (pc := 4059) 4064 (by decide) dL_law_4059 hf (fun _ hf => ?_) (fun _ hf => ?_)
        · refine A_goto C (pc := 4064) 4081 (by decide) dL_law_4064 ?_
          cases hf
          refine A_sub [0, 1, 2, 3, 4, 5] rfl ?_
          exact A_widen (by omega) (by omega) (K _)
        · refine A_iconst C (pc := 4062) ic_0 dL_law_4062 ?_
          cases hf
  · refine A_iconst C (pc := 4038) ic_0 dL_law_4038 ?_
    cases hf
set_option maxRecDepth 100000 in
theorem w_law_54 (C : Cx p s m args c cL_law 9 RL B D Y) (hX : XI B s) (hl9 : l.stackTraces = false) (hXs : va_X b LN xs s s.heap) (hbl : b < s.heap.size) (hbA : ¬ B ≤ b) {M M2 : Mem} {x5 a1 a2 a3 : Int32} (h1 : vp_in (x5 + 1) LN) (h2 : vp_in (x5 + 2) LN) (h3 : vp_in (x5 + 3) LN) (e1 : xs (x5 + 1).toNatClampNeg = a1) (e2 : xs (x5 + 2).toNatClampNeg = a2) (e3 : xs (x5 + 3).toNatClampNeg = a3) (hkc : k + 4 ≤ room_1.cells) (hks : sl + 24 ≤ room_1.slots) (hf : f_law_54 M a1 a2 a3 = some (some M2)) (K : ∀ o2, At p l e room_1 s m args below meth c 9 (k + 4) (sl + 24) Q B D Y o2 4081 M2 [(0, .ref b), (1, .ref (B + 0)), (2, .ref (B + 47)), (3, .ref (B + 110)), (4, .ref (B + 111)), (5, .int x5)] []) : At p l e room_1 s m args below meth c 9 k sl Q B D Y o 4067 M [(0, .ref b), (1, .ref (B + 0)), (2, .ref (B + 47)), (3, .ref (B + 110)), (4, .ref (B + 111)), (5, .int x5)] [] := by
  dsimp only [f_law_54] at hf
  refine A_aload_n C (pc := 4067) 1 rfl dL_law_4067 ?_
  obtain ⟨z4068, h4068, hf⟩ := bd_i hf
  refine A_callV1 C (pc := 4068) (A := []) (rest := []) k_L_367 ky_X6_checksum kv_X6_checksum (m_X6_checksum l B D Y _ h4068) (by decide) rfl rfl rfl rfl (Nat.le_of_ble_eq_true rfl) ⟨rfl, rfl, Nat.le_of_ble_eq_true rfl, Nat.le_of_ble_eq_true rfl⟩ ⟨by omega, by omega⟩ dL_law_4068 ?_
  refine A_aload_n C (pc := 4071) 2 rfl dL_law_4071 ?_
  obtain ⟨z4072, h4072, hf⟩ := bd_i hf
  refine A_callV1 C (pc := 4072) (A := []) (rest := [.long z4068.1]) k_L_371 ky_X7_checksum kv_X7_checksum (m_X7_checksum l B D Y _ h4072) (by decide) rfl rfl rfl rfl (Nat.le_of_ble_eq_true rfl) ⟨rfl, rfl, Nat.le_of_ble_eq_true rfl, Nat.le_of_ble_eq_true rfl⟩ ⟨by omega, by omega⟩ dL_law_4072 ?_
  refine A_lcmp C (pc := 4075) dL_law_4075 ?_
  refine A_if_eq C (pc := 4076) 4081 (by decide) dL_law_4076 hf (fun _ hf => ?_) (fun _ hf => ?_)
  · cases hf
    refine A_sub [0, 1, 2, 3, 4, 5] rfl ?_
    exact A_widen (by omega) (by omega) (K _)
  · refine A_iconst C (pc := 4079) ic_0 dL_law_4079 ?_
    cases hf
end WC
