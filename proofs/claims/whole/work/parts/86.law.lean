def lo_X (x : kf_X) (b L : Nat) (xs : Nat → Int32) : Prop := match x with
  | (_, _, _, s, _, _, _, _, _, A, _, _, _) => va_X b L xs s s.heap ∧ b < s.heap.size ∧ ¬ A b
def lo_lv (g : kf_G) (b : Nat) (i : Int32) : List (Nat × Value) := [(3, .int i), (0, .ref b), (1, .ref (g.2.2.2 0)), (2, .ref (g.2.2.2 72))]
section LO
variable {g : kf_G} {x : kf_X} {pc : Nat} {lv : List (Nat × Value)} {st : List Value} {I : HI} {J : HJ} {b L n : Nat} {xs : Nat → Int32}
theorem lo_sld (hx : kf_ok g x "TellFirstLaw" cL_law 4 2048 84000) (hX : lo_X x b L xs) {i : Int32} (hin : vp_in i L) (hd : decode cL_law pc = .ok (.iaload, 1)) (k : kf_M g x 4 (pc + 1) lv (.int (xs i.toNatClampNeg) :: st) I J) : kf_M g x 4 pc lv (.int i :: .ref b :: st) I J := by
  obtain ⟨p, e, R, s, m, args, below, meth, c, A, cells, slots, Q⟩ := x
  obtain ⟨h1, h2, -⟩ := hx
  obtain ⟨q1, q2, q3⟩ := hX
  intro H locs ls hl hP hS
  exact va_sld h1 h2 q1 q2 q3 hS hin hd (k H locs ls hl hP hS)
theorem lo_slen (hx : kf_ok g x "TellFirstLaw" cL_law 4 2048 84000) (hX : lo_X x b L xs) (hd : decode cL_law pc = .ok (.arraylength, 1)) (k : kf_M g x 4 (pc + 1) lv (.int (nI L) :: st) I J) : kf_M g x 4 pc lv (.ref b :: st) I J := by
  obtain ⟨p, e, R, s, m, args, below, meth, c, A, cells, slots, Q⟩ := x
  obtain ⟨h1, h2, -⟩ := hx
  obtain ⟨q1, q2, q3⟩ := hX
  intro H locs ls hl hP hS
  exact va_slen h1 h2 q1 q2 q3 hS hd (k H locs ls hl hP hS)
/-- what a case of the law stands on -/
def lo_C (g : kf_G) (x : kf_X) (b L n : Nat) (xs : Nat → Int32) : Prop := kf_ok g x "TellFirstLaw" cL_law 4 2048 84000 ∧ lo_X x b L xs ∧ n + 6 ≤ L ∧ L ≤ 3072 ∧ ∀ (I : HI) (J : HJ), Inv I J → kf_M g x 4 1400 (lo_lv g b (nI n)) [] I J
theorem kf_okg (hx : kf_ok g x "TellFirstLaw" cL_law 4 2048 84000) : kf_g g := by
  obtain ⟨p, e, R, s, m, args, below, meth, c, A, cells, slots, Q⟩ := x
  exact hx.2.2.2.2.2.2.1
theorem lo_arg (C : lo_C g x b L n xs) {j : Nat} {z : Int} (hz : Int32.ofInt z = nI j) (hj : j < 6) (h0 : decode cL_law pc = .ok (.aload_n 0, 1)) (h1 : decode cL_law (pc + 1) = .ok (.iload_n 3, 1)) (h2 : decode cL_law (pc + 2) = .ok (.iconst z, 1)) (h3 : decode cL_law (pc + 3) = .ok (.iadd, 1)) (h4 : decode cL_law (pc + 4) = .ok (.iaload, 1)) (k : kf_M g x 4 (pc + 5) (lo_lv g b (nI n)) (.int (xs (n + j)) :: st) I J) : kf_M g x 4 pc (lo_lv g b (nI n)) st I J := by
  obtain ⟨hx, hX, hn, hL, -⟩ := C
  refine kf_aload_n hx h0 rfl 1 rfl ?_
  refine kf_iload_n hx h1 rfl 0 rfl ?_
  refine kf_iconst hx h2 hz ?_
  refine kf_iadd hx h3 ?_
  rw [nI_add]
  refine lo_sld hx hX (nI_in (show n + j < L by omega) (by omega)) h4 ?_
  rw [nI_clamp (by omega : n + j < 2 ^ 31)]
  exact k
theorem lo_bool (C : lo_C g x b L n xs) {v : Int32} (h0 : decode cL_law pc = .ok (.ifCond .eq 7, 3)) (h1 : decode cL_law (pc + 3) = .ok (.iconst 1, 1)) (h2 : decode cL_law (pc + 4) = .ok (.goto 4, 3)) (h3 : decode cL_law (pc + 7) = .ok (.iconst 0, 1)) (k : kf_M g x 4 (pc + 8) (lo_lv g b (nI n)) (.int (if v = 0 then 0 else 1) :: st) I J) : kf_M g x 4 pc (lo_lv g b (nI n)) (.int v :: st) I J := by
  obtain ⟨hx, -⟩ := C
  refine kf_if_eq hx (pc + 7) h0 (by omega) (fun h => ?_) (fun h => ?_)
  · refine kf_iconst hx h3 (v := 0) (by decide) ?_
    rw [if_pos h] at k; exact k
  · refine kf_iconst hx h1 (v := 1) (by decide) ?_
    refine kf_goto hx (pc + 8) h2 (by omega) ?_
    rw [if_neg h] at k; exact k
theorem lo_c0 (C : lo_C g x b L n xs) (hI : Inv I J) : kf_M g x 4 192 (lo_lv g b (nI n)) [] I J := by
  have hg := kf_okg C.1
  have o := op_status hI 
  refine kf_aload_n C.1 dL_law_192 rfl 2 rfl ?_
  refine kf_callVi C.1 (m_X10_status g hg _ _ _ o) lk_RL_13 km_X10_status ob_0 rfl (by decide) rfl (Nat.le_of_ble_eq_true rfl) dL_law_193 (fun v I1 J1 h1 => ?_)
  obtain ⟨h1, rfl, rfl⟩ := h1
  refine kf_aload_n C.1 dL_law_196 rfl 3 rfl ?_
  refine kf_callVi C.1 (m_X11_status g hg _ _ _ h1) lk_RL_17 km_X11_status ob_72 rfl (by decide) rfl (Nat.le_of_ble_eq_true rfl) dL_law_197 (fun w I2 J2 h2 => ?_)
  obtain ⟨h2, rfl⟩ := h2
  obtain ⟨rfl, h2⟩ := h2
  exact kf_icmp_eq C.1 1400 dL_law_200 rfl (fun _ => C.2.2.2.2 _ _ h2) (fun h => absurd rfl h)
theorem lo_c1 (C : lo_C g x b L n xs) (hI : Inv I J) : kf_M g x 4 205 (lo_lv g b (nI n)) [] I J := by
  have hg := kf_okg C.1
  have o := op_top hI 
  refine kf_aload_n C.1 dL_law_205 rfl 2 rfl ?_
  refine kf_callVl C.1 (m_X10_top g hg _ _ _ o) lk_RL_18 km_X10_top ob_0 rfl (by decide) rfl (Nat.le_of_ble_eq_true rfl) dL_law_206 (fun v I1 J1 h1 => ?_)
  obtain ⟨h1, rfl, rfl⟩ := h1
  refine kf_aload_n C.1 dL_law_209 rfl 3 rfl ?_
  refine kf_callVl C.1 (m_X11_top g hg _ _ _ h1) lk_RL_22 km_X11_top ob_72 rfl (by decide) rfl (Nat.le_of_ble_eq_true rfl) dL_law_210 (fun w I2 J2 h2 => ?_)
  obtain ⟨h2, rfl⟩ := h2
  obtain ⟨rfl, h2⟩ := h2
  exact kf_l_eq C.1 1400 dL_law_213 dL_law_214 rfl (fun _ => C.2.2.2.2 _ _ h2) (fun h => absurd rfl h)
theorem lo_c2 (C : lo_C g x b L n xs) (hI : Inv I J) : kf_M g x 4 219 (lo_lv g b (nI n)) [] I J := by
  have hg := kf_okg C.1
  have o := op_bottom hI 
  refine kf_aload_n C.1 dL_law_219 rfl 2 rfl ?_
  refine kf_callVl C.1 (m_X10_bottom g hg _ _ _ o) lk_RL_23 km_X10_bottom ob_0 rfl (by decide) rfl (Nat.le_of_ble_eq_true rfl) dL_law_220 (fun v I1 J1 h1 => ?_)
  obtain ⟨h1, rfl, rfl⟩ := h1
  refine kf_aload_n C.1 dL_law_223 rfl 3 rfl ?_
  refine kf_callVl C.1 (m_X11_bottom g hg _ _ _ h1) lk_RL_26 km_X11_bottom ob_72 rfl (by decide) rfl (Nat.le_of_ble_eq_true rfl) dL_law_224 (fun w I2 J2 h2 => ?_)
  obtain ⟨h2, rfl⟩ := h2
  obtain ⟨rfl, h2⟩ := h2
  exact kf_l_eq C.1 1400 dL_law_227 dL_law_228 rfl (fun _ => C.2.2.2.2 _ _ h2) (fun h => absurd rfl h)
theorem lo_c3 (C : lo_C g x b L n xs) (hI : Inv I J) : kf_M g x 4 233 (lo_lv g b (nI n)) [] I J := by
  have hg := kf_okg C.1
  have o := op_tray hI (xs (n + 1)) (xs (n + 2)) (xs (n + 3))
  refine kf_aload_n C.1 dL_law_233 rfl 2 rfl ?_
  refine lo_arg C (j := 1) rfl (by decide) dL_law_234 dL_law_235 dL_law_236 dL_law_237 dL_law_238 ?_
  refine lo_arg C (j := 2) rfl (by decide) dL_law_239 dL_law_240 dL_law_241 dL_law_242 dL_law_243 ?_
  refine lo_arg C (j := 3) rfl (by decide) dL_law_244 dL_law_245 dL_law_246 dL_law_247 dL_law_248 ?_
  refine kf_callVb C.1 (m_X10_tray g hg _ _ _ _ _ _ o) lk_RL_27 km_X10_tray ob_0 rfl (by decide) rfl (Nat.le_of_ble_eq_true rfl) dL_law_249 (fun v I1 J1 h1 => ?_)
  refine kf_aload_n C.1 dL_law_252 rfl 3 rfl ?_
  refine lo_arg C (j := 1) rfl (by decide) dL_law_253 dL_law_254 dL_law_255 dL_law_256 dL_law_257 ?_
  refine lo_arg C (j := 2) rfl (by decide) dL_law_258 dL_law_259 dL_law_260 dL_law_261 dL_law_262 ?_
  refine lo_arg C (j := 3) rfl (by decide) dL_law_263 dL_law_264 dL_law_265 dL_law_266 dL_law_267 ?_
  refine kf_callVb C.1 (m_X11_tray g hg _ _ _ _ _ _ h1) lk_RL_31 km_X11_tray ob_72 rfl (by decide) rfl (Nat.le_of_ble_eq_true rfl) dL_law_268 (fun w I2 J2 h2 => ?_)
  obtain ⟨rfl, h2⟩ := h2
  exact kf_icmp_eq C.1 1400 dL_law_271 rfl (fun _ => C.2.2.2.2 _ _ h2) (fun h => absurd rfl h)
theorem lo_c4 (C : lo_C g x b L n xs) (hI : Inv I J) : kf_M g x 4 276 (lo_lv g b (nI n)) [] I J := by
  have hg := kf_okg C.1
  have o := op_write hI (xs (n + 1)) (xs (n + 2)) (((Int32.toInt64 (xs (n + 3))) <<< (Int32.toInt64 (32) &&& 63)) ||| ((Int32.toInt64 (xs (n + 4))) &&& 4294967295))
  refine kf_aload_n C.1 dL_law_276 rfl 2 rfl ?_
  refine lo_arg C (j := 1) rfl (by decide) dL_law_277 dL_law_278 dL_law_279 dL_law_280 dL_law_281 ?_
  refine lo_arg C (j := 2) rfl (by decide) dL_law_282 dL_law_283 dL_law_284 dL_law_285 dL_law_286 ?_
  refine lo_arg C (j := 3) rfl (by decide) dL_law_287 dL_law_288 dL_law_289 dL_law_290 dL_law_291 ?_
  refine kf_i2l C.1 dL_law_292 ?_
  refine kf_bipush C.1 dL_law_293 (v := 32) (by decide) ?_
  refine kf_lshl C.1 dL_law_295 ?_
  refine lo_arg C (j := 4) rfl (by decide) dL_law_296 dL_law_297 dL_law_298 dL_law_299 dL_law_300 ?_
  refine kf_i2l C.1 dL_law_301 ?_
  refine kf_ldc2 C.1 ko_RL_32 dL_law_302 ?_
  refine kf_land C.1 dL_law_305 ?_
  refine kf_lor C.1 dL_law_306 ?_
  refine kf_callVb C.1 (m_X10_write g hg _ _ _ _ _ _ o) lk_RL_34 km_X10_write ob_0 rfl (by decide) rfl (Nat.le_of_ble_eq_true rfl) dL_law_307 (fun v I1 J1 h1 => ?_)
  refine kf_aload_n C.1 dL_law_310 rfl 3 rfl ?_
  refine lo_arg C (j := 1) rfl (by decide) dL_law_311 dL_law_312 dL_law_313 dL_law_314 dL_law_315 ?_
  refine lo_arg C (j := 2) rfl (by decide) dL_law_316 dL_law_317 dL_law_318 dL_law_319 dL_law_320 ?_
  refine lo_arg C (j := 3) rfl (by decide) dL_law_321 dL_law_322 dL_law_323 dL_law_324 dL_law_325 ?_
  refine kf_i2l C.1 dL_law_326 ?_
  refine kf_bipush C.1 dL_law_327 (v := 32) (by decide) ?_
  refine kf_lshl C.1 dL_law_329 ?_
  refine lo_arg C (j := 4) rfl (by decide) dL_law_330 dL_law_331 dL_law_332 dL_law_333 dL_law_334 ?_
  refine kf_i2l C.1 dL_law_335 ?_
  refine kf_ldc2 C.1 ko_RL_32 dL_law_336 ?_
  refine kf_land C.1 dL_law_339 ?_
  refine kf_lor C.1 dL_law_340 ?_
  refine kf_callVb C.1 (m_X11_write g hg _ _ _ _ _ _ h1) lk_RL_38 km_X11_write ob_72 rfl (by decide) rfl (Nat.le_of_ble_eq_true rfl) dL_law_341 (fun w I2 J2 h2 => ?_)
  obtain ⟨rfl, h2⟩ := h2
  exact kf_icmp_eq C.1 1400 dL_law_344 rfl (fun _ => C.2.2.2.2 _ _ h2) (fun h => absurd rfl h)
theorem lo_c5 (C : lo_C g x b L n xs) (hI : Inv I J) : kf_M g x 4 349 (lo_lv g b (nI n)) [] I J := by
  have hg := kf_okg C.1
  have o := op_read hI (xs (n + 1)) (xs (n + 2))
  refine kf_aload_n C.1 dL_law_349 rfl 2 rfl ?_
  refine lo_arg C (j := 1) rfl (by decide) dL_law_350 dL_law_351 dL_law_352 dL_law_353 dL_law_354 ?_
  refine lo_arg C (j := 2) rfl (by decide) dL_law_355 dL_law_356 dL_law_357 dL_law_358 dL_law_359 ?_
  refine kf_callVl C.1 (m_X10_read g hg _ _ _ _ _ o) lk_RL_39 km_X10_read ob_0 rfl (by decide) rfl (Nat.le_of_ble_eq_true rfl) dL_law_360 (fun v I1 J1 h1 => ?_)
  obtain ⟨h1, rfl⟩ := h1
  refine kf_aload_n C.1 dL_law_363 rfl 3 rfl ?_
  refine lo_arg C (j := 1) rfl (by decide) dL_law_364 dL_law_365 dL_law_366 dL_law_367 dL_law_368 ?_
  refine lo_arg C (j := 2) rfl (by decide) dL_law_369 dL_law_370 dL_law_371 dL_law_372 dL_law_373 ?_
  refine kf_callVl C.1 (m_X11_read g hg _ _ _ _ _ h1) lk_RL_43 km_X11_read ob_72 rfl (by decide) rfl (Nat.le_of_ble_eq_true rfl) dL_law_374 (fun w I2 J2 h2 => ?_)
  obtain ⟨h2, rfl⟩ := h2
  obtain ⟨rfl, h2⟩ := h2
  exact kf_l_eq C.1 1400 dL_law_377 dL_law_378 rfl (fun _ => C.2.2.2.2 _ _ h2) (fun h => absurd rfl h)
theorem lo_c6 (C : lo_C g x b L n xs) (hI : Inv I J) : kf_M g x 4 383 (lo_lv g b (nI n)) [] I J := by
  have hg := kf_okg C.1
  have o := op_pour hI (xs (n + 1)) (xs (n + 2)) (xs (n + 3)) (xs (n + 4)) (xs (n + 5))
  refine kf_aload_n C.1 dL_law_383 rfl 2 rfl ?_
  refine lo_arg C (j := 1) rfl (by decide) dL_law_384 dL_law_385 dL_law_386 dL_law_387 dL_law_388 ?_
  refine lo_arg C (j := 2) rfl (by decide) dL_law_389 dL_law_390 dL_law_391 dL_law_392 dL_law_393 ?_
  refine lo_arg C (j := 3) rfl (by decide) dL_law_394 dL_law_395 dL_law_396 dL_law_397 dL_law_398 ?_
  refine lo_arg C (j := 4) rfl (by decide) dL_law_399 dL_law_400 dL_law_401 dL_law_402 dL_law_403 ?_
  refine lo_arg C (j := 5) rfl (by decide) dL_law_404 dL_law_405 dL_law_406 dL_law_407 dL_law_408 ?_
  refine kf_callVb C.1 (m_X10_pour g hg _ _ _ _ _ _ _ _ o) lk_RL_44 km_X10_pour ob_0 rfl (by decide) rfl (Nat.le_of_ble_eq_true rfl) dL_law_409 (fun v I1 J1 h1 => ?_)
  refine kf_aload_n C.1 dL_law_412 rfl 3 rfl ?_
  refine lo_arg C (j := 1) rfl (by decide) dL_law_413 dL_law_414 dL_law_415 dL_law_416 dL_law_417 ?_
  refine lo_arg C (j := 2) rfl (by decide) dL_law_418 dL_law_419 dL_law_420 dL_law_421 dL_law_422 ?_
  refine lo_arg C (j := 3) rfl (by decide) dL_law_423 dL_law_424 dL_law_425 dL_law_426 dL_law_427 ?_
  refine lo_arg C (j := 4) rfl (by decide) dL_law_428 dL_law_429 dL_law_430 dL_law_431 dL_law_432 ?_
  refine lo_arg C (j := 5) rfl (by decide) dL_law_433 dL_law_434 dL_law_435 dL_law_436 dL_law_437 ?_
  refine kf_callVb C.1 (m_X11_pour g hg _ _ _ _ _ _ _ _ h1) lk_RL_48 km_X11_pour ob_72 rfl (by decide) rfl (Nat.le_of_ble_eq_true rfl) dL_law_438 (fun w I2 J2 h2 => ?_)
  obtain ⟨rfl, h2⟩ := h2
  exact kf_icmp_eq C.1 1400 dL_law_441 rfl (fun _ => C.2.2.2.2 _ _ h2) (fun h => absurd rfl h)
theorem lo_c7 (C : lo_C g x b L n xs) (hI : Inv I J) : kf_M g x 4 446 (lo_lv g b (nI n)) [] I J := by
  have hg := kf_okg C.1
  have o := op_feed hI (xs (n + 1)) (xs (n + 2)) (xs (n + 3)) (xs (n + 4)) (xs (n + 5))
  refine kf_aload_n C.1 dL_law_446 rfl 2 rfl ?_
  refine lo_arg C (j := 1) rfl (by decide) dL_law_447 dL_law_448 dL_law_449 dL_law_450 dL_law_451 ?_
  refine lo_arg C (j := 2) rfl (by decide) dL_law_452 dL_law_453 dL_law_454 dL_law_455 dL_law_456 ?_
  refine lo_arg C (j := 3) rfl (by decide) dL_law_457 dL_law_458 dL_law_459 dL_law_460 dL_law_461 ?_
  refine lo_arg C (j := 4) rfl (by decide) dL_law_462 dL_law_463 dL_law_464 dL_law_465 dL_law_466 ?_
  refine lo_arg C (j := 5) rfl (by decide) dL_law_467 dL_law_468 dL_law_469 dL_law_470 dL_law_471 ?_
  refine kf_callVi C.1 (m_X10_feed g hg _ _ _ _ _ _ _ _ o) lk_RL_49 km_X10_feed ob_0 rfl (by decide) rfl (Nat.le_of_ble_eq_true rfl) dL_law_472 (fun v I1 J1 h1 => ?_)
  obtain ⟨h1, rfl⟩ := h1
  refine kf_aload_n C.1 dL_law_475 rfl 3 rfl ?_
  refine lo_arg C (j := 1) rfl (by decide) dL_law_476 dL_law_477 dL_law_478 dL_law_479 dL_law_480 ?_
  refine lo_arg C (j := 2) rfl (by decide) dL_law_481 dL_law_482 dL_law_483 dL_law_484 dL_law_485 ?_
  refine lo_arg C (j := 3) rfl (by decide) dL_law_486 dL_law_487 dL_law_488 dL_law_489 dL_law_490 ?_
  refine lo_arg C (j := 4) rfl (by decide) dL_law_491 dL_law_492 dL_law_493 dL_law_494 dL_law_495 ?_
  refine lo_arg C (j := 5) rfl (by decide) dL_law_496 dL_law_497 dL_law_498 dL_law_499 dL_law_500 ?_
  refine kf_callVi C.1 (m_X11_feed g hg _ _ _ _ _ _ _ _ h1) lk_RL_53 km_X11_feed ob_72 rfl (by decide) rfl (Nat.le_of_ble_eq_true rfl) dL_law_501 (fun w I2 J2 h2 => ?_)
  obtain ⟨h2, rfl⟩ := h2
  obtain ⟨rfl, h2⟩ := h2
  exact kf_icmp_eq C.1 1400 dL_law_504 rfl (fun _ => C.2.2.2.2 _ _ h2) (fun h => absurd rfl h)
theorem lo_c8 (C : lo_C g x b L n xs) (hI : Inv I J) : kf_M g x 4 509 (lo_lv g b (nI n)) [] I J := by
  have hg := kf_okg C.1
  have o := op_net hI (xs (n + 1))
  refine kf_aload_n C.1 dL_law_509 rfl 2 rfl ?_
  refine lo_arg C (j := 1) rfl (by decide) dL_law_510 dL_law_511 dL_law_512 dL_law_513 dL_law_514 ?_
  refine kf_callVi C.1 (m_X10_net g hg _ _ _ _ o) lk_RL_54 km_X10_net ob_0 rfl (by decide) rfl (Nat.le_of_ble_eq_true rfl) dL_law_515 (fun v I1 J1 h1 => ?_)
  refine kf_aload_n C.1 dL_law_518 rfl 3 rfl ?_
  refine lo_arg C (j := 1) rfl (by decide) dL_law_519 dL_law_520 dL_law_521 dL_law_522 dL_law_523 ?_
  refine kf_callVi C.1 (m_X11_net g hg _ _ _ _ h1) lk_RL_58 km_X11_net ob_72 rfl (by decide) rfl (Nat.le_of_ble_eq_true rfl) dL_law_524 (fun w I2 J2 h2 => ?_)
  obtain ⟨rfl, h2⟩ := h2
  exact kf_icmp_eq C.1 1400 dL_law_527 rfl (fun _ => C.2.2.2.2 _ _ h2) (fun h => absurd rfl h)
theorem lo_c9 (C : lo_C g x b L n xs) (hI : Inv I J) : kf_M g x 4 532 (lo_lv g b (nI n)) [] I J := by
  have hg := kf_okg C.1
  have o := op_fault hI (xs (n + 1))
  refine kf_aload_n C.1 dL_law_532 rfl 2 rfl ?_
  refine lo_arg C (j := 1) rfl (by decide) dL_law_533 dL_law_534 dL_law_535 dL_law_536 dL_law_537 ?_
  refine kf_callVi C.1 (m_X10_fault g hg _ _ _ _ o) lk_RL_59 km_X10_fault ob_0 rfl (by decide) rfl (Nat.le_of_ble_eq_true rfl) dL_law_538 (fun v I1 J1 h1 => ?_)
  obtain ⟨h1, rfl, rfl⟩ := h1
  refine kf_aload_n C.1 dL_law_541 rfl 3 rfl ?_
  refine lo_arg C (j := 1) rfl (by decide) dL_law_542 dL_law_543 dL_law_544 dL_law_545 dL_law_546 ?_
  refine kf_callVi C.1 (m_X11_fault g hg _ _ _ _ h1) lk_RL_62 km_X11_fault ob_72 rfl (by decide) rfl (Nat.le_of_ble_eq_true rfl) dL_law_547 (fun w I2 J2 h2 => ?_)
  obtain ⟨h2, rfl⟩ := h2
  obtain ⟨rfl, h2⟩ := h2
  exact kf_icmp_eq C.1 1400 dL_law_550 rfl (fun _ => C.2.2.2.2 _ _ h2) (fun h => absurd rfl h)
theorem lo_c10 (C : lo_C g x b L n xs) (hI : Inv I J) : kf_M g x 4 555 (lo_lv g b (nI n)) [] I J := by
  have hg := kf_okg C.1
  have o := op_many hI (xs (n + 1))
  refine kf_aload_n C.1 dL_law_555 rfl 2 rfl ?_
  refine lo_arg C (j := 1) rfl (by decide) dL_law_556 dL_law_557 dL_law_558 dL_law_559 dL_law_560 ?_
  refine kf_callVi C.1 (m_X10_many g hg _ _ _ _ o) lk_RL_63 km_X10_many ob_0 rfl (by decide) rfl (Nat.le_of_ble_eq_true rfl) dL_law_561 (fun v I1 J1 h1 => ?_)
  obtain ⟨h1, rfl⟩ := h1
  refine kf_aload_n C.1 dL_law_564 rfl 3 rfl ?_
  refine lo_arg C (j := 1) rfl (by decide) dL_law_565 dL_law_566 dL_law_567 dL_law_568 dL_law_569 ?_
  refine kf_callVi C.1 (m_X11_many g hg _ _ _ _ h1) lk_RL_66 km_X11_many ob_72 rfl (by decide) rfl (Nat.le_of_ble_eq_true rfl) dL_law_570 (fun w I2 J2 h2 => ?_)
  obtain ⟨h2, rfl⟩ := h2
  obtain ⟨rfl, h2⟩ := h2
  exact kf_icmp_eq C.1 1400 dL_law_573 rfl (fun _ => C.2.2.2.2 _ _ h2) (fun h => absurd rfl h)
theorem lo_c11 (C : lo_C g x b L n xs) (hI : Inv I J) : kf_M g x 4 578 (lo_lv g b (nI n)) [] I J := by
  have hg := kf_okg C.1
  have o := op_person hI (xs (n + 1)) (xs (n + 2))
  refine kf_aload_n C.1 dL_law_578 rfl 2 rfl ?_
  refine lo_arg C (j := 1) rfl (by decide) dL_law_579 dL_law_580 dL_law_581 dL_law_582 dL_law_583 ?_
  refine lo_arg C (j := 2) rfl (by decide) dL_law_584 dL_law_585 dL_law_586 dL_law_587 dL_law_588 ?_
  refine kf_callVi C.1 (m_X10_person g hg _ _ _ _ _ o) lk_RL_67 km_X10_person ob_0 rfl (by decide) rfl (Nat.le_of_ble_eq_true rfl) dL_law_589 (fun v I1 J1 h1 => ?_)
  obtain ⟨h1, rfl⟩ := h1
  refine kf_aload_n C.1 dL_law_592 rfl 3 rfl ?_
  refine lo_arg C (j := 1) rfl (by decide) dL_law_593 dL_law_594 dL_law_595 dL_law_596 dL_law_597 ?_
  refine lo_arg C (j := 2) rfl (by decide) dL_law_598 dL_law_599 dL_law_600 dL_law_601 dL_law_602 ?_
  refine kf_callVi C.1 (m_X11_person g hg _ _ _ _ _ h1) lk_RL_71 km_X11_person ob_72 rfl (by decide) rfl (Nat.le_of_ble_eq_true rfl) dL_law_603 (fun w I2 J2 h2 => ?_)
  obtain ⟨h2, rfl⟩ := h2
  obtain ⟨rfl, h2⟩ := h2
  exact kf_icmp_eq C.1 1400 dL_law_606 rfl (fun _ => C.2.2.2.2 _ _ h2) (fun h => absurd rfl h)
theorem lo_c12 (C : lo_C g x b L n xs) (hI : Inv I J) : kf_M g x 4 611 (lo_lv g b (nI n)) [] I J := by
  have hg := kf_okg C.1
  have o := op_tie hI (xs (n + 1)) (xs (n + 2))
  refine kf_aload_n C.1 dL_law_611 rfl 2 rfl ?_
  refine lo_arg C (j := 1) rfl (by decide) dL_law_612 dL_law_613 dL_law_614 dL_law_615 dL_law_616 ?_
  refine lo_arg C (j := 2) rfl (by decide) dL_law_617 dL_law_618 dL_law_619 dL_law_620 dL_law_621 ?_
  refine kf_callVi C.1 (m_X10_tie g hg _ _ _ _ _ o) lk_RL_72 km_X10_tie ob_0 rfl (by decide) rfl (Nat.le_of_ble_eq_true rfl) dL_law_622 (fun v I1 J1 h1 => ?_)
  obtain ⟨h1, rfl⟩ := h1
  refine kf_aload_n C.1 dL_law_625 rfl 3 rfl ?_
  refine lo_arg C (j := 1) rfl (by decide) dL_law_626 dL_law_627 dL_law_628 dL_law_629 dL_law_630 ?_
  refine lo_arg C (j := 2) rfl (by decide) dL_law_631 dL_law_632 dL_law_633 dL_law_634 dL_law_635 ?_
  refine kf_callVi C.1 (m_X11_tie_ g hg _ _ _ _ _ h1) lk_RL_75 km_X11_tie_ ob_72 rfl (by decide) rfl (Nat.le_of_ble_eq_true rfl) dL_law_636 (fun w I2 J2 h2 => ?_)
  obtain ⟨h2, rfl⟩ := h2
  obtain ⟨rfl, h2⟩ := h2
  exact kf_icmp_eq C.1 1400 dL_law_639 rfl (fun _ => C.2.2.2.2 _ _ h2) (fun h => absurd rfl h)
theorem lo_c13 (C : lo_C g x b L n xs) (hI : Inv I J) : kf_M g x 4 644 (lo_lv g b (nI n)) [] I J := by
  have hg := kf_okg C.1
  have o := op_refuse hI (xs (n + 1)) (if (xs (n + 2)) = 0 then 0 else 1)
  refine kf_aload_n C.1 dL_law_644 rfl 2 rfl ?_
  refine lo_arg C (j := 1) rfl (by decide) dL_law_645 dL_law_646 dL_law_647 dL_law_648 dL_law_649 ?_
  refine lo_arg C (j := 2) rfl (by decide) dL_law_650 dL_law_651 dL_law_652 dL_law_653 dL_law_654 ?_
  refine lo_bool C dL_law_655 dL_law_658 dL_law_659 dL_law_662 ?_
  refine kf_callVb C.1 (m_X10_refuse g hg _ _ _ _ _ o) lk_RL_76 km_X10_refuse ob_0 rfl (by decide) rfl (Nat.le_of_ble_eq_true rfl) dL_law_663 (fun v I1 J1 h1 => ?_)
  obtain ⟨h1, rfl⟩ := h1
  refine kf_aload_n C.1 dL_law_666 rfl 3 rfl ?_
  refine lo_arg C (j := 1) rfl (by decide) dL_law_667 dL_law_668 dL_law_669 dL_law_670 dL_law_671 ?_
  refine lo_arg C (j := 2) rfl (by decide) dL_law_672 dL_law_673 dL_law_674 dL_law_675 dL_law_676 ?_
  refine lo_bool C dL_law_677 dL_law_680 dL_law_681 dL_law_684 ?_
  refine kf_callVb C.1 (m_X11_refuse g hg _ _ _ _ _ h1) lk_RL_80 km_X11_refuse ob_72 rfl (by decide) rfl (Nat.le_of_ble_eq_true rfl) dL_law_685 (fun w I2 J2 h2 => ?_)
  obtain ⟨h2, rfl⟩ := h2
  obtain ⟨rfl, h2⟩ := h2
  exact kf_icmp_eq C.1 1400 dL_law_688 rfl (fun _ => C.2.2.2.2 _ _ h2) (fun h => absurd rfl h)
theorem lo_c14 (C : lo_C g x b L n xs) (hI : Inv I J) : kf_M g x 4 693 (lo_lv g b (nI n)) [] I J := by
  have hg := kf_okg C.1
  have o := op_weight hI (xs (n + 1))
  refine kf_aload_n C.1 dL_law_693 rfl 2 rfl ?_
  refine lo_arg C (j := 1) rfl (by decide) dL_law_694 dL_law_695 dL_law_696 dL_law_697 dL_law_698 ?_
  refine kf_callVl C.1 (m_X10_weight g hg _ _ _ _ o) lk_RL_81 km_X10_weight ob_0 rfl (by decide) rfl (Nat.le_of_ble_eq_true rfl) dL_law_699 (fun v I1 J1 h1 => ?_)
  obtain ⟨h1, rfl⟩ := h1
  refine kf_aload_n C.1 dL_law_702 rfl 3 rfl ?_
  refine lo_arg C (j := 1) rfl (by decide) dL_law_703 dL_law_704 dL_law_705 dL_law_706 dL_law_707 ?_
  refine kf_callVl C.1 (m_X11_weight g hg _ _ _ _ h1) lk_RL_85 km_X11_weight ob_72 rfl (by decide) rfl (Nat.le_of_ble_eq_true rfl) dL_law_708 (fun w I2 J2 h2 => ?_)
  obtain ⟨h2, rfl⟩ := h2
  obtain ⟨rfl, h2⟩ := h2
  exact kf_l_eq C.1 1400 dL_law_711 dL_law_712 rfl (fun _ => C.2.2.2.2 _ _ h2) (fun h => absurd rfl h)
theorem lo_c15 (C : lo_C g x b L n xs) (hI : Inv I J) : kf_M g x 4 717 (lo_lv g b (nI n)) [] I J := by
  have hg := kf_okg C.1
  have o := op_reached hI (xs (n + 1)) (xs (n + 2))
  refine kf_aload_n C.1 dL_law_717 rfl 2 rfl ?_
  refine lo_arg C (j := 1) rfl (by decide) dL_law_718 dL_law_719 dL_law_720 dL_law_721 dL_law_722 ?_
  refine lo_arg C (j := 2) rfl (by decide) dL_law_723 dL_law_724 dL_law_725 dL_law_726 dL_law_727 ?_
  refine kf_callVi C.1 (m_X10_reached g hg _ _ _ _ _ o) lk_RL_86 km_X10_reached ob_0 rfl (by decide) rfl (Nat.le_of_ble_eq_true rfl) dL_law_728 (fun v I1 J1 h1 => ?_)
  obtain ⟨h1, rfl⟩ := h1
  refine kf_aload_n C.1 dL_law_731 rfl 3 rfl ?_
  refine lo_arg C (j := 1) rfl (by decide) dL_law_732 dL_law_733 dL_law_734 dL_law_735 dL_law_736 ?_
  refine lo_arg C (j := 2) rfl (by decide) dL_law_737 dL_law_738 dL_law_739 dL_law_740 dL_law_741 ?_
  refine kf_callVi C.1 (m_X11_reached g hg _ _ _ _ _ h1) lk_RL_89 km_X11_reached ob_72 rfl (by decide) rfl (Nat.le_of_ble_eq_true rfl) dL_law_742 (fun w I2 J2 h2 => ?_)
  obtain ⟨h2, rfl⟩ := h2
  obtain ⟨rfl, h2⟩ := h2
  exact kf_icmp_eq C.1 1400 dL_law_745 rfl (fun _ => C.2.2.2.2 _ _ h2) (fun h => absurd rfl h)
theorem lo_c16 (C : lo_C g x b L n xs) (hI : Inv I J) : kf_M g x 4 750 (lo_lv g b (nI n)) [] I J := by
  have hg := kf_okg C.1
  have o := op_backWalk hI (xs (n + 1)) (xs (n + 2))
  refine kf_aload_n C.1 dL_law_750 rfl 2 rfl ?_
  refine lo_arg C (j := 1) rfl (by decide) dL_law_751 dL_law_752 dL_law_753 dL_law_754 dL_law_755 ?_
  refine lo_arg C (j := 2) rfl (by decide) dL_law_756 dL_law_757 dL_law_758 dL_law_759 dL_law_760 ?_
  refine kf_callVi C.1 (m_X10_backWalk g hg _ _ _ _ _ o) lk_RL_90 km_X10_backWalk ob_0 rfl (by decide) rfl (Nat.le_of_ble_eq_true rfl) dL_law_761 (fun v I1 J1 h1 => ?_)
  obtain ⟨h1, rfl⟩ := h1
  refine kf_aload_n C.1 dL_law_764 rfl 3 rfl ?_
  refine lo_arg C (j := 1) rfl (by decide) dL_law_765 dL_law_766 dL_law_767 dL_law_768 dL_law_769 ?_
  refine lo_arg C (j := 2) rfl (by decide) dL_law_770 dL_law_771 dL_law_772 dL_law_773 dL_law_774 ?_
  refine kf_callVi C.1 (m_X11_backWalk g hg _ _ _ _ _ h1) lk_RL_93 km_X11_backWalk ob_72 rfl (by decide) rfl (Nat.le_of_ble_eq_true rfl) dL_law_775 (fun w I2 J2 h2 => ?_)
  obtain ⟨h2, rfl⟩ := h2
  obtain ⟨rfl, h2⟩ := h2
  exact kf_icmp_eq C.1 1400 dL_law_778 rfl (fun _ => C.2.2.2.2 _ _ h2) (fun h => absurd rfl h)
theorem lo_c17 (C : lo_C g x b L n xs) (hI : Inv I J) : kf_M g x 4 783 (lo_lv g b (nI n)) [] I J := by
  have hg := kf_okg C.1
  have o := op_spread hI (xs (n + 1)) (xs (n + 2))
  refine kf_aload_n C.1 dL_law_783 rfl 2 rfl ?_
  refine lo_arg C (j := 1) rfl (by decide) dL_law_784 dL_law_785 dL_law_786 dL_law_787 dL_law_788 ?_
  refine lo_arg C (j := 2) rfl (by decide) dL_law_789 dL_law_790 dL_law_791 dL_law_792 dL_law_793 ?_
  refine kf_callVb C.1 (m_X10_spread g hg _ _ _ _ _ o) lk_RL_94 km_X10_spread ob_0 rfl (by decide) rfl (Nat.le_of_ble_eq_true rfl) dL_law_794 (fun v I1 J1 h1 => ?_)
  refine kf_aload_n C.1 dL_law_797 rfl 3 rfl ?_
  refine lo_arg C (j := 1) rfl (by decide) dL_law_798 dL_law_799 dL_law_800 dL_law_801 dL_law_802 ?_
  refine lo_arg C (j := 2) rfl (by decide) dL_law_803 dL_law_804 dL_law_805 dL_law_806 dL_law_807 ?_
  refine kf_callVb C.1 (m_X11_spread g hg _ _ _ _ _ h1) lk_RL_98 km_X11_spread ob_72 rfl (by decide) rfl (Nat.le_of_ble_eq_true rfl) dL_law_808 (fun w I2 J2 h2 => ?_)
  obtain ⟨rfl, h2⟩ := h2
  exact kf_icmp_eq C.1 1400 dL_law_811 rfl (fun _ => C.2.2.2.2 _ _ h2) (fun h => absurd rfl h)
theorem lo_c18 (C : lo_C g x b L n xs) (hI : Inv I J) : kf_M g x 4 816 (lo_lv g b (nI n)) [] I J := by
  have hg := kf_okg C.1
  have o := op_adds hI (xs (n + 1)) (xs (n + 2))
  refine kf_aload_n C.1 dL_law_816 rfl 2 rfl ?_
  refine lo_arg C (j := 1) rfl (by decide) dL_law_817 dL_law_818 dL_law_819 dL_law_820 dL_law_821 ?_
  refine lo_arg C (j := 2) rfl (by decide) dL_law_822 dL_law_823 dL_law_824 dL_law_825 dL_law_826 ?_
  refine kf_callVb C.1 (m_X10_adds g hg _ _ _ _ _ o) lk_RL_99 km_X10_adds ob_0 rfl (by decide) rfl (Nat.le_of_ble_eq_true rfl) dL_law_827 (fun v I1 J1 h1 => ?_)
  refine kf_aload_n C.1 dL_law_830 rfl 3 rfl ?_
  refine lo_arg C (j := 1) rfl (by decide) dL_law_831 dL_law_832 dL_law_833 dL_law_834 dL_law_835 ?_
  refine lo_arg C (j := 2) rfl (by decide) dL_law_836 dL_law_837 dL_law_838 dL_law_839 dL_law_840 ?_
  refine kf_callVb C.1 (m_X11_adds g hg _ _ _ _ _ h1) lk_RL_102 km_X11_adds ob_72 rfl (by decide) rfl (Nat.le_of_ble_eq_true rfl) dL_law_841 (fun w I2 J2 h2 => ?_)
  obtain ⟨rfl, h2⟩ := h2
  exact kf_icmp_eq C.1 1400 dL_law_844 rfl (fun _ => C.2.2.2.2 _ _ h2) (fun h => absurd rfl h)
theorem lo_c19 (C : lo_C g x b L n xs) (hI : Inv I J) : kf_M g x 4 849 (lo_lv g b (nI n)) [] I J := by
  have hg := kf_okg C.1
  have o := op_greedy hI (xs (n + 1)) (xs (n + 2))
  refine kf_aload_n C.1 dL_law_849 rfl 2 rfl ?_
  refine lo_arg C (j := 1) rfl (by decide) dL_law_850 dL_law_851 dL_law_852 dL_law_853 dL_law_854 ?_
  refine lo_arg C (j := 2) rfl (by decide) dL_law_855 dL_law_856 dL_law_857 dL_law_858 dL_law_859 ?_
  refine kf_callVi C.1 (m_X10_greedy g hg _ _ _ _ _ o) lk_RL_103 km_X10_greedy ob_0 rfl (by decide) rfl (Nat.le_of_ble_eq_true rfl) dL_law_860 (fun v I1 J1 h1 => ?_)
  refine kf_aload_n C.1 dL_law_863 rfl 3 rfl ?_
  refine lo_arg C (j := 1) rfl (by decide) dL_law_864 dL_law_865 dL_law_866 dL_law_867 dL_law_868 ?_
  refine lo_arg C (j := 2) rfl (by decide) dL_law_869 dL_law_870 dL_law_871 dL_law_872 dL_law_873 ?_
  refine kf_callVi C.1 (m_X11_greedy g hg _ _ _ _ _ h1) lk_RL_106 km_X11_greedy ob_72 rfl (by decide) rfl (Nat.le_of_ble_eq_true rfl) dL_law_874 (fun w I2 J2 h2 => ?_)
  obtain ⟨rfl, h2⟩ := h2
  exact kf_icmp_eq C.1 1400 dL_law_877 rfl (fun _ => C.2.2.2.2 _ _ h2) (fun h => absurd rfl h)
theorem lo_c20 (C : lo_C g x b L n xs) (hI : Inv I J) : kf_M g x 4 882 (lo_lv g b (nI n)) [] I J := by
  have hg := kf_okg C.1
  have o := op_best hI (xs (n + 1)) (xs (n + 2))
  refine kf_aload_n C.1 dL_law_882 rfl 2 rfl ?_
  refine lo_arg C (j := 1) rfl (by decide) dL_law_883 dL_law_884 dL_law_885 dL_law_886 dL_law_887 ?_
  refine lo_arg C (j := 2) rfl (by decide) dL_law_888 dL_law_889 dL_law_890 dL_law_891 dL_law_892 ?_
  refine kf_callVi C.1 (m_X10_best g hg _ _ _ _ _ o) lk_RL_107 km_X10_best ob_0 rfl (by decide) rfl (Nat.le_of_ble_eq_true rfl) dL_law_893 (fun v I1 J1 h1 => ?_)
  refine kf_aload_n C.1 dL_law_896 rfl 3 rfl ?_
  refine lo_arg C (j := 1) rfl (by decide) dL_law_897 dL_law_898 dL_law_899 dL_law_900 dL_law_901 ?_
  refine lo_arg C (j := 2) rfl (by decide) dL_law_902 dL_law_903 dL_law_904 dL_law_905 dL_law_906 ?_
  refine kf_callVi C.1 (m_X11_best g hg _ _ _ _ _ h1) lk_RL_110 km_X11_best ob_72 rfl (by decide) rfl (Nat.le_of_ble_eq_true rfl) dL_law_907 (fun w I2 J2 h2 => ?_)
  obtain ⟨rfl, h2⟩ := h2
  exact kf_icmp_eq C.1 1400 dL_law_910 rfl (fun _ => C.2.2.2.2 _ _ h2) (fun h => absurd rfl h)
theorem lo_c21 (C : lo_C g x b L n xs) (hI : Inv I J) : kf_M g x 4 915 (lo_lv g b (nI n)) [] I J := by
  have hg := kf_okg C.1
  have o := op_bound hI (xs (n + 1)) (xs (n + 2))
  refine kf_aload_n C.1 dL_law_915 rfl 2 rfl ?_
  refine lo_arg C (j := 1) rfl (by decide) dL_law_916 dL_law_917 dL_law_918 dL_law_919 dL_law_920 ?_
  refine lo_arg C (j := 2) rfl (by decide) dL_law_921 dL_law_922 dL_law_923 dL_law_924 dL_law_925 ?_
  refine kf_callVb C.1 (m_X10_bound g hg _ _ _ _ _ o) lk_RL_111 km_X10_bound ob_0 rfl (by decide) rfl (Nat.le_of_ble_eq_true rfl) dL_law_926 (fun v I1 J1 h1 => ?_)
  refine kf_aload_n C.1 dL_law_929 rfl 3 rfl ?_
  refine lo_arg C (j := 1) rfl (by decide) dL_law_930 dL_law_931 dL_law_932 dL_law_933 dL_law_934 ?_
  refine lo_arg C (j := 2) rfl (by decide) dL_law_935 dL_law_936 dL_law_937 dL_law_938 dL_law_939 ?_
  refine kf_callVb C.1 (m_X11_bound g hg _ _ _ _ _ h1) lk_RL_114 km_X11_bound ob_72 rfl (by decide) rfl (Nat.le_of_ble_eq_true rfl) dL_law_940 (fun w I2 J2 h2 => ?_)
  obtain ⟨rfl, h2⟩ := h2
  exact kf_icmp_eq C.1 1400 dL_law_943 rfl (fun _ => C.2.2.2.2 _ _ h2) (fun h => absurd rfl h)
theorem lo_c22 (C : lo_C g x b L n xs) (hI : Inv I J) : kf_M g x 4 948 (lo_lv g b (nI n)) [] I J := by
  have hg := kf_okg C.1
  have o := op_rounds hI (xs (n + 1))
  refine kf_aload_n C.1 dL_law_948 rfl 2 rfl ?_
  refine lo_arg C (j := 1) rfl (by decide) dL_law_949 dL_law_950 dL_law_951 dL_law_952 dL_law_953 ?_
  refine kf_callVi C.1 (m_X10_rounds g hg _ _ _ _ o) lk_RL_115 km_X10_rounds ob_0 rfl (by decide) rfl (Nat.le_of_ble_eq_true rfl) dL_law_954 (fun v I1 J1 h1 => ?_)
  refine kf_aload_n C.1 dL_law_957 rfl 3 rfl ?_
  refine lo_arg C (j := 1) rfl (by decide) dL_law_958 dL_law_959 dL_law_960 dL_law_961 dL_law_962 ?_
  refine kf_callVi C.1 (m_X11_rounds g hg _ _ _ _ h1) lk_RL_118 km_X11_rounds ob_72 rfl (by decide) rfl (Nat.le_of_ble_eq_true rfl) dL_law_963 (fun w I2 J2 h2 => ?_)
  obtain ⟨rfl, h2⟩ := h2
  exact kf_icmp_eq C.1 1400 dL_law_966 rfl (fun _ => C.2.2.2.2 _ _ h2) (fun h => absurd rfl h)
theorem lo_c23 (C : lo_C g x b L n xs) (hI : Inv I J) : kf_M g x 4 971 (lo_lv g b (nI n)) [] I J := by
  have hg := kf_okg C.1
  have o := op_fight hI (xs (n + 1)) (xs (n + 2)) (xs (n + 3)) (xs (n + 4))
  refine kf_aload_n C.1 dL_law_971 rfl 2 rfl ?_
  refine lo_arg C (j := 1) rfl (by decide) dL_law_972 dL_law_973 dL_law_974 dL_law_975 dL_law_976 ?_
  refine lo_arg C (j := 2) rfl (by decide) dL_law_977 dL_law_978 dL_law_979 dL_law_980 dL_law_981 ?_
  refine lo_arg C (j := 3) rfl (by decide) dL_law_982 dL_law_983 dL_law_984 dL_law_985 dL_law_986 ?_
  refine lo_arg C (j := 4) rfl (by decide) dL_law_987 dL_law_988 dL_law_989 dL_law_990 dL_law_991 ?_
  refine kf_callVb C.1 (m_X10_fight g hg _ _ _ _ _ _ _ o) lk_RL_119 km_X10_fight ob_0 rfl (by decide) rfl (Nat.le_of_ble_eq_true rfl) dL_law_992 (fun v I1 J1 h1 => ?_)
  refine kf_aload_n C.1 dL_law_995 rfl 3 rfl ?_
  refine lo_arg C (j := 1) rfl (by decide) dL_law_996 dL_law_997 dL_law_998 dL_law_999 dL_law_1000 ?_
  refine lo_arg C (j := 2) rfl (by decide) dL_law_1001 dL_law_1002 dL_law_1003 dL_law_1004 dL_law_1005 ?_
  refine lo_arg C (j := 3) rfl (by decide) dL_law_1006 dL_law_1007 dL_law_1008 dL_law_1009 dL_law_1010 ?_
  refine lo_arg C (j := 4) rfl (by decide) dL_law_1011 dL_law_1012 dL_law_1013 dL_law_1014 dL_law_1015 ?_
  refine kf_callVb C.1 (m_X11_fight g hg _ _ _ _ _ _ _ h1) lk_RL_123 km_X11_fight ob_72 rfl (by decide) rfl (Nat.le_of_ble_eq_true rfl) dL_law_1016 (fun w I2 J2 h2 => ?_)
  obtain ⟨rfl, h2⟩ := h2
  exact kf_icmp_eq C.1 1400 dL_law_1019 rfl (fun _ => C.2.2.2.2 _ _ h2) (fun h => absurd rfl h)
theorem lo_c24 (C : lo_C g x b L n xs) (hI : Inv I J) : kf_M g x 4 1024 (lo_lv g b (nI n)) [] I J := by
  have hg := kf_okg C.1
  have o := op_answer hI (xs (n + 1)) (xs (n + 2))
  refine kf_aload_n C.1 dL_law_1024 rfl 2 rfl ?_
  refine lo_arg C (j := 1) rfl (by decide) dL_law_1025 dL_law_1026 dL_law_1027 dL_law_1028 dL_law_1029 ?_
  refine lo_arg C (j := 2) rfl (by decide) dL_law_1030 dL_law_1031 dL_law_1032 dL_law_1033 dL_law_1034 ?_
  refine kf_callVi C.1 (m_X10_answer g hg _ _ _ _ _ o) lk_RL_124 km_X10_answer ob_0 rfl (by decide) rfl (Nat.le_of_ble_eq_true rfl) dL_law_1035 (fun v I1 J1 h1 => ?_)
  refine kf_aload_n C.1 dL_law_1038 rfl 3 rfl ?_
  refine lo_arg C (j := 1) rfl (by decide) dL_law_1039 dL_law_1040 dL_law_1041 dL_law_1042 dL_law_1043 ?_
  refine lo_arg C (j := 2) rfl (by decide) dL_law_1044 dL_law_1045 dL_law_1046 dL_law_1047 dL_law_1048 ?_
  refine kf_callVi C.1 (m_X11_answer g hg _ _ _ _ _ h1) lk_RL_127 km_X11_answer ob_72 rfl (by decide) rfl (Nat.le_of_ble_eq_true rfl) dL_law_1049 (fun w I2 J2 h2 => ?_)
  obtain ⟨rfl, h2⟩ := h2
  exact kf_icmp_eq C.1 1400 dL_law_1052 rfl (fun _ => C.2.2.2.2 _ _ h2) (fun h => absurd rfl h)
theorem lo_c25 (C : lo_C g x b L n xs) (hI : Inv I J) : kf_M g x 4 1057 (lo_lv g b (nI n)) [] I J := by
  have hg := kf_okg C.1
  have o := op_latest hI (xs (n + 1)) (xs (n + 2))
  refine kf_aload_n C.1 dL_law_1057 rfl 2 rfl ?_
  refine lo_arg C (j := 1) rfl (by decide) dL_law_1058 dL_law_1059 dL_law_1060 dL_law_1061 dL_law_1062 ?_
  refine lo_arg C (j := 2) rfl (by decide) dL_law_1063 dL_law_1064 dL_law_1065 dL_law_1066 dL_law_1067 ?_
  refine kf_callVi C.1 (m_X10_latest g hg _ _ _ _ _ o) lk_RL_128 km_X10_latest ob_0 rfl (by decide) rfl (Nat.le_of_ble_eq_true rfl) dL_law_1068 (fun v I1 J1 h1 => ?_)
  obtain ⟨h1, rfl⟩ := h1
  refine kf_aload_n C.1 dL_law_1071 rfl 3 rfl ?_
  refine lo_arg C (j := 1) rfl (by decide) dL_law_1072 dL_law_1073 dL_law_1074 dL_law_1075 dL_law_1076 ?_
  refine lo_arg C (j := 2) rfl (by decide) dL_law_1077 dL_law_1078 dL_law_1079 dL_law_1080 dL_law_1081 ?_
  refine kf_callVi C.1 (m_X11_latest g hg _ _ _ _ _ h1) lk_RL_131 km_X11_latest ob_72 rfl (by decide) rfl (Nat.le_of_ble_eq_true rfl) dL_law_1082 (fun w I2 J2 h2 => ?_)
  obtain ⟨h2, rfl⟩ := h2
  obtain ⟨rfl, h2⟩ := h2
  exact kf_icmp_eq C.1 1400 dL_law_1085 rfl (fun _ => C.2.2.2.2 _ _ h2) (fun h => absurd rfl h)
theorem lo_c26 (C : lo_C g x b L n xs) (hI : Inv I J) : kf_M g x 4 1090 (lo_lv g b (nI n)) [] I J := by
  have hg := kf_okg C.1
  have o := op_stops hI (xs (n + 1)) (xs (n + 2))
  refine kf_aload_n C.1 dL_law_1090 rfl 2 rfl ?_
  refine lo_arg C (j := 1) rfl (by decide) dL_law_1091 dL_law_1092 dL_law_1093 dL_law_1094 dL_law_1095 ?_
  refine lo_arg C (j := 2) rfl (by decide) dL_law_1096 dL_law_1097 dL_law_1098 dL_law_1099 dL_law_1100 ?_
  refine kf_callVi C.1 (m_X10_stops g hg _ _ _ _ _ o) lk_RL_132 km_X10_stops ob_0 rfl (by decide) rfl (Nat.le_of_ble_eq_true rfl) dL_law_1101 (fun v I1 J1 h1 => ?_)
  refine kf_aload_n C.1 dL_law_1104 rfl 3 rfl ?_
  refine lo_arg C (j := 1) rfl (by decide) dL_law_1105 dL_law_1106 dL_law_1107 dL_law_1108 dL_law_1109 ?_
  refine lo_arg C (j := 2) rfl (by decide) dL_law_1110 dL_law_1111 dL_law_1112 dL_law_1113 dL_law_1114 ?_
  refine kf_callVi C.1 (m_X11_stops g hg _ _ _ _ _ h1) lk_RL_135 km_X11_stops ob_72 rfl (by decide) rfl (Nat.le_of_ble_eq_true rfl) dL_law_1115 (fun w I2 J2 h2 => ?_)
  obtain ⟨rfl, h2⟩ := h2
  exact kf_icmp_eq C.1 1400 dL_law_1118 rfl (fun _ => C.2.2.2.2 _ _ h2) (fun h => absurd rfl h)
theorem lo_c27 (C : lo_C g x b L n xs) (hI : Inv I J) : kf_M g x 4 1123 (lo_lv g b (nI n)) [] I J := by
  have hg := kf_okg C.1
  have o := op_source hI (xs (n + 1)) (xs (n + 2)) (xs (n + 3))
  refine kf_aload_n C.1 dL_law_1123 rfl 2 rfl ?_
  refine lo_arg C (j := 1) rfl (by decide) dL_law_1124 dL_law_1125 dL_law_1126 dL_law_1127 dL_law_1128 ?_
  refine lo_arg C (j := 2) rfl (by decide) dL_law_1129 dL_law_1130 dL_law_1131 dL_law_1132 dL_law_1133 ?_
  refine lo_arg C (j := 3) rfl (by decide) dL_law_1134 dL_law_1135 dL_law_1136 dL_law_1137 dL_law_1138 ?_
  refine kf_callVb C.1 (m_X10_source g hg _ _ _ _ _ _ o) lk_RL_136 km_X10_source ob_0 rfl (by decide) rfl (Nat.le_of_ble_eq_true rfl) dL_law_1139 (fun v I1 J1 h1 => ?_)
  refine kf_aload_n C.1 dL_law_1142 rfl 3 rfl ?_
  refine lo_arg C (j := 1) rfl (by decide) dL_law_1143 dL_law_1144 dL_law_1145 dL_law_1146 dL_law_1147 ?_
  refine lo_arg C (j := 2) rfl (by decide) dL_law_1148 dL_law_1149 dL_law_1150 dL_law_1151 dL_law_1152 ?_
  refine lo_arg C (j := 3) rfl (by decide) dL_law_1153 dL_law_1154 dL_law_1155 dL_law_1156 dL_law_1157 ?_
  refine kf_callVb C.1 (m_X11_source g hg _ _ _ _ _ _ h1) lk_RL_139 km_X11_source ob_72 rfl (by decide) rfl (Nat.le_of_ble_eq_true rfl) dL_law_1158 (fun w I2 J2 h2 => ?_)
  obtain ⟨rfl, h2⟩ := h2
  exact kf_icmp_eq C.1 1400 dL_law_1161 rfl (fun _ => C.2.2.2.2 _ _ h2) (fun h => absurd rfl h)
theorem lo_c28 (C : lo_C g x b L n xs) (hI : Inv I J) : kf_M g x 4 1166 (lo_lv g b (nI n)) [] I J := by
  have hg := kf_okg C.1
  have o := op_run hI (xs (n + 1))
  refine kf_aload_n C.1 dL_law_1166 rfl 2 rfl ?_
  refine lo_arg C (j := 1) rfl (by decide) dL_law_1167 dL_law_1168 dL_law_1169 dL_law_1170 dL_law_1171 ?_
  refine kf_callVi C.1 (m_X10_run g hg _ _ _ _ o) lk_RL_140 km_X10_run ob_0 rfl (by decide) rfl (Nat.le_of_ble_eq_true rfl) dL_law_1172 (fun v I1 J1 h1 => ?_)
  obtain ⟨h1, rfl⟩ := h1
  refine kf_aload_n C.1 dL_law_1175 rfl 3 rfl ?_
  refine lo_arg C (j := 1) rfl (by decide) dL_law_1176 dL_law_1177 dL_law_1178 dL_law_1179 dL_law_1180 ?_
  refine kf_callVi C.1 (m_X11_run g hg _ _ _ _ h1) lk_RL_143 km_X11_run ob_72 rfl (by decide) rfl (Nat.le_of_ble_eq_true rfl) dL_law_1181 (fun w I2 J2 h2 => ?_)
  obtain ⟨h2, rfl⟩ := h2
  obtain ⟨rfl, h2⟩ := h2
  exact kf_icmp_eq C.1 1400 dL_law_1184 rfl (fun _ => C.2.2.2.2 _ _ h2) (fun h => absurd rfl h)
theorem lo_c29 (C : lo_C g x b L n xs) (hI : Inv I J) : kf_M g x 4 1189 (lo_lv g b (nI n)) [] I J := by
  have hg := kf_okg C.1
  have o := op_likeliest hI (xs (n + 1))
  refine kf_aload_n C.1 dL_law_1189 rfl 2 rfl ?_
  refine lo_arg C (j := 1) rfl (by decide) dL_law_1190 dL_law_1191 dL_law_1192 dL_law_1193 dL_law_1194 ?_
  refine kf_callVi C.1 (m_X10_likeliest g hg _ _ _ _ o) lk_RL_144 km_X10_likeliest ob_0 rfl (by decide) rfl (Nat.le_of_ble_eq_true rfl) dL_law_1195 (fun v I1 J1 h1 => ?_)
  obtain ⟨h1, rfl⟩ := h1
  refine kf_aload_n C.1 dL_law_1198 rfl 3 rfl ?_
  refine lo_arg C (j := 1) rfl (by decide) dL_law_1199 dL_law_1200 dL_law_1201 dL_law_1202 dL_law_1203 ?_
  refine kf_callVi C.1 (m_X11_likeliest g hg _ _ _ _ h1) lk_RL_147 km_X11_likeliest ob_72 rfl (by decide) rfl (Nat.le_of_ble_eq_true rfl) dL_law_1204 (fun w I2 J2 h2 => ?_)
  obtain ⟨h2, rfl⟩ := h2
  obtain ⟨rfl, h2⟩ := h2
  exact kf_icmp_eq C.1 1400 dL_law_1207 rfl (fun _ => C.2.2.2.2 _ _ h2) (fun h => absurd rfl h)
theorem lo_c30 (C : lo_C g x b L n xs) (hI : Inv I J) : kf_M g x 4 1212 (lo_lv g b (nI n)) [] I J := by
  have hg := kf_okg C.1
  have o := op_neverTried hI 
  refine kf_aload_n C.1 dL_law_1212 rfl 2 rfl ?_
  refine kf_callVi C.1 (m_X10_neverTried g hg _ _ _ o) lk_RL_148 km_X10_neverTried ob_0 rfl (by decide) rfl (Nat.le_of_ble_eq_true rfl) dL_law_1213 (fun v I1 J1 h1 => ?_)
  obtain ⟨h1, rfl⟩ := h1
  refine kf_aload_n C.1 dL_law_1216 rfl 3 rfl ?_
  refine kf_callVi C.1 (m_X11_neverTried g hg _ _ _ h1) lk_RL_151 km_X11_neverTried ob_72 rfl (by decide) rfl (Nat.le_of_ble_eq_true rfl) dL_law_1217 (fun w I2 J2 h2 => ?_)
  obtain ⟨h2, rfl⟩ := h2
  obtain ⟨rfl, h2⟩ := h2
  exact kf_icmp_eq C.1 1400 dL_law_1220 rfl (fun _ => C.2.2.2.2 _ _ h2) (fun h => absurd rfl h)
theorem lo_c31 (C : lo_C g x b L n xs) (hI : Inv I J) : kf_M g x 4 1225 (lo_lv g b (nI n)) [] I J := by
  have hg := kf_okg C.1
  have o := op_telling hI (xs (n + 1))
  refine kf_aload_n C.1 dL_law_1225 rfl 2 rfl ?_
  refine lo_arg C (j := 1) rfl (by decide) dL_law_1226 dL_law_1227 dL_law_1228 dL_law_1229 dL_law_1230 ?_
  refine kf_callVi C.1 (m_X10_telling g hg _ _ _ _ o) lk_RL_152 km_X10_telling ob_0 rfl (by decide) rfl (Nat.le_of_ble_eq_true rfl) dL_law_1231 (fun v I1 J1 h1 => ?_)
  refine kf_aload_n C.1 dL_law_1234 rfl 3 rfl ?_
  refine lo_arg C (j := 1) rfl (by decide) dL_law_1235 dL_law_1236 dL_law_1237 dL_law_1238 dL_law_1239 ?_
  refine kf_callVi C.1 (m_X11_telling g hg _ _ _ _ h1) lk_RL_155 km_X11_telling ob_72 rfl (by decide) rfl (Nat.le_of_ble_eq_true rfl) dL_law_1240 (fun w I2 J2 h2 => ?_)
  obtain ⟨rfl, h2⟩ := h2
  exact kf_icmp_eq C.1 1400 dL_law_1243 rfl (fun _ => C.2.2.2.2 _ _ h2) (fun h => absurd rfl h)
theorem lo_c32 (C : lo_C g x b L n xs) (hI : Inv I J) : kf_M g x 4 1248 (lo_lv g b (nI n)) [] I J := by
  have hg := kf_okg C.1
  have o := op_lead hI (xs (n + 1)) (xs (n + 2)) (xs (n + 3)) (xs (n + 4))
  refine kf_aload_n C.1 dL_law_1248 rfl 2 rfl ?_
  refine lo_arg C (j := 1) rfl (by decide) dL_law_1249 dL_law_1250 dL_law_1251 dL_law_1252 dL_law_1253 ?_
  refine lo_arg C (j := 2) rfl (by decide) dL_law_1254 dL_law_1255 dL_law_1256 dL_law_1257 dL_law_1258 ?_
  refine lo_arg C (j := 3) rfl (by decide) dL_law_1259 dL_law_1260 dL_law_1261 dL_law_1262 dL_law_1263 ?_
  refine lo_arg C (j := 4) rfl (by decide) dL_law_1264 dL_law_1265 dL_law_1266 dL_law_1267 dL_law_1268 ?_
  refine kf_callVi C.1 (m_X10_lead g hg _ _ _ _ _ _ _ o) lk_RL_156 km_X10_lead ob_0 rfl (by decide) rfl (Nat.le_of_ble_eq_true rfl) dL_law_1269 (fun v I1 J1 h1 => ?_)
  obtain ⟨h1, rfl⟩ := h1
  refine kf_aload_n C.1 dL_law_1272 rfl 3 rfl ?_
  refine lo_arg C (j := 1) rfl (by decide) dL_law_1273 dL_law_1274 dL_law_1275 dL_law_1276 dL_law_1277 ?_
  refine lo_arg C (j := 2) rfl (by decide) dL_law_1278 dL_law_1279 dL_law_1280 dL_law_1281 dL_law_1282 ?_
  refine lo_arg C (j := 3) rfl (by decide) dL_law_1283 dL_law_1284 dL_law_1285 dL_law_1286 dL_law_1287 ?_
  refine lo_arg C (j := 4) rfl (by decide) dL_law_1288 dL_law_1289 dL_law_1290 dL_law_1291 dL_law_1292 ?_
  refine kf_callVi C.1 (m_X11_lead g hg _ _ _ _ _ _ _ h1) lk_RL_160 km_X11_lead ob_72 rfl (by decide) rfl (Nat.le_of_ble_eq_true rfl) dL_law_1293 (fun w I2 J2 h2 => ?_)
  obtain ⟨h2, rfl⟩ := h2
  obtain ⟨rfl, h2⟩ := h2
  exact kf_icmp_eq C.1 1400 dL_law_1296 rfl (fun _ => C.2.2.2.2 _ _ h2) (fun h => absurd rfl h)
theorem lo_c33 (C : lo_C g x b L n xs) (hI : Inv I J) : kf_M g x 4 1301 (lo_lv g b (nI n)) [] I J := by
  have hg := kf_okg C.1
  have o := op_check hI (xs (n + 1)) (xs (n + 2)) (xs (n + 3))
  refine kf_aload_n C.1 dL_law_1301 rfl 2 rfl ?_
  refine lo_arg C (j := 1) rfl (by decide) dL_law_1302 dL_law_1303 dL_law_1304 dL_law_1305 dL_law_1306 ?_
  refine lo_arg C (j := 2) rfl (by decide) dL_law_1307 dL_law_1308 dL_law_1309 dL_law_1310 dL_law_1311 ?_
  refine lo_arg C (j := 3) rfl (by decide) dL_law_1312 dL_law_1313 dL_law_1314 dL_law_1315 dL_law_1316 ?_
  refine kf_callVi C.1 (m_X10_check g hg _ _ _ _ _ _ o) lk_RL_161 km_X10_check ob_0 rfl (by decide) rfl (Nat.le_of_ble_eq_true rfl) dL_law_1317 (fun v I1 J1 h1 => ?_)
  obtain ⟨h1, rfl⟩ := h1
  refine kf_aload_n C.1 dL_law_1320 rfl 3 rfl ?_
  refine lo_arg C (j := 1) rfl (by decide) dL_law_1321 dL_law_1322 dL_law_1323 dL_law_1324 dL_law_1325 ?_
  refine lo_arg C (j := 2) rfl (by decide) dL_law_1326 dL_law_1327 dL_law_1328 dL_law_1329 dL_law_1330 ?_
  refine lo_arg C (j := 3) rfl (by decide) dL_law_1331 dL_law_1332 dL_law_1333 dL_law_1334 dL_law_1335 ?_
  refine kf_callVi C.1 (m_X11_check g hg _ _ _ _ _ _ h1) lk_RL_165 km_X11_check ob_72 rfl (by decide) rfl (Nat.le_of_ble_eq_true rfl) dL_law_1336 (fun w I2 J2 h2 => ?_)
  obtain ⟨h2, rfl⟩ := h2
  obtain ⟨rfl, h2⟩ := h2
  exact kf_icmp_eq C.1 1400 dL_law_1339 rfl (fun _ => C.2.2.2.2 _ _ h2) (fun h => absurd rfl h)
theorem lo_c34 (C : lo_C g x b L n xs) (hI : Inv I J) : kf_M g x 4 1344 (lo_lv g b (nI n)) [] I J := by
  have hg := kf_okg C.1
  have o := op_lot hI (xs (n + 1))
  refine kf_aload_n C.1 dL_law_1344 rfl 2 rfl ?_
  refine lo_arg C (j := 1) rfl (by decide) dL_law_1345 dL_law_1346 dL_law_1347 dL_law_1348 dL_law_1349 ?_
  refine kf_callVi C.1 (m_X10_lot g hg _ _ _ _ o) lk_RL_166 km_X10_lot ob_0 rfl (by decide) rfl (Nat.le_of_ble_eq_true rfl) dL_law_1350 (fun v I1 J1 h1 => ?_)
  obtain ⟨h1, rfl⟩ := h1
  refine kf_aload_n C.1 dL_law_1353 rfl 3 rfl ?_
  refine lo_arg C (j := 1) rfl (by decide) dL_law_1354 dL_law_1355 dL_law_1356 dL_law_1357 dL_law_1358 ?_
  refine kf_callVi C.1 (m_X11_lot g hg _ _ _ _ h1) lk_RL_169 km_X11_lot ob_72 rfl (by decide) rfl (Nat.le_of_ble_eq_true rfl) dL_law_1359 (fun w I2 J2 h2 => ?_)
  obtain ⟨h2, rfl⟩ := h2
  obtain ⟨rfl, h2⟩ := h2
  exact kf_icmp_eq C.1 1400 dL_law_1362 rfl (fun _ => C.2.2.2.2 _ _ h2) (fun h => absurd rfl h)
theorem lo_c35 (C : lo_C g x b L n xs) (hI : Inv I J) : kf_M g x 4 1367 (lo_lv g b (nI n)) [] I J := by
  have hg := kf_okg C.1
  have o := op_meter hI (xs (n + 1)) (xs (n + 2))
  refine kf_aload_n C.1 dL_law_1367 rfl 2 rfl ?_
  refine lo_arg C (j := 1) rfl (by decide) dL_law_1368 dL_law_1369 dL_law_1370 dL_law_1371 dL_law_1372 ?_
  refine lo_arg C (j := 2) rfl (by decide) dL_law_1373 dL_law_1374 dL_law_1375 dL_law_1376 dL_law_1377 ?_
  refine kf_callVi C.1 (m_X10_meter g hg _ _ _ _ _ o) lk_RL_170 km_X10_meter ob_0 rfl (by decide) rfl (Nat.le_of_ble_eq_true rfl) dL_law_1378 (fun v I1 J1 h1 => ?_)
  obtain ⟨h1, rfl⟩ := h1
  refine kf_aload_n C.1 dL_law_1381 rfl 3 rfl ?_
  refine lo_arg C (j := 1) rfl (by decide) dL_law_1382 dL_law_1383 dL_law_1384 dL_law_1385 dL_law_1386 ?_
  refine lo_arg C (j := 2) rfl (by decide) dL_law_1387 dL_law_1388 dL_law_1389 dL_law_1390 dL_law_1391 ?_
  refine kf_callVi C.1 (m_X11_meter g hg _ _ _ _ _ h1) lk_RL_173 km_X11_meter ob_72 rfl (by decide) rfl (Nat.le_of_ble_eq_true rfl) dL_law_1392 (fun w I2 J2 h2 => ?_)
  obtain ⟨h2, rfl⟩ := h2
  obtain ⟨rfl, h2⟩ := h2
  exact kf_icmp_eq C.1 1400 dL_law_1395 rfl (fun _ => C.2.2.2.2 _ _ h2) (fun h => absurd rfl h)
end LO
