-- the law's calls: circle, gear, row
theorem dL_law_317 : decode cL_law 317 = .ok (.aload_n 1, 1) := by decide +kernel
theorem dL_law_318 : decode cL_law 318 = .ok (.aload_n 0, 1) := by decide +kernel
theorem dL_law_319 : decode cL_law 319 = .ok (.iload 4, 2) := by decide +kernel
theorem dL_law_321 : decode cL_law 321 = .ok (.iconst 1, 1) := by decide +kernel
theorem dL_law_322 : decode cL_law 322 = .ok (.iadd, 1) := by decide +kernel
theorem dL_law_323 : decode cL_law 323 = .ok (.iaload, 1) := by decide +kernel
theorem dL_law_324 : decode cL_law 324 = .ok (.aload_n 3, 1) := by decide +kernel
theorem dL_law_325 : decode cL_law 325 = .ok (.invokestatic 49, 3) := by decide +kernel
theorem dL_law_328 : decode cL_law 328 = .ok (.istore 5, 2) := by decide +kernel
theorem dL_law_330 : decode cL_law 330 = .ok (.aload_n 2, 1) := by decide +kernel
theorem dL_law_331 : decode cL_law 331 = .ok (.aload_n 0, 1) := by decide +kernel
theorem dL_law_332 : decode cL_law 332 = .ok (.iload 4, 2) := by decide +kernel
theorem dL_law_334 : decode cL_law 334 = .ok (.iconst 1, 1) := by decide +kernel
theorem dL_law_335 : decode cL_law 335 = .ok (.iadd, 1) := by decide +kernel
theorem dL_law_336 : decode cL_law 336 = .ok (.iaload, 1) := by decide +kernel
theorem dL_law_337 : decode cL_law 337 = .ok (.invokevirtual 54, 3) := by decide +kernel
theorem dL_law_340 : decode cL_law 340 = .ok (.istore 6, 2) := by decide +kernel
theorem dL_law_342 : decode cL_law 342 = .ok (.aload_n 2, 1) := by decide +kernel
theorem dL_law_343 : decode cL_law 343 = .ok (.invokevirtual 55, 3) := by decide +kernel
theorem dL_law_346 : decode cL_law 346 = .ok (.iload 5, 2) := by decide +kernel
theorem dL_law_348 : decode cL_law 348 = .ok (.if_icmp .eq 5, 3) := by decide +kernel
theorem dL_law_351 : decode cL_law 351 = .ok (.iconst 0, 1) := by decide +kernel
theorem dL_law_352 : decode cL_law 352 = .ok (.ireturn, 1) := by decide +kernel
theorem dL_law_353 : decode cL_law 353 = .ok (.iload 5, 2) := by decide +kernel
theorem dL_law_355 : decode cL_law 355 = .ok (.ifCond .ne 15, 3) := by decide +kernel
theorem dL_law_358 : decode cL_law 358 = .ok (.aload_n 3, 1) := by decide +kernel
theorem dL_law_359 : decode cL_law 359 = .ok (.iconst 0, 1) := by decide +kernel
theorem dL_law_360 : decode cL_law 360 = .ok (.laload, 1) := by decide +kernel
theorem dL_law_361 : decode cL_law 361 = .ok (.iload 6, 2) := by decide +kernel
theorem dL_law_363 : decode cL_law 363 = .ok (.i2l, 1) := by decide +kernel
theorem dL_law_364 : decode cL_law 364 = .ok (.lcmp, 1) := by decide +kernel
theorem dL_law_365 : decode cL_law 365 = .ok (.ifCond .eq 5, 3) := by decide +kernel
theorem dL_law_368 : decode cL_law 368 = .ok (.iconst 0, 1) := by decide +kernel
theorem dL_law_369 : decode cL_law 369 = .ok (.ireturn, 1) := by decide +kernel
theorem dL_law_370 : decode cL_law 370 = .ok (.goto 911, 3) := by decide +kernel
theorem dL_law_373 : decode cL_law 373 = .ok (.aload_n 1, 1) := by decide +kernel
theorem dL_law_374 : decode cL_law 374 = .ok (.aload_n 0, 1) := by decide +kernel
theorem dL_law_375 : decode cL_law 375 = .ok (.iload 4, 2) := by decide +kernel
theorem dL_law_377 : decode cL_law 377 = .ok (.iconst 1, 1) := by decide +kernel
theorem dL_law_378 : decode cL_law 378 = .ok (.iadd, 1) := by decide +kernel
theorem dL_law_379 : decode cL_law 379 = .ok (.iaload, 1) := by decide +kernel
theorem dL_law_380 : decode cL_law 380 = .ok (.aload_n 3, 1) := by decide +kernel
theorem dL_law_381 : decode cL_law 381 = .ok (.invokestatic 58, 3) := by decide +kernel
theorem dL_law_384 : decode cL_law 384 = .ok (.istore 5, 2) := by decide +kernel
theorem dL_law_386 : decode cL_law 386 = .ok (.aload_n 2, 1) := by decide +kernel
theorem dL_law_387 : decode cL_law 387 = .ok (.aload_n 0, 1) := by decide +kernel
theorem dL_law_388 : decode cL_law 388 = .ok (.iload 4, 2) := by decide +kernel
theorem dL_law_390 : decode cL_law 390 = .ok (.iconst 1, 1) := by decide +kernel
theorem dL_law_391 : decode cL_law 391 = .ok (.iadd, 1) := by decide +kernel
theorem dL_law_392 : decode cL_law 392 = .ok (.iaload, 1) := by decide +kernel
theorem dL_law_393 : decode cL_law 393 = .ok (.invokevirtual 60, 3) := by decide +kernel
theorem dL_law_396 : decode cL_law 396 = .ok (.istore 6, 2) := by decide +kernel
theorem dL_law_398 : decode cL_law 398 = .ok (.aload_n 2, 1) := by decide +kernel
theorem dL_law_399 : decode cL_law 399 = .ok (.invokevirtual 55, 3) := by decide +kernel
theorem dL_law_402 : decode cL_law 402 = .ok (.iload 5, 2) := by decide +kernel
theorem dL_law_404 : decode cL_law 404 = .ok (.if_icmp .eq 5, 3) := by decide +kernel
theorem dL_law_407 : decode cL_law 407 = .ok (.iconst 0, 1) := by decide +kernel
theorem dL_law_408 : decode cL_law 408 = .ok (.ireturn, 1) := by decide +kernel
theorem dL_law_409 : decode cL_law 409 = .ok (.iload 5, 2) := by decide +kernel
theorem dL_law_411 : decode cL_law 411 = .ok (.ifCond .ne 15, 3) := by decide +kernel
theorem dL_law_414 : decode cL_law 414 = .ok (.aload_n 3, 1) := by decide +kernel
theorem dL_law_415 : decode cL_law 415 = .ok (.iconst 0, 1) := by decide +kernel
theorem dL_law_416 : decode cL_law 416 = .ok (.laload, 1) := by decide +kernel
theorem dL_law_417 : decode cL_law 417 = .ok (.iload 6, 2) := by decide +kernel
theorem dL_law_419 : decode cL_law 419 = .ok (.i2l, 1) := by decide +kernel
theorem dL_law_420 : decode cL_law 420 = .ok (.lcmp, 1) := by decide +kernel
theorem dL_law_421 : decode cL_law 421 = .ok (.ifCond .eq 5, 3) := by decide +kernel
theorem dL_law_424 : decode cL_law 424 = .ok (.iconst 0, 1) := by decide +kernel
theorem dL_law_425 : decode cL_law 425 = .ok (.ireturn, 1) := by decide +kernel
theorem dL_law_426 : decode cL_law 426 = .ok (.goto 855, 3) := by decide +kernel
theorem dL_law_1226 : decode cL_law 1226 = .ok (.aload_n 1, 1) := by decide +kernel
theorem dL_law_1227 : decode cL_law 1227 = .ok (.aload_n 0, 1) := by decide +kernel
theorem dL_law_1228 : decode cL_law 1228 = .ok (.iload 4, 2) := by decide +kernel
theorem dL_law_1230 : decode cL_law 1230 = .ok (.iconst 1, 1) := by decide +kernel
theorem dL_law_1231 : decode cL_law 1231 = .ok (.iadd, 1) := by decide +kernel
theorem dL_law_1232 : decode cL_law 1232 = .ok (.iaload, 1) := by decide +kernel
theorem dL_law_1233 : decode cL_law 1233 = .ok (.aload_n 3, 1) := by decide +kernel
theorem dL_law_1234 : decode cL_law 1234 = .ok (.invokestatic 179, 3) := by decide +kernel
theorem dL_law_1237 : decode cL_law 1237 = .ok (.istore 5, 2) := by decide +kernel
theorem dL_law_1239 : decode cL_law 1239 = .ok (.aload_n 2, 1) := by decide +kernel
theorem dL_law_1240 : decode cL_law 1240 = .ok (.aload_n 0, 1) := by decide +kernel
theorem dL_law_1241 : decode cL_law 1241 = .ok (.iload 4, 2) := by decide +kernel
theorem dL_law_1243 : decode cL_law 1243 = .ok (.iconst 1, 1) := by decide +kernel
theorem dL_law_1244 : decode cL_law 1244 = .ok (.iadd, 1) := by decide +kernel
theorem dL_law_1245 : decode cL_law 1245 = .ok (.iaload, 1) := by decide +kernel
theorem dL_law_1246 : decode cL_law 1246 = .ok (.invokevirtual 181, 3) := by decide +kernel
theorem dL_law_1249 : decode cL_law 1249 = .ok (.lstore 6, 2) := by decide +kernel
theorem dL_law_1251 : decode cL_law 1251 = .ok (.aload_n 2, 1) := by decide +kernel
theorem dL_law_1252 : decode cL_law 1252 = .ok (.invokevirtual 55, 3) := by decide +kernel
theorem dL_law_1255 : decode cL_law 1255 = .ok (.iload 5, 2) := by decide +kernel
theorem dL_law_1257 : decode cL_law 1257 = .ok (.if_icmp .eq 5, 3) := by decide +kernel
theorem dL_law_1260 : decode cL_law 1260 = .ok (.iconst 0, 1) := by decide +kernel
theorem dL_law_1261 : decode cL_law 1261 = .ok (.ireturn, 1) := by decide +kernel
theorem dL_law_1262 : decode cL_law 1262 = .ok (.iload 5, 2) := by decide +kernel
theorem dL_law_1264 : decode cL_law 1264 = .ok (.ifCond .ne 14, 3) := by decide +kernel
theorem dL_law_1267 : decode cL_law 1267 = .ok (.aload_n 3, 1) := by decide +kernel
theorem dL_law_1268 : decode cL_law 1268 = .ok (.iconst 0, 1) := by decide +kernel
theorem dL_law_1269 : decode cL_law 1269 = .ok (.laload, 1) := by decide +kernel
theorem dL_law_1270 : decode cL_law 1270 = .ok (.lload 6, 2) := by decide +kernel
theorem dL_law_1272 : decode cL_law 1272 = .ok (.lcmp, 1) := by decide +kernel
theorem dL_law_1273 : decode cL_law 1273 = .ok (.ifCond .eq 5, 3) := by decide +kernel
theorem dL_law_1276 : decode cL_law 1276 = .ok (.iconst 0, 1) := by decide +kernel
theorem dL_law_1277 : decode cL_law 1277 = .ok (.ireturn, 1) := by decide +kernel
theorem dL_law_1278 : decode cL_law 1278 = .ok (.goto 3, 3) := by decide +kernel
theorem lw_m49 : Cond.methodLink RL 49 yL_circle ∈ gwd := inT4 156 (by rfl) rfl
theorem lw_s49 : Cond.static yL_circle ∈ gwd := inT4 157 (by rfl) rfl
theorem lw_c49 : Cond.codeWith yL_circle cL_circle 4 (some .int) [(0, 9, 12, 13)] ∈ gwd := inT4 158 (by rfl) rfl
theorem lw_m58 : Cond.methodLink RL 58 yL_gear ∈ gwd := inT4 227 (by rfl) rfl
theorem lw_s58 : Cond.static yL_gear ∈ gwd := inT4 228 (by rfl) rfl
theorem lw_c58 : Cond.codeWith yL_gear cL_gear 4 (some .int) [(0, 9, 12, 13)] ∈ gwd := inT4 229 (by rfl) rfl
theorem lw_m179 : Cond.methodLink RL 179 yL_row ∈ gwd := inT4 236 (by rfl) rfl
theorem lw_s179 : Cond.static yL_row ∈ gwd := inT4 237 (by rfl) rfl
theorem lw_c179 : Cond.codeWith yL_row cL_row 4 (some .int) [(0, 8, 11, 13)] ∈ gwd := inT4 238 (by rfl) rfl
section Lc
variable {X : Ctx} {nm : String} {b L x m d k n : Nat} {xs : Nat → Int32} {i : Int32} {Q : Pq} {h : Hp} {s : Sv}
theorem lc_5 (C : CLw X nm) (E : SX X b L xs) (hfl : (lX X).stackTraces = false) (kx : KxX X) (z : 0 < (dtX X).2.2.size) (i0 : 0 ≤ i.toInt) (iL : i.toInt + 6 ≤ L) (L3 : L ≤ 3072) (J : Jn h x m s) (bk : k + shC h x + 9 * (d + 1) ≤ mcX X) (bn : n + shM h x + 191 * (d + 1) ≤ msX X) (hk : LK X Q b x m i d) : Wj X k n Q 317 (LV b x m i) [] h := by
  refine w_aload_n (pc := 317) C dL_law_317 rfl ?_
  refine lw_ld (pc := 318) (v := 1) C E rfl dL_law_318 dL_law_319 dL_law_321 dL_law_322 dL_law_323 rfl rfl (inb_arg i0 iL L3 (by decide) (by decide)) ?_
  refine w_aload_n (pc := 324) C dL_law_324 rfl ?_
  refine w_callSW (pc := 325) (As := [.ref x, .int (xs (ix (i + 1))), .ref (m + 17)]) (st := []) (k' := 1) (n' := 6) (na := 3) C kx lw_m49 (inT1 0 (by rfl) rfl) lw_c49 ⟨by decide +kernel, by decide +kernel, by decide +kernel⟩ lw_s49 (by decide) dL_law_325 rfl rfl (Nat.le_of_ble_eq_true rfl) (by omega) (by omega) ((lh_circle hfl J.1 J.2.2.1 J.2.2.2 rfl).mono (fun v h1 hp => ?_))
  obtain ⟨y, rfl, Dj, f1, g14⟩ := hp
  obtain ⟨M1, o1⟩ := J.mid f1 (fun b q => q)
  obtain ⟨e1, e2⟩ := shC_same g14
  show Wj X _ _ Q 328 (LV b x m i) [.int y] h1
  refine w_istore (pc := 328) C dL_law_328 (by decide) ?_
  refine w_aload_n (pc := 330) C dL_law_330 rfl ?_
  refine lw_ld (pc := 331) (v := 1) C E rfl dL_law_331 dL_law_332 dL_law_334 dL_law_335 dL_law_336 rfl rfl (inb_arg i0 iL L3 (by decide) (by decide)) ?_
  refine w_cV1_1 (pc := 337) (k' := 0) (n' := 0) (c := 10) C cl_L_54 lv_X10_circle (by decide) dL_law_337 (Nat.le_of_ble_eq_true rfl) rfl (by omega) (by omega) (St10_k M1.1.1) ((ma_circle M1).mono (fun v h2 hp => ?_))
  obtain ⟨y2, rfl, p1, p2, f2⟩ := hp
  have go : gl h2 (m + 17) 0 = gl h1 (m + 17) 0 := (f2.2.2.2.2 (m + 17) (fun q => by unfold inM at q; omega) 0).2
  show Wj X _ _ Q 340 ((5, .int y) :: LV b x m i) [.int y2] h2
  refine w_istore (pc := 340) C dL_law_340 (by decide) ?_
  show Wj X _ _ Q 342 ((6, .int y2) :: (5, .int y) :: LV b x m i) [] h2
  rcases Dj with ⟨zv, rfl, ez, S1⟩ | ⟨zv, rfl, S1⟩
  · obtain ⟨t0, ey2, M2⟩ := p1 zv
    obtain ⟨J2, g1, g2⟩ := Jn.two S1 o1 M2 f2
    refine w_aload_n (pc := 342) C dL_law_342 rfl ?_
    refine w_cV1_0 (pc := 343) (k' := 0) (n' := 0) (c := 10) C cl_L_55 lv_X10_thrown (by decide) dL_law_343 (Nat.le_of_ble_eq_true rfl) rfl (by omega) (by omega) (St10_k M2.1.1) ((sf_X10_thrown M2.1.1).mono (fun v h3 hp => ?_))
    obtain ⟨rfl, rfl⟩ := hp
    show Wj X _ _ Q 346 ((6, .int y2) :: (5, .int 0) :: LV b x m i) [.int (gi h3 m 0)] h3
    rw [t0]
    refine w_iload (pc := 346) C dL_law_346 rfl ?_
    refine w_icmp_eq (pc := 348) (tgt := 353) C dL_law_348 rfl ⟨fun _ => ?_, fun q => absurd rfl q⟩
    refine w_iload (pc := 353) C dL_law_353 rfl ?_
    refine w_if_ne (pc := 355) (tgt := 370) C dL_law_355 rfl ⟨fun q => absurd rfl q, fun _ => ?_⟩
    refine w_aload_n (pc := 358) C dL_law_358 rfl ?_
    refine w_iconst (pc := 359) (v := 0) C dL_law_359 rfl ?_
    refine w_lald (pc := 360) C dL_law_360 J2.2.2.1 (by rw [J2.2.2.2]; exact ⟨by decide, by decide⟩) ?_
    refine w_iload (pc := 361) C dL_law_361 rfl ?_
    refine w_i2l (pc := 363) C dL_law_363 ?_
    refine w_lcmp_eq (pc := 364) (tgt := 370) C dL_law_364 dL_law_365 rfl ⟨fun _ => ?_, fun q => absurd (i64_eq.mpr ?_) q⟩
    · refine w_goto (pc := 370) (tgt := 1281) C dL_law_370 rfl ?_
      refine w_sub (lv' := LV b x m i) ⟨rfl, rfl, rfl, rfl, rfl, trivial⟩ ?_
      exact hk _ _ h3 _ J2 (by omega) (by omega)
    · show (gl h3 (m + 17) 0).toInt = _
      rw [go, ez, i2l_t, ey2]
  · obtain ⟨t0, M2⟩ := p2 zv
    obtain ⟨J2, g1, g2⟩ := Jn.two S1 o1 M2 f2
    refine w_aload_n (pc := 342) C dL_law_342 rfl ?_
    refine w_cV1_0 (pc := 343) (k' := 0) (n' := 0) (c := 10) C cl_L_55 lv_X10_thrown (by decide) dL_law_343 (Nat.le_of_ble_eq_true rfl) rfl (by omega) (by omega) (St10_k M2.1.1) ((sf_X10_thrown M2.1.1).mono (fun v h3 hp => ?_))
    obtain ⟨rfl, rfl⟩ := hp
    show Wj X _ _ Q 346 ((6, .int y2) :: (5, .int 1) :: LV b x m i) [.int (gi h3 m 0)] h3
    rw [t0]
    refine w_iload (pc := 346) C dL_law_346 rfl ?_
    refine w_icmp_eq (pc := 348) (tgt := 353) C dL_law_348 rfl ⟨fun _ => ?_, fun q => absurd rfl q⟩
    refine w_iload (pc := 353) C dL_law_353 rfl ?_
    refine w_if_ne (pc := 355) (tgt := 370) C dL_law_355 rfl ⟨fun _ => ?_, fun q => absurd q (by decide)⟩
    refine w_goto (pc := 370) (tgt := 1281) C dL_law_370 rfl ?_
    refine w_sub (lv' := LV b x m i) ⟨rfl, rfl, rfl, rfl, rfl, trivial⟩ ?_
    exact hk _ _ h3 _ J2 (by omega) (by omega)
theorem lc_6 (C : CLw X nm) (E : SX X b L xs) (hfl : (lX X).stackTraces = false) (kx : KxX X) (z : 0 < (dtX X).2.2.size) (i0 : 0 ≤ i.toInt) (iL : i.toInt + 6 ≤ L) (L3 : L ≤ 3072) (J : Jn h x m s) (bk : k + shC h x + 9 * (d + 1) ≤ mcX X) (bn : n + shM h x + 191 * (d + 1) ≤ msX X) (hk : LK X Q b x m i d) : Wj X k n Q 373 (LV b x m i) [] h := by
  refine w_aload_n (pc := 373) C dL_law_373 rfl ?_
  refine lw_ld (pc := 374) (v := 1) C E rfl dL_law_374 dL_law_375 dL_law_377 dL_law_378 dL_law_379 rfl rfl (inb_arg i0 iL L3 (by decide) (by decide)) ?_
  refine w_aload_n (pc := 380) C dL_law_380 rfl ?_
  refine w_callSW (pc := 381) (As := [.ref x, .int (xs (ix (i + 1))), .ref (m + 17)]) (st := []) (k' := 1) (n' := 6) (na := 3) C kx lw_m58 (inT1 0 (by rfl) rfl) lw_c58 ⟨by decide +kernel, by decide +kernel, by decide +kernel⟩ lw_s58 (by decide) dL_law_381 rfl rfl (Nat.le_of_ble_eq_true rfl) (by omega) (by omega) ((lh_gear hfl J.1 J.2.2.1 J.2.2.2 rfl).mono (fun v h1 hp => ?_))
  obtain ⟨y, rfl, Dj, f1, g14⟩ := hp
  obtain ⟨M1, o1⟩ := J.mid f1 (fun b q => q)
  obtain ⟨e1, e2⟩ := shC_same g14
  show Wj X _ _ Q 384 (LV b x m i) [.int y] h1
  refine w_istore (pc := 384) C dL_law_384 (by decide) ?_
  refine w_aload_n (pc := 386) C dL_law_386 rfl ?_
  refine lw_ld (pc := 387) (v := 1) C E rfl dL_law_387 dL_law_388 dL_law_390 dL_law_391 dL_law_392 rfl rfl (inb_arg i0 iL L3 (by decide) (by decide)) ?_
  refine w_cV1_1 (pc := 393) (k' := 0) (n' := 0) (c := 10) C cl_L_60 lv_X10_gear (by decide) dL_law_393 (Nat.le_of_ble_eq_true rfl) rfl (by omega) (by omega) (St10_k M1.1.1) ((ma_gear M1).mono (fun v h2 hp => ?_))
  obtain ⟨y2, rfl, p1, p2, M2, f2⟩ := hp
  have go : gl h2 (m + 17) 0 = gl h1 (m + 17) 0 := (f2.2.2.2.2 (m + 17) (fun q => by unfold inM at q; omega) 0).2
  show Wj X _ _ Q 396 ((5, .int y) :: LV b x m i) [.int y2] h2
  refine w_istore (pc := 396) C dL_law_396 (by decide) ?_
  show Wj X _ _ Q 398 ((6, .int y2) :: (5, .int y) :: LV b x m i) [] h2
  rcases Dj with ⟨zv, rfl, ez, S1⟩ | ⟨zv, rfl, S1⟩
  · obtain ⟨t0, ey2⟩ := p1 zv
    obtain ⟨J2, g1, g2⟩ := Jn.two S1 o1 M2 f2
    refine w_aload_n (pc := 398) C dL_law_398 rfl ?_
    refine w_cV1_0 (pc := 399) (k' := 0) (n' := 0) (c := 10) C cl_L_55 lv_X10_thrown (by decide) dL_law_399 (Nat.le_of_ble_eq_true rfl) rfl (by omega) (by omega) (St10_k M2.1.1) ((sf_X10_thrown M2.1.1).mono (fun v h3 hp => ?_))
    obtain ⟨rfl, rfl⟩ := hp
    show Wj X _ _ Q 402 ((6, .int y2) :: (5, .int 0) :: LV b x m i) [.int (gi h3 m 0)] h3
    rw [t0]
    refine w_iload (pc := 402) C dL_law_402 rfl ?_
    refine w_icmp_eq (pc := 404) (tgt := 409) C dL_law_404 rfl ⟨fun _ => ?_, fun q => absurd rfl q⟩
    refine w_iload (pc := 409) C dL_law_409 rfl ?_
    refine w_if_ne (pc := 411) (tgt := 426) C dL_law_411 rfl ⟨fun q => absurd rfl q, fun _ => ?_⟩
    refine w_aload_n (pc := 414) C dL_law_414 rfl ?_
    refine w_iconst (pc := 415) (v := 0) C dL_law_415 rfl ?_
    refine w_lald (pc := 416) C dL_law_416 J2.2.2.1 (by rw [J2.2.2.2]; exact ⟨by decide, by decide⟩) ?_
    refine w_iload (pc := 417) C dL_law_417 rfl ?_
    refine w_i2l (pc := 419) C dL_law_419 ?_
    refine w_lcmp_eq (pc := 420) (tgt := 426) C dL_law_420 dL_law_421 rfl ⟨fun _ => ?_, fun q => absurd (i64_eq.mpr ?_) q⟩
    · refine w_goto (pc := 426) (tgt := 1281) C dL_law_426 rfl ?_
      refine w_sub (lv' := LV b x m i) ⟨rfl, rfl, rfl, rfl, rfl, trivial⟩ ?_
      exact hk _ _ h3 _ J2 (by omega) (by omega)
    · show (gl h3 (m + 17) 0).toInt = _
      rw [go, ez, i2l_t, ey2]
  · have t0 := p2 zv
    obtain ⟨J2, g1, g2⟩ := Jn.two S1 o1 M2 f2
    refine w_aload_n (pc := 398) C dL_law_398 rfl ?_
    refine w_cV1_0 (pc := 399) (k' := 0) (n' := 0) (c := 10) C cl_L_55 lv_X10_thrown (by decide) dL_law_399 (Nat.le_of_ble_eq_true rfl) rfl (by omega) (by omega) (St10_k M2.1.1) ((sf_X10_thrown M2.1.1).mono (fun v h3 hp => ?_))
    obtain ⟨rfl, rfl⟩ := hp
    show Wj X _ _ Q 402 ((6, .int y2) :: (5, .int 1) :: LV b x m i) [.int (gi h3 m 0)] h3
    rw [t0]
    refine w_iload (pc := 402) C dL_law_402 rfl ?_
    refine w_icmp_eq (pc := 404) (tgt := 409) C dL_law_404 rfl ⟨fun _ => ?_, fun q => absurd rfl q⟩
    refine w_iload (pc := 409) C dL_law_409 rfl ?_
    refine w_if_ne (pc := 411) (tgt := 426) C dL_law_411 rfl ⟨fun _ => ?_, fun q => absurd q (by decide)⟩
    refine w_goto (pc := 426) (tgt := 1281) C dL_law_426 rfl ?_
    refine w_sub (lv' := LV b x m i) ⟨rfl, rfl, rfl, rfl, rfl, trivial⟩ ?_
    exact hk _ _ h3 _ J2 (by omega) (by omega)
theorem lc_36 (C : CLw X nm) (E : SX X b L xs) (hfl : (lX X).stackTraces = false) (kx : KxX X) (z : 0 < (dtX X).2.2.size) (i0 : 0 ≤ i.toInt) (iL : i.toInt + 6 ≤ L) (L3 : L ≤ 3072) (J : Jn h x m s) (bk : k + shC h x + 9 * (d + 1) ≤ mcX X) (bn : n + shM h x + 191 * (d + 1) ≤ msX X) (hk : LK X Q b x m i d) : Wj X k n Q 1226 (LV b x m i) [] h := by
  refine w_aload_n (pc := 1226) C dL_law_1226 rfl ?_
  refine lw_ld (pc := 1227) (v := 1) C E rfl dL_law_1227 dL_law_1228 dL_law_1230 dL_law_1231 dL_law_1232 rfl rfl (inb_arg i0 iL L3 (by decide) (by decide)) ?_
  refine w_aload_n (pc := 1233) C dL_law_1233 rfl ?_
  refine w_callSW (pc := 1234) (As := [.ref x, .int (xs (ix (i + 1))), .ref (m + 17)]) (st := []) (k' := 1) (n' := 6) (na := 3) C kx lw_m179 (inT1 0 (by rfl) rfl) lw_c179 ⟨by decide +kernel, by decide +kernel, by decide +kernel⟩ lw_s179 (by decide) dL_law_1234 rfl rfl (Nat.le_of_ble_eq_true rfl) (by omega) (by omega) ((lh_row hfl J.1 J.2.2.1 J.2.2.2 rfl).mono (fun v h1 hp => ?_))
  obtain ⟨y, rfl, Dj, f1, g14⟩ := hp
  obtain ⟨M1, o1⟩ := J.mid f1 (fun b q => q)
  obtain ⟨e1, e2⟩ := shC_same g14
  show Wj X _ _ Q 1237 (LV b x m i) [.int y] h1
  refine w_istore (pc := 1237) C dL_law_1237 (by decide) ?_
  refine w_aload_n (pc := 1239) C dL_law_1239 rfl ?_
  refine lw_ld (pc := 1240) (v := 1) C E rfl dL_law_1240 dL_law_1241 dL_law_1243 dL_law_1244 dL_law_1245 rfl rfl (inb_arg i0 iL L3 (by decide) (by decide)) ?_
  refine w_cV1_1 (pc := 1246) (k' := 0) (n' := 0) (c := 10) C cl_L_181 lv_X10_row (by decide) dL_law_1246 (Nat.le_of_ble_eq_true rfl) rfl (by omega) (by omega) (St10_k M1.1.1) ((ma_row M1).mono (fun v h2 hp => ?_))
  obtain ⟨y2, rfl, p1, p2, M2, f2⟩ := hp
  have go : gl h2 (m + 17) 0 = gl h1 (m + 17) 0 := (f2.2.2.2.2 (m + 17) (fun q => by unfold inM at q; omega) 0).2
  show Wj X _ _ Q 1249 ((5, .int y) :: LV b x m i) [.long y2] h2
  refine w_lstore (pc := 1249) C dL_law_1249 (by decide) ?_
  show Wj X _ _ Q 1251 ((6, .long y2) :: (5, .int y) :: LV b x m i) [] h2
  rcases Dj with ⟨zv, rfl, ez, S1⟩ | ⟨zv, rfl, S1⟩
  · obtain ⟨t0, ey2⟩ := p1 zv
    obtain ⟨J2, g1, g2⟩ := Jn.two S1 o1 M2 f2
    refine w_aload_n (pc := 1251) C dL_law_1251 rfl ?_
    refine w_cV1_0 (pc := 1252) (k' := 0) (n' := 0) (c := 10) C cl_L_55 lv_X10_thrown (by decide) dL_law_1252 (Nat.le_of_ble_eq_true rfl) rfl (by omega) (by omega) (St10_k M2.1.1) ((sf_X10_thrown M2.1.1).mono (fun v h3 hp => ?_))
    obtain ⟨rfl, rfl⟩ := hp
    show Wj X _ _ Q 1255 ((6, .long y2) :: (5, .int 0) :: LV b x m i) [.int (gi h3 m 0)] h3
    rw [t0]
    refine w_iload (pc := 1255) C dL_law_1255 rfl ?_
    refine w_icmp_eq (pc := 1257) (tgt := 1262) C dL_law_1257 rfl ⟨fun _ => ?_, fun q => absurd rfl q⟩
    refine w_iload (pc := 1262) C dL_law_1262 rfl ?_
    refine w_if_ne (pc := 1264) (tgt := 1278) C dL_law_1264 rfl ⟨fun q => absurd rfl q, fun _ => ?_⟩
    refine w_aload_n (pc := 1267) C dL_law_1267 rfl ?_
    refine w_iconst (pc := 1268) (v := 0) C dL_law_1268 rfl ?_
    refine w_lald (pc := 1269) C dL_law_1269 J2.2.2.1 (by rw [J2.2.2.2]; exact ⟨by decide, by decide⟩) ?_
    refine w_lload (pc := 1270) C dL_law_1270 rfl ?_
    refine w_lcmp_eq (pc := 1272) (tgt := 1278) C dL_law_1272 dL_law_1273 rfl ⟨fun _ => ?_, fun q => absurd (i64_eq.mpr ?_) q⟩
    · refine w_goto (pc := 1278) (tgt := 1281) C dL_law_1278 rfl ?_
      refine w_sub (lv' := LV b x m i) ⟨rfl, rfl, rfl, rfl, rfl, trivial⟩ ?_
      exact hk _ _ h3 _ J2 (by omega) (by omega)
    · show (gl h3 (m + 17) 0).toInt = _
      rw [go, ez, ey2]
  · have t0 := p2 zv
    obtain ⟨J2, g1, g2⟩ := Jn.two S1 o1 M2 f2
    refine w_aload_n (pc := 1251) C dL_law_1251 rfl ?_
    refine w_cV1_0 (pc := 1252) (k' := 0) (n' := 0) (c := 10) C cl_L_55 lv_X10_thrown (by decide) dL_law_1252 (Nat.le_of_ble_eq_true rfl) rfl (by omega) (by omega) (St10_k M2.1.1) ((sf_X10_thrown M2.1.1).mono (fun v h3 hp => ?_))
    obtain ⟨rfl, rfl⟩ := hp
    show Wj X _ _ Q 1255 ((6, .long y2) :: (5, .int 1) :: LV b x m i) [.int (gi h3 m 0)] h3
    rw [t0]
    refine w_iload (pc := 1255) C dL_law_1255 rfl ?_
    refine w_icmp_eq (pc := 1257) (tgt := 1262) C dL_law_1257 rfl ⟨fun _ => ?_, fun q => absurd rfl q⟩
    refine w_iload (pc := 1262) C dL_law_1262 rfl ?_
    refine w_if_ne (pc := 1264) (tgt := 1278) C dL_law_1264 rfl ⟨fun _ => ?_, fun q => absurd q (by decide)⟩
    refine w_goto (pc := 1278) (tgt := 1281) C dL_law_1278 rfl ?_
    refine w_sub (lv' := LV b x m i) ⟨rfl, rfl, rfl, rfl, rfl, trivial⟩ ?_
    exact hk _ _ h3 _ J2 (by omega) (by omega)
end Lc
