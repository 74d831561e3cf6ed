-- the law's calls: sign, end, plates, gears, sets, simple, compound
theorem dL_law_204 : decode cL_law 204 = .ok (.aload_n 1, 1) := by decide +kernel
theorem dL_law_205 : decode cL_law 205 = .ok (.aload_n 0, 1) := by decide +kernel
theorem dL_law_206 : decode cL_law 206 = .ok (.iload 4, 2) := by decide +kernel
theorem dL_law_208 : decode cL_law 208 = .ok (.iconst 1, 1) := by decide +kernel
theorem dL_law_209 : decode cL_law 209 = .ok (.iadd, 1) := by decide +kernel
theorem dL_law_210 : decode cL_law 210 = .ok (.iaload, 1) := by decide +kernel
theorem dL_law_211 : decode cL_law 211 = .ok (.invokevirtual 26, 3) := by decide +kernel
theorem dL_law_214 : decode cL_law 214 = .ok (.aload_n 2, 1) := by decide +kernel
theorem dL_law_215 : decode cL_law 215 = .ok (.aload_n 0, 1) := by decide +kernel
theorem dL_law_216 : decode cL_law 216 = .ok (.iload 4, 2) := by decide +kernel
theorem dL_law_218 : decode cL_law 218 = .ok (.iconst 1, 1) := by decide +kernel
theorem dL_law_219 : decode cL_law 219 = .ok (.iadd, 1) := by decide +kernel
theorem dL_law_220 : decode cL_law 220 = .ok (.iaload, 1) := by decide +kernel
theorem dL_law_221 : decode cL_law 221 = .ok (.invokevirtual 29, 3) := by decide +kernel
theorem dL_law_224 : decode cL_law 224 = .ok (.if_icmp .eq 1057, 3) := by decide +kernel
theorem dL_law_227 : decode cL_law 227 = .ok (.iconst 0, 1) := by decide +kernel
theorem dL_law_228 : decode cL_law 228 = .ok (.ireturn, 1) := by decide +kernel
theorem dL_law_229 : decode cL_law 229 = .ok (.aload_n 1, 1) := by decide +kernel
theorem dL_law_230 : decode cL_law 230 = .ok (.aload_n 0, 1) := by decide +kernel
theorem dL_law_231 : decode cL_law 231 = .ok (.iload 4, 2) := by decide +kernel
theorem dL_law_233 : decode cL_law 233 = .ok (.iconst 1, 1) := by decide +kernel
theorem dL_law_234 : decode cL_law 234 = .ok (.iadd, 1) := by decide +kernel
theorem dL_law_235 : decode cL_law 235 = .ok (.iaload, 1) := by decide +kernel
theorem dL_law_236 : decode cL_law 236 = .ok (.invokevirtual 30, 3) := by decide +kernel
theorem dL_law_239 : decode cL_law 239 = .ok (.aload_n 2, 1) := by decide +kernel
theorem dL_law_240 : decode cL_law 240 = .ok (.aload_n 0, 1) := by decide +kernel
theorem dL_law_241 : decode cL_law 241 = .ok (.iload 4, 2) := by decide +kernel
theorem dL_law_243 : decode cL_law 243 = .ok (.iconst 1, 1) := by decide +kernel
theorem dL_law_244 : decode cL_law 244 = .ok (.iadd, 1) := by decide +kernel
theorem dL_law_245 : decode cL_law 245 = .ok (.iaload, 1) := by decide +kernel
theorem dL_law_246 : decode cL_law 246 = .ok (.invokevirtual 34, 3) := by decide +kernel
theorem dL_law_249 : decode cL_law 249 = .ok (.if_icmp .eq 1032, 3) := by decide +kernel
theorem dL_law_252 : decode cL_law 252 = .ok (.iconst 0, 1) := by decide +kernel
theorem dL_law_253 : decode cL_law 253 = .ok (.ireturn, 1) := by decide +kernel
theorem dL_law_254 : decode cL_law 254 = .ok (.aload_n 1, 1) := by decide +kernel
theorem dL_law_255 : decode cL_law 255 = .ok (.invokevirtual 35, 3) := by decide +kernel
theorem dL_law_258 : decode cL_law 258 = .ok (.aload_n 2, 1) := by decide +kernel
theorem dL_law_259 : decode cL_law 259 = .ok (.invokevirtual 39, 3) := by decide +kernel
theorem dL_law_262 : decode cL_law 262 = .ok (.if_icmp .eq 1019, 3) := by decide +kernel
theorem dL_law_265 : decode cL_law 265 = .ok (.iconst 0, 1) := by decide +kernel
theorem dL_law_266 : decode cL_law 266 = .ok (.ireturn, 1) := by decide +kernel
theorem dL_law_267 : decode cL_law 267 = .ok (.aload_n 1, 1) := by decide +kernel
theorem dL_law_268 : decode cL_law 268 = .ok (.invokevirtual 40, 3) := by decide +kernel
theorem dL_law_271 : decode cL_law 271 = .ok (.aload_n 2, 1) := by decide +kernel
theorem dL_law_272 : decode cL_law 272 = .ok (.invokevirtual 43, 3) := by decide +kernel
theorem dL_law_275 : decode cL_law 275 = .ok (.if_icmp .eq 1006, 3) := by decide +kernel
theorem dL_law_278 : decode cL_law 278 = .ok (.iconst 0, 1) := by decide +kernel
theorem dL_law_279 : decode cL_law 279 = .ok (.ireturn, 1) := by decide +kernel
theorem dL_law_280 : decode cL_law 280 = .ok (.aload_n 1, 1) := by decide +kernel
theorem dL_law_281 : decode cL_law 281 = .ok (.aload_n 0, 1) := by decide +kernel
theorem dL_law_282 : decode cL_law 282 = .ok (.iload 4, 2) := by decide +kernel
theorem dL_law_284 : decode cL_law 284 = .ok (.iconst 1, 1) := by decide +kernel
theorem dL_law_285 : decode cL_law 285 = .ok (.iadd, 1) := by decide +kernel
theorem dL_law_286 : decode cL_law 286 = .ok (.iaload, 1) := by decide +kernel
theorem dL_law_287 : decode cL_law 287 = .ok (.aload_n 0, 1) := by decide +kernel
theorem dL_law_288 : decode cL_law 288 = .ok (.iload 4, 2) := by decide +kernel
theorem dL_law_290 : decode cL_law 290 = .ok (.iconst 2, 1) := by decide +kernel
theorem dL_law_291 : decode cL_law 291 = .ok (.iadd, 1) := by decide +kernel
theorem dL_law_292 : decode cL_law 292 = .ok (.iaload, 1) := by decide +kernel
theorem dL_law_293 : decode cL_law 293 = .ok (.invokevirtual 44, 3) := by decide +kernel
theorem dL_law_296 : decode cL_law 296 = .ok (.aload_n 2, 1) := by decide +kernel
theorem dL_law_297 : decode cL_law 297 = .ok (.aload_n 0, 1) := by decide +kernel
theorem dL_law_298 : decode cL_law 298 = .ok (.iload 4, 2) := by decide +kernel
theorem dL_law_300 : decode cL_law 300 = .ok (.iconst 1, 1) := by decide +kernel
theorem dL_law_301 : decode cL_law 301 = .ok (.iadd, 1) := by decide +kernel
theorem dL_law_302 : decode cL_law 302 = .ok (.iaload, 1) := by decide +kernel
theorem dL_law_303 : decode cL_law 303 = .ok (.aload_n 0, 1) := by decide +kernel
theorem dL_law_304 : decode cL_law 304 = .ok (.iload 4, 2) := by decide +kernel
theorem dL_law_306 : decode cL_law 306 = .ok (.iconst 2, 1) := by decide +kernel
theorem dL_law_307 : decode cL_law 307 = .ok (.iadd, 1) := by decide +kernel
theorem dL_law_308 : decode cL_law 308 = .ok (.iaload, 1) := by decide +kernel
theorem dL_law_309 : decode cL_law 309 = .ok (.invokevirtual 48, 3) := by decide +kernel
theorem dL_law_312 : decode cL_law 312 = .ok (.if_icmp .eq 969, 3) := by decide +kernel
theorem dL_law_315 : decode cL_law 315 = .ok (.iconst 0, 1) := by decide +kernel
theorem dL_law_316 : decode cL_law 316 = .ok (.ireturn, 1) := by decide +kernel
theorem dL_law_429 : decode cL_law 429 = .ok (.aload_n 1, 1) := by decide +kernel
theorem dL_law_430 : decode cL_law 430 = .ok (.aload_n 0, 1) := by decide +kernel
theorem dL_law_431 : decode cL_law 431 = .ok (.iload 4, 2) := by decide +kernel
theorem dL_law_433 : decode cL_law 433 = .ok (.iconst 1, 1) := by decide +kernel
theorem dL_law_434 : decode cL_law 434 = .ok (.iadd, 1) := by decide +kernel
theorem dL_law_435 : decode cL_law 435 = .ok (.iaload, 1) := by decide +kernel
theorem dL_law_436 : decode cL_law 436 = .ok (.invokevirtual 61, 3) := by decide +kernel
theorem dL_law_439 : decode cL_law 439 = .ok (.aload_n 2, 1) := by decide +kernel
theorem dL_law_440 : decode cL_law 440 = .ok (.aload_n 0, 1) := by decide +kernel
theorem dL_law_441 : decode cL_law 441 = .ok (.iload 4, 2) := by decide +kernel
theorem dL_law_443 : decode cL_law 443 = .ok (.iconst 1, 1) := by decide +kernel
theorem dL_law_444 : decode cL_law 444 = .ok (.iadd, 1) := by decide +kernel
theorem dL_law_445 : decode cL_law 445 = .ok (.iaload, 1) := by decide +kernel
theorem dL_law_446 : decode cL_law 446 = .ok (.invokevirtual 64, 3) := by decide +kernel
theorem dL_law_449 : decode cL_law 449 = .ok (.if_icmp .eq 832, 3) := by decide +kernel
theorem dL_law_452 : decode cL_law 452 = .ok (.iconst 0, 1) := by decide +kernel
theorem dL_law_453 : decode cL_law 453 = .ok (.ireturn, 1) := by decide +kernel
theorem dL_law_454 : decode cL_law 454 = .ok (.aload_n 1, 1) := by decide +kernel
theorem dL_law_455 : decode cL_law 455 = .ok (.aload_n 0, 1) := by decide +kernel
theorem dL_law_456 : decode cL_law 456 = .ok (.iload 4, 2) := by decide +kernel
theorem dL_law_458 : decode cL_law 458 = .ok (.iconst 1, 1) := by decide +kernel
theorem dL_law_459 : decode cL_law 459 = .ok (.iadd, 1) := by decide +kernel
theorem dL_law_460 : decode cL_law 460 = .ok (.iaload, 1) := by decide +kernel
theorem dL_law_461 : decode cL_law 461 = .ok (.invokevirtual 65, 3) := by decide +kernel
theorem dL_law_464 : decode cL_law 464 = .ok (.aload_n 2, 1) := by decide +kernel
theorem dL_law_465 : decode cL_law 465 = .ok (.aload_n 0, 1) := by decide +kernel
theorem dL_law_466 : decode cL_law 466 = .ok (.iload 4, 2) := by decide +kernel
theorem dL_law_468 : decode cL_law 468 = .ok (.iconst 1, 1) := by decide +kernel
theorem dL_law_469 : decode cL_law 469 = .ok (.iadd, 1) := by decide +kernel
theorem dL_law_470 : decode cL_law 470 = .ok (.iaload, 1) := by decide +kernel
theorem dL_law_471 : decode cL_law 471 = .ok (.invokevirtual 68, 3) := by decide +kernel
theorem dL_law_474 : decode cL_law 474 = .ok (.if_icmp .eq 807, 3) := by decide +kernel
theorem dL_law_477 : decode cL_law 477 = .ok (.iconst 0, 1) := by decide +kernel
theorem dL_law_478 : decode cL_law 478 = .ok (.ireturn, 1) := by decide +kernel
section Lc
variable {X : Ctx} {nm : String} {b L x m d k n : Nat} {xs : Nat → Int32} {i : Int32} {Q : Pq} {h : Hp} {s : Sv}
theorem lc_0 (C : CLw X nm) (E : SX X b L xs) (z : 0 < (dtX X).2.2.size) (i0 : 0 ≤ i.toInt) (iL : i.toInt + 6 ≤ L) (L3 : L ≤ 3072) (J : Jn h x m s) (bk : k + shC h x + 9 * (d + 1) ≤ mcX X) (bn : n + shM h x + 191 * (d + 1) ≤ msX X) (hk : LK X Q b x m i d) : Wj X k n Q 204 (LV b x m i) [] h := by
  refine w_aload_n (pc := 204) C dL_law_204 rfl ?_
  refine lw_ld (pc := 205) (v := 1) C E rfl dL_law_205 dL_law_206 dL_law_208 dL_law_209 dL_law_210 rfl rfl (inb_arg i0 iL L3 (by decide) (by decide)) ?_
  refine w_cV1_1 (pc := 211) (k' := 0) (n' := 0) (c := 9) C cl_L_26 lv_X9_sign (by decide) dL_law_211 (Nat.le_of_ble_eq_true rfl) rfl (by omega) (by omega) (St9_k J.1.1) ((cc_sign z J.1).mono (fun v h1 hp => ?_))
  obtain ⟨⟨y, rfl, ey⟩, S1, f1, c1, c2⟩ := hp
  obtain ⟨M1, o1⟩ := J.mid f1 (fun b q => Or.inl q)
  show Wj X _ _ Q 214 (LV b x m i) [.int y] h1
  refine w_aload_n (pc := 214) C dL_law_214 rfl ?_
  refine lw_ld (pc := 215) (v := 1) C E rfl dL_law_215 dL_law_216 dL_law_218 dL_law_219 dL_law_220 rfl rfl (inb_arg i0 iL L3 (by decide) (by decide)) ?_
  refine w_cV1_1 (pc := 221) (k' := 0) (n' := 0) (c := 10) C cl_L_29 lv_X10_sign (by decide) dL_law_221 (Nat.le_of_ble_eq_true rfl) rfl (by omega) (by omega) (St10_k M1.1.1) ((ma_sign M1).mono (fun v h2 hp => ?_))
  obtain ⟨y2, rfl, ey2, M2, f2⟩ := hp
  obtain ⟨J2, g1, g2⟩ := Jn.two S1 o1 M2 f2
  show Wj X _ _ Q 224 (LV b x m i) [.int y2, .int y] h2
  exact w_icmp_eq (pc := 224) (tgt := 1281) C dL_law_224 rfl ⟨fun _ => hk _ _ h2 _ J2 (by omega) (by omega), fun q => absurd (i32_eq.mpr (ey.trans ey2.symm)) q⟩
theorem lc_1 (C : CLw X nm) (E : SX X b L xs) (z : 0 < (dtX X).2.2.size) (i0 : 0 ≤ i.toInt) (iL : i.toInt + 6 ≤ L) (L3 : L ≤ 3072) (J : Jn h x m s) (bk : k + shC h x + 9 * (d + 1) ≤ mcX X) (bn : n + shM h x + 191 * (d + 1) ≤ msX X) (hk : LK X Q b x m i d) : Wj X k n Q 229 (LV b x m i) [] h := by
  refine w_aload_n (pc := 229) C dL_law_229 rfl ?_
  refine lw_ld (pc := 230) (v := 1) C E rfl dL_law_230 dL_law_231 dL_law_233 dL_law_234 dL_law_235 rfl rfl (inb_arg i0 iL L3 (by decide) (by decide)) ?_
  refine w_cV1_1 (pc := 236) (k' := 0) (n' := 0) (c := 9) C cl_L_30 lv_X9_end (by decide) dL_law_236 (Nat.le_of_ble_eq_true rfl) rfl (by omega) (by omega) (St9_k J.1.1) ((cc_end z J.1).mono (fun v h1 hp => ?_))
  obtain ⟨⟨y, rfl, ey⟩, S1, f1, c1, c2⟩ := hp
  obtain ⟨M1, o1⟩ := J.mid f1 (fun b q => Or.inl q)
  show Wj X _ _ Q 239 (LV b x m i) [.int y] h1
  refine w_aload_n (pc := 239) C dL_law_239 rfl ?_
  refine lw_ld (pc := 240) (v := 1) C E rfl dL_law_240 dL_law_241 dL_law_243 dL_law_244 dL_law_245 rfl rfl (inb_arg i0 iL L3 (by decide) (by decide)) ?_
  refine w_cV1_1 (pc := 246) (k' := 0) (n' := 0) (c := 10) C cl_L_34 lv_X10_end (by decide) dL_law_246 (Nat.le_of_ble_eq_true rfl) rfl (by omega) (by omega) (St10_k M1.1.1) ((ma_end M1).mono (fun v h2 hp => ?_))
  obtain ⟨y2, rfl, ey2, M2, f2⟩ := hp
  obtain ⟨J2, g1, g2⟩ := Jn.two S1 o1 M2 f2
  show Wj X _ _ Q 249 (LV b x m i) [.int y2, .int y] h2
  exact w_icmp_eq (pc := 249) (tgt := 1281) C dL_law_249 rfl ⟨fun _ => hk _ _ h2 _ J2 (by omega) (by omega), fun q => absurd (i32_eq.mpr (ey.trans ey2.symm)) q⟩
theorem lc_2 (C : CLw X nm) (E : SX X b L xs) (z : 0 < (dtX X).2.2.size) (i0 : 0 ≤ i.toInt) (iL : i.toInt + 6 ≤ L) (L3 : L ≤ 3072) (J : Jn h x m s) (bk : k + shC h x + 9 * (d + 1) ≤ mcX X) (bn : n + shM h x + 191 * (d + 1) ≤ msX X) (hk : LK X Q b x m i d) : Wj X k n Q 254 (LV b x m i) [] h := by
  refine w_aload_n (pc := 254) C dL_law_254 rfl ?_
  refine w_cV1_0 (pc := 255) (k' := 9) (n' := 191) (c := 9) C cl_L_35 lv_X9_plates (by decide) dL_law_255 (Nat.le_of_ble_eq_true rfl) rfl (by omega) (by omega) (St9_k J.1.1) ((cc_plates z J.1).mono (fun v h1 hp => ?_))
  obtain ⟨⟨y, rfl, ey⟩, S1, f1, c1, c2⟩ := hp
  obtain ⟨M1, o1⟩ := J.mid f1 (fun b q => Or.inl q)
  show Wj X _ _ Q 258 (LV b x m i) [.int y] h1
  refine w_aload_n (pc := 258) C dL_law_258 rfl ?_
  refine w_cV1_0 (pc := 259) (k' := 0) (n' := 0) (c := 10) C cl_L_39 lv_X10_plates (by decide) dL_law_259 (Nat.le_of_ble_eq_true rfl) rfl (by omega) (by omega) (St10_k M1.1.1) ((ma_plates M1).mono (fun v h2 hp => ?_))
  obtain ⟨y2, rfl, ey2, M2, f2⟩ := hp
  obtain ⟨J2, g1, g2⟩ := Jn.two S1 o1 M2 f2
  show Wj X _ _ Q 262 (LV b x m i) [.int y2, .int y] h2
  exact w_icmp_eq (pc := 262) (tgt := 1281) C dL_law_262 rfl ⟨fun _ => hk _ _ h2 _ J2 (by omega) (by omega), fun q => absurd (i32_eq.mpr (ey.trans ey2.symm)) q⟩
theorem lc_3 (C : CLw X nm) (E : SX X b L xs) (z : 0 < (dtX X).2.2.size) (i0 : 0 ≤ i.toInt) (iL : i.toInt + 6 ≤ L) (L3 : L ≤ 3072) (J : Jn h x m s) (bk : k + shC h x + 9 * (d + 1) ≤ mcX X) (bn : n + shM h x + 191 * (d + 1) ≤ msX X) (hk : LK X Q b x m i d) : Wj X k n Q 267 (LV b x m i) [] h := by
  refine w_aload_n (pc := 267) C dL_law_267 rfl ?_
  refine w_cV1_0 (pc := 268) (k' := 9) (n' := 191) (c := 9) C cl_L_40 lv_X9_gears (by decide) dL_law_268 (Nat.le_of_ble_eq_true rfl) rfl (by omega) (by omega) (St9_k J.1.1) ((cc_gears z J.1).mono (fun v h1 hp => ?_))
  obtain ⟨⟨y, rfl, ey⟩, S1, f1, c1, c2⟩ := hp
  obtain ⟨M1, o1⟩ := J.mid f1 (fun b q => Or.inl q)
  show Wj X _ _ Q 271 (LV b x m i) [.int y] h1
  refine w_aload_n (pc := 271) C dL_law_271 rfl ?_
  refine w_cV1_0 (pc := 272) (k' := 0) (n' := 0) (c := 10) C cl_L_43 lv_X10_gears (by decide) dL_law_272 (Nat.le_of_ble_eq_true rfl) rfl (by omega) (by omega) (St10_k M1.1.1) ((ma_gears M1).mono (fun v h2 hp => ?_))
  obtain ⟨y2, rfl, ey2, M2, f2⟩ := hp
  obtain ⟨J2, g1, g2⟩ := Jn.two S1 o1 M2 f2
  show Wj X _ _ Q 275 (LV b x m i) [.int y2, .int y] h2
  exact w_icmp_eq (pc := 275) (tgt := 1281) C dL_law_275 rfl ⟨fun _ => hk _ _ h2 _ J2 (by omega) (by omega), fun q => absurd (i32_eq.mpr (ey.trans ey2.symm)) q⟩
theorem lc_4 (C : CLw X nm) (E : SX X b L xs) (z : 0 < (dtX X).2.2.size) (i0 : 0 ≤ i.toInt) (iL : i.toInt + 6 ≤ L) (L3 : L ≤ 3072) (J : Jn h x m s) (bk : k + shC h x + 9 * (d + 1) ≤ mcX X) (bn : n + shM h x + 191 * (d + 1) ≤ msX X) (hk : LK X Q b x m i d) : Wj X k n Q 280 (LV b x m i) [] h := by
  refine w_aload_n (pc := 280) C dL_law_280 rfl ?_
  refine lw_ld (pc := 281) (v := 1) C E rfl dL_law_281 dL_law_282 dL_law_284 dL_law_285 dL_law_286 rfl rfl (inb_arg i0 iL L3 (by decide) (by decide)) ?_
  refine lw_ld (pc := 287) (v := 2) C E rfl dL_law_287 dL_law_288 dL_law_290 dL_law_291 dL_law_292 rfl rfl (inb_arg i0 iL L3 (by decide) (by decide)) ?_
  refine w_cV1_2 (pc := 293) (k' := 9) (n' := 191) (c := 9) C cl_L_44 lv_X9_sets (by decide) dL_law_293 (Nat.le_of_ble_eq_true rfl) rfl (by omega) (by omega) (St9_k J.1.1) ((cc_sets z J.1).mono (fun v h1 hp => ?_))
  obtain ⟨⟨y, rfl, ey⟩, S1, f1, c1, c2⟩ := hp
  obtain ⟨M1, o1⟩ := J.mid f1 (fun b q => Or.inl q)
  show Wj X _ _ Q 296 (LV b x m i) [.int y] h1
  refine w_aload_n (pc := 296) C dL_law_296 rfl ?_
  refine lw_ld (pc := 297) (v := 1) C E rfl dL_law_297 dL_law_298 dL_law_300 dL_law_301 dL_law_302 rfl rfl (inb_arg i0 iL L3 (by decide) (by decide)) ?_
  refine lw_ld (pc := 303) (v := 2) C E rfl dL_law_303 dL_law_304 dL_law_306 dL_law_307 dL_law_308 rfl rfl (inb_arg i0 iL L3 (by decide) (by decide)) ?_
  refine w_cV1_2 (pc := 309) (k' := 0) (n' := 0) (c := 10) C cl_L_48 lv_X10_sets (by decide) dL_law_309 (Nat.le_of_ble_eq_true rfl) rfl (by omega) (by omega) (St10_k M1.1.1) ((ma_sets M1).mono (fun v h2 hp => ?_))
  obtain ⟨y2, rfl, ey2, M2, f2⟩ := hp
  obtain ⟨J2, g1, g2⟩ := Jn.two S1 o1 M2 f2
  show Wj X _ _ Q 312 (LV b x m i) [.int y2, .int y] h2
  exact w_icmp_eq (pc := 312) (tgt := 1281) C dL_law_312 rfl ⟨fun _ => hk _ _ h2 _ J2 (by omega) (by omega), fun q => absurd (i32_eq.mpr (ey.trans ey2.symm)) q⟩
theorem lc_7 (C : CLw X nm) (E : SX X b L xs) (z : 0 < (dtX X).2.2.size) (i0 : 0 ≤ i.toInt) (iL : i.toInt + 6 ≤ L) (L3 : L ≤ 3072) (J : Jn h x m s) (bk : k + shC h x + 9 * (d + 1) ≤ mcX X) (bn : n + shM h x + 191 * (d + 1) ≤ msX X) (hk : LK X Q b x m i d) : Wj X k n Q 429 (LV b x m i) [] h := by
  refine w_aload_n (pc := 429) C dL_law_429 rfl ?_
  refine lw_ld (pc := 430) (v := 1) C E rfl dL_law_430 dL_law_431 dL_law_433 dL_law_434 dL_law_435 rfl rfl (inb_arg i0 iL L3 (by decide) (by decide)) ?_
  refine w_cV1_1 (pc := 436) (k' := 0) (n' := 0) (c := 9) C cl_L_61 lv_X9_simple (by decide) dL_law_436 (Nat.le_of_ble_eq_true rfl) rfl (by omega) (by omega) (St9_k J.1.1) ((cc_simple z J.1).mono (fun v h1 hp => ?_))
  obtain ⟨⟨y, rfl, ey⟩, S1, f1, c1, c2⟩ := hp
  obtain ⟨M1, o1⟩ := J.mid f1 (fun b q => Or.inl q)
  show Wj X _ _ Q 439 (LV b x m i) [.int y] h1
  refine w_aload_n (pc := 439) C dL_law_439 rfl ?_
  refine lw_ld (pc := 440) (v := 1) C E rfl dL_law_440 dL_law_441 dL_law_443 dL_law_444 dL_law_445 rfl rfl (inb_arg i0 iL L3 (by decide) (by decide)) ?_
  refine w_cV1_1 (pc := 446) (k' := 0) (n' := 0) (c := 10) C cl_L_64 lv_X10_simple (by decide) dL_law_446 (Nat.le_of_ble_eq_true rfl) rfl (by omega) (by omega) (St10_k M1.1.1) ((ma_simple M1).mono (fun v h2 hp => ?_))
  obtain ⟨y2, rfl, ey2, M2, f2⟩ := hp
  obtain ⟨J2, g1, g2⟩ := Jn.two S1 o1 M2 f2
  show Wj X _ _ Q 449 (LV b x m i) [.int y2, .int y] h2
  exact w_icmp_eq (pc := 449) (tgt := 1281) C dL_law_449 rfl ⟨fun _ => hk _ _ h2 _ J2 (by omega) (by omega), fun q => absurd (i32_eq.mpr (ey.trans ey2.symm)) q⟩
theorem lc_8 (C : CLw X nm) (E : SX X b L xs) (z : 0 < (dtX X).2.2.size) (i0 : 0 ≤ i.toInt) (iL : i.toInt + 6 ≤ L) (L3 : L ≤ 3072) (J : Jn h x m s) (bk : k + shC h x + 9 * (d + 1) ≤ mcX X) (bn : n + shM h x + 191 * (d + 1) ≤ msX X) (hk : LK X Q b x m i d) : Wj X k n Q 454 (LV b x m i) [] h := by
  refine w_aload_n (pc := 454) C dL_law_454 rfl ?_
  refine lw_ld (pc := 455) (v := 1) C E rfl dL_law_455 dL_law_456 dL_law_458 dL_law_459 dL_law_460 rfl rfl (inb_arg i0 iL L3 (by decide) (by decide)) ?_
  refine w_cV1_1 (pc := 461) (k' := 0) (n' := 0) (c := 9) C cl_L_65 lv_X9_compound (by decide) dL_law_461 (Nat.le_of_ble_eq_true rfl) rfl (by omega) (by omega) (St9_k J.1.1) ((cc_compound z J.1).mono (fun v h1 hp => ?_))
  obtain ⟨⟨y, rfl, ey⟩, S1, f1, c1, c2⟩ := hp
  obtain ⟨M1, o1⟩ := J.mid f1 (fun b q => Or.inl q)
  show Wj X _ _ Q 464 (LV b x m i) [.int y] h1
  refine w_aload_n (pc := 464) C dL_law_464 rfl ?_
  refine lw_ld (pc := 465) (v := 1) C E rfl dL_law_465 dL_law_466 dL_law_468 dL_law_469 dL_law_470 rfl rfl (inb_arg i0 iL L3 (by decide) (by decide)) ?_
  refine w_cV1_1 (pc := 471) (k' := 0) (n' := 0) (c := 10) C cl_L_68 lv_X10_compound (by decide) dL_law_471 (Nat.le_of_ble_eq_true rfl) rfl (by omega) (by omega) (St10_k M1.1.1) ((ma_compound M1).mono (fun v h2 hp => ?_))
  obtain ⟨y2, rfl, ey2, M2, f2⟩ := hp
  obtain ⟨J2, g1, g2⟩ := Jn.two S1 o1 M2 f2
  show Wj X _ _ Q 474 (LV b x m i) [.int y2, .int y] h2
  exact w_icmp_eq (pc := 474) (tgt := 1281) C dL_law_474 rfl ⟨fun _ => hk _ _ h2 _ J2 (by omega) (by omega), fun q => absurd (i32_eq.mpr (ey.trans ey2.symm)) q⟩
end Lc
