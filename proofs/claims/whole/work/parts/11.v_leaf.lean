-- leaves (by program: gen_parts.py)
theorem dJ6_bitCount_0f7a4_0 : decode cJ6_bitCount_0f7a4 0 = .ok (.iload_n 0, 1) := by decide +kernel
theorem dJ6_bitCount_0f7a4_1 : decode cJ6_bitCount_0f7a4 1 = .ok (.iload_n 0, 1) := by decide +kernel
theorem dJ6_bitCount_0f7a4_2 : decode cJ6_bitCount_0f7a4 2 = .ok (.iconst 1, 1) := by decide +kernel
theorem dJ6_bitCount_0f7a4_3 : decode cJ6_bitCount_0f7a4 3 = .ok (.iushr, 1) := by decide +kernel
theorem dJ6_bitCount_0f7a4_4 : decode cJ6_bitCount_0f7a4 4 = .ok (.ldc_w 265, 3) := by decide +kernel
theorem dJ6_bitCount_0f7a4_7 : decode cJ6_bitCount_0f7a4 7 = .ok (.iand, 1) := by decide +kernel
theorem dJ6_bitCount_0f7a4_8 : decode cJ6_bitCount_0f7a4 8 = .ok (.isub, 1) := by decide +kernel
theorem dJ6_bitCount_0f7a4_9 : decode cJ6_bitCount_0f7a4 9 = .ok (.istore_n 0, 1) := by decide +kernel
theorem dJ6_bitCount_0f7a4_10 : decode cJ6_bitCount_0f7a4 10 = .ok (.iload_n 0, 1) := by decide +kernel
theorem dJ6_bitCount_0f7a4_11 : decode cJ6_bitCount_0f7a4 11 = .ok (.ldc_w 266, 3) := by decide +kernel
theorem dJ6_bitCount_0f7a4_14 : decode cJ6_bitCount_0f7a4 14 = .ok (.iand, 1) := by decide +kernel
theorem dJ6_bitCount_0f7a4_15 : decode cJ6_bitCount_0f7a4 15 = .ok (.iload_n 0, 1) := by decide +kernel
theorem dJ6_bitCount_0f7a4_16 : decode cJ6_bitCount_0f7a4 16 = .ok (.iconst 2, 1) := by decide +kernel
theorem dJ6_bitCount_0f7a4_17 : decode cJ6_bitCount_0f7a4 17 = .ok (.iushr, 1) := by decide +kernel
theorem dJ6_bitCount_0f7a4_18 : decode cJ6_bitCount_0f7a4 18 = .ok (.ldc_w 266, 3) := by decide +kernel
theorem dJ6_bitCount_0f7a4_21 : decode cJ6_bitCount_0f7a4 21 = .ok (.iand, 1) := by decide +kernel
theorem dJ6_bitCount_0f7a4_22 : decode cJ6_bitCount_0f7a4 22 = .ok (.iadd, 1) := by decide +kernel
theorem dJ6_bitCount_0f7a4_23 : decode cJ6_bitCount_0f7a4 23 = .ok (.istore_n 0, 1) := by decide +kernel
theorem dJ6_bitCount_0f7a4_24 : decode cJ6_bitCount_0f7a4 24 = .ok (.iload_n 0, 1) := by decide +kernel
theorem dJ6_bitCount_0f7a4_25 : decode cJ6_bitCount_0f7a4 25 = .ok (.iload_n 0, 1) := by decide +kernel
theorem dJ6_bitCount_0f7a4_26 : decode cJ6_bitCount_0f7a4 26 = .ok (.iconst 4, 1) := by decide +kernel
theorem dJ6_bitCount_0f7a4_27 : decode cJ6_bitCount_0f7a4 27 = .ok (.iushr, 1) := by decide +kernel
theorem dJ6_bitCount_0f7a4_28 : decode cJ6_bitCount_0f7a4 28 = .ok (.iadd, 1) := by decide +kernel
theorem dJ6_bitCount_0f7a4_29 : decode cJ6_bitCount_0f7a4 29 = .ok (.ldc_w 267, 3) := by decide +kernel
theorem dJ6_bitCount_0f7a4_32 : decode cJ6_bitCount_0f7a4 32 = .ok (.iand, 1) := by decide +kernel
theorem dJ6_bitCount_0f7a4_33 : decode cJ6_bitCount_0f7a4 33 = .ok (.istore_n 0, 1) := by decide +kernel
theorem dJ6_bitCount_0f7a4_34 : decode cJ6_bitCount_0f7a4 34 = .ok (.iload_n 0, 1) := by decide +kernel
theorem dJ6_bitCount_0f7a4_35 : decode cJ6_bitCount_0f7a4 35 = .ok (.iload_n 0, 1) := by decide +kernel
theorem dJ6_bitCount_0f7a4_36 : decode cJ6_bitCount_0f7a4 36 = .ok (.bipush 8, 2) := by decide +kernel
theorem dJ6_bitCount_0f7a4_38 : decode cJ6_bitCount_0f7a4 38 = .ok (.iushr, 1) := by decide +kernel
theorem dJ6_bitCount_0f7a4_39 : decode cJ6_bitCount_0f7a4 39 = .ok (.iadd, 1) := by decide +kernel
theorem dJ6_bitCount_0f7a4_40 : decode cJ6_bitCount_0f7a4 40 = .ok (.istore_n 0, 1) := by decide +kernel
theorem dJ6_bitCount_0f7a4_41 : decode cJ6_bitCount_0f7a4 41 = .ok (.iload_n 0, 1) := by decide +kernel
theorem dJ6_bitCount_0f7a4_42 : decode cJ6_bitCount_0f7a4 42 = .ok (.iload_n 0, 1) := by decide +kernel
theorem dJ6_bitCount_0f7a4_43 : decode cJ6_bitCount_0f7a4 43 = .ok (.bipush 16, 2) := by decide +kernel
theorem dJ6_bitCount_0f7a4_45 : decode cJ6_bitCount_0f7a4 45 = .ok (.iushr, 1) := by decide +kernel
theorem dJ6_bitCount_0f7a4_46 : decode cJ6_bitCount_0f7a4 46 = .ok (.iadd, 1) := by decide +kernel
theorem dJ6_bitCount_0f7a4_47 : decode cJ6_bitCount_0f7a4 47 = .ok (.istore_n 0, 1) := by decide +kernel
theorem dJ6_bitCount_0f7a4_48 : decode cJ6_bitCount_0f7a4 48 = .ok (.iload_n 0, 1) := by decide +kernel
theorem dJ6_bitCount_0f7a4_49 : decode cJ6_bitCount_0f7a4 49 = .ok (.bipush 63, 2) := by decide +kernel
theorem dJ6_bitCount_0f7a4_51 : decode cJ6_bitCount_0f7a4 51 = .ok (.iand, 1) := by decide +kernel
theorem dJ6_bitCount_0f7a4_52 : decode cJ6_bitCount_0f7a4 52 = .ok (.ireturn, 1) := by decide +kernel
set_option maxRecDepth 20000 in
set_option maxHeartbeats 2000000 in
theorem V_J6_bitCount_0f7a4_0 {X : Ctx} (C : C_J6_bitCount_0f7a4 X) {k n : Nat} {Q : Pq} {h : Hp} {v0 : Int32}
    (hv : Q (some (.int ((((((((v0 - ((iushr v0 1) &&& 1431655765)) &&& 858993459) + ((iushr (v0 - ((iushr v0 1) &&& 1431655765)) 2) &&& 858993459)) + (iushr (((v0 - ((iushr v0 1) &&& 1431655765)) &&& 858993459) + ((iushr (v0 - ((iushr v0 1) &&& 1431655765)) 2) &&& 858993459)) 4)) &&& 252645135) + (iushr (((((v0 - ((iushr v0 1) &&& 1431655765)) &&& 858993459) + ((iushr (v0 - ((iushr v0 1) &&& 1431655765)) 2) &&& 858993459)) + (iushr (((v0 - ((iushr v0 1) &&& 1431655765)) &&& 858993459) + ((iushr (v0 - ((iushr v0 1) &&& 1431655765)) 2) &&& 858993459)) 4)) &&& 252645135) 8)) + (iushr ((((((v0 - ((iushr v0 1) &&& 1431655765)) &&& 858993459) + ((iushr (v0 - ((iushr v0 1) &&& 1431655765)) 2) &&& 858993459)) + (iushr (((v0 - ((iushr v0 1) &&& 1431655765)) &&& 858993459) + ((iushr (v0 - ((iushr v0 1) &&& 1431655765)) 2) &&& 858993459)) 4)) &&& 252645135) + (iushr (((((v0 - ((iushr v0 1) &&& 1431655765)) &&& 858993459) + ((iushr (v0 - ((iushr v0 1) &&& 1431655765)) 2) &&& 858993459)) + (iushr (((v0 - ((iushr v0 1) &&& 1431655765)) &&& 858993459) + ((iushr (v0 - ((iushr v0 1) &&& 1431655765)) 2) &&& 858993459)) 4)) &&& 252645135) 8)) 16)) &&& 63))) h) :
    Wj X k n Q 0 [(0, .int v0)] [] h := by
  refine w_iload_n (pc := 0) C dJ6_bitCount_0f7a4_0 rfl ?_
  refine w_iload_n (pc := 1) C dJ6_bitCount_0f7a4_1 rfl ?_
  refine w_iconst (pc := 2) C (v := 1) dJ6_bitCount_0f7a4_2 (by decide) ?_
  refine w_iushr (pc := 3) C dJ6_bitCount_0f7a4_3 ?_
  refine w_ldcw (pc := 4) C ct_J6_265 dJ6_bitCount_0f7a4_4 ?_
  refine w_iand (pc := 7) C dJ6_bitCount_0f7a4_7 ?_
  refine w_isub (pc := 8) C dJ6_bitCount_0f7a4_8 ?_
  refine w_istore_n (pc := 9) C dJ6_bitCount_0f7a4_9 (by decide) ?_
  refine w_iload_n (pc := 10) C dJ6_bitCount_0f7a4_10 rfl ?_
  refine w_ldcw (pc := 11) C ct_J6_266 dJ6_bitCount_0f7a4_11 ?_
  refine w_iand (pc := 14) C dJ6_bitCount_0f7a4_14 ?_
  refine w_iload_n (pc := 15) C dJ6_bitCount_0f7a4_15 rfl ?_
  refine w_iconst (pc := 16) C (v := 2) dJ6_bitCount_0f7a4_16 (by decide) ?_
  refine w_iushr (pc := 17) C dJ6_bitCount_0f7a4_17 ?_
  refine w_ldcw (pc := 18) C ct_J6_266 dJ6_bitCount_0f7a4_18 ?_
  refine w_iand (pc := 21) C dJ6_bitCount_0f7a4_21 ?_
  refine w_iadd (pc := 22) C dJ6_bitCount_0f7a4_22 ?_
  refine w_istore_n (pc := 23) C dJ6_bitCount_0f7a4_23 (by decide) ?_
  refine w_iload_n (pc := 24) C dJ6_bitCount_0f7a4_24 rfl ?_
  refine w_iload_n (pc := 25) C dJ6_bitCount_0f7a4_25 rfl ?_
  refine w_iconst (pc := 26) C (v := 4) dJ6_bitCount_0f7a4_26 (by decide) ?_
  refine w_iushr (pc := 27) C dJ6_bitCount_0f7a4_27 ?_
  refine w_iadd (pc := 28) C dJ6_bitCount_0f7a4_28 ?_
  refine w_ldcw (pc := 29) C ct_J6_267 dJ6_bitCount_0f7a4_29 ?_
  refine w_iand (pc := 32) C dJ6_bitCount_0f7a4_32 ?_
  refine w_istore_n (pc := 33) C dJ6_bitCount_0f7a4_33 (by decide) ?_
  refine w_iload_n (pc := 34) C dJ6_bitCount_0f7a4_34 rfl ?_
  refine w_iload_n (pc := 35) C dJ6_bitCount_0f7a4_35 rfl ?_
  refine w_bipush (pc := 36) C (v := 8) dJ6_bitCount_0f7a4_36 (by decide) ?_
  refine w_iushr (pc := 38) C dJ6_bitCount_0f7a4_38 ?_
  refine w_iadd (pc := 39) C dJ6_bitCount_0f7a4_39 ?_
  refine w_istore_n (pc := 40) C dJ6_bitCount_0f7a4_40 (by decide) ?_
  refine w_iload_n (pc := 41) C dJ6_bitCount_0f7a4_41 rfl ?_
  refine w_iload_n (pc := 42) C dJ6_bitCount_0f7a4_42 rfl ?_
  refine w_bipush (pc := 43) C (v := 16) dJ6_bitCount_0f7a4_43 (by decide) ?_
  refine w_iushr (pc := 45) C dJ6_bitCount_0f7a4_45 ?_
  refine w_iadd (pc := 46) C dJ6_bitCount_0f7a4_46 ?_
  refine w_istore_n (pc := 47) C dJ6_bitCount_0f7a4_47 (by decide) ?_
  refine w_iload_n (pc := 48) C dJ6_bitCount_0f7a4_48 rfl ?_
  refine w_bipush (pc := 49) C (v := 63) dJ6_bitCount_0f7a4_49 (by decide) ?_
  refine w_iand (pc := 51) C dJ6_bitCount_0f7a4_51 ?_
  exact w_iret (pc := 52) C dJ6_bitCount_0f7a4_52 hv
theorem dJ13_compare_74951_0 : decode cJ13_compare_74951 0 = .ok (.lload_n 0, 1) := by decide +kernel
theorem dJ13_compare_74951_1 : decode cJ13_compare_74951 1 = .ok (.lload_n 2, 1) := by decide +kernel
theorem dJ13_compare_74951_2 : decode cJ13_compare_74951 2 = .ok (.lcmp, 1) := by decide +kernel
theorem dJ13_compare_74951_3 : decode cJ13_compare_74951 3 = .ok (.ifCond .ge 7, 3) := by decide +kernel
theorem dJ13_compare_74951_6 : decode cJ13_compare_74951 6 = .ok (.iconst (-1), 1) := by decide +kernel
theorem dJ13_compare_74951_7 : decode cJ13_compare_74951 7 = .ok (.goto 14, 3) := by decide +kernel
theorem dJ13_compare_74951_10 : decode cJ13_compare_74951 10 = .ok (.lload_n 0, 1) := by decide +kernel
theorem dJ13_compare_74951_11 : decode cJ13_compare_74951 11 = .ok (.lload_n 2, 1) := by decide +kernel
theorem dJ13_compare_74951_12 : decode cJ13_compare_74951 12 = .ok (.lcmp, 1) := by decide +kernel
theorem dJ13_compare_74951_13 : decode cJ13_compare_74951 13 = .ok (.ifCond .ne 7, 3) := by decide +kernel
theorem dJ13_compare_74951_16 : decode cJ13_compare_74951 16 = .ok (.iconst 0, 1) := by decide +kernel
theorem dJ13_compare_74951_17 : decode cJ13_compare_74951 17 = .ok (.goto 4, 3) := by decide +kernel
theorem dJ13_compare_74951_20 : decode cJ13_compare_74951 20 = .ok (.iconst 1, 1) := by decide +kernel
theorem dJ13_compare_74951_21 : decode cJ13_compare_74951 21 = .ok (.ireturn, 1) := by decide +kernel
set_option maxRecDepth 20000 in
set_option maxHeartbeats 2000000 in
theorem V_J13_compare_74951_0 {X : Ctx} (C : C_J13_compare_74951 X) {k n : Nat} {Q : Pq} {h : Hp} {v0 v2 : Int64}
    (hv : ((v2 ≤ v0 → ((¬ v0 = v2 → Q (some (.int 1)) h) ∧
    (v0 = v2 → Q (some (.int 0)) h))) ∧
    (¬ v2 ≤ v0 → Q (some (.int (-1))) h))) :
    Wj X k n Q 0 [(0, .long v0), (2, .long v2)] [] h := by
  refine w_lload_n (pc := 0) C dJ13_compare_74951_0 rfl ?_
  refine w_lload_n (pc := 1) C dJ13_compare_74951_1 rfl ?_
  refine w_lcmp_ge (pc := 2) C (tgt := 10) dJ13_compare_74951_2 dJ13_compare_74951_3 (by decide) ?_
  obtain ⟨hv1, hv2⟩ := hv
  refine ⟨fun c2 => ?_, fun c2 => ?_⟩
  · have hv := hv1 c2
    refine w_lload_n (pc := 10) C dJ13_compare_74951_10 rfl ?_
    refine w_lload_n (pc := 11) C dJ13_compare_74951_11 rfl ?_
    refine w_lcmp_ne (pc := 12) C (tgt := 20) dJ13_compare_74951_12 dJ13_compare_74951_13 (by decide) ?_
    obtain ⟨hv1, hv2⟩ := hv
    refine ⟨fun c1 => ?_, fun c1 => ?_⟩
    · have hv := hv1 c1
      refine w_iconst (pc := 20) C (v := 1) dJ13_compare_74951_20 (by decide) ?_
      exact w_iret (pc := 21) C dJ13_compare_74951_21 hv
    · have hv := hv2 c1
      refine w_iconst (pc := 16) C (v := 0) dJ13_compare_74951_16 (by decide) ?_
      refine w_goto (pc := 17) C (tgt := 21) dJ13_compare_74951_17 (by decide) ?_
      exact w_iret (pc := 21) C dJ13_compare_74951_21 hv
  · have hv := hv2 c2
    refine w_iconst (pc := 6) C (v := (-1)) dJ13_compare_74951_6 (by decide) ?_
    refine w_goto (pc := 7) C (tgt := 21) dJ13_compare_74951_7 (by decide) ?_
    exact w_iret (pc := 21) C dJ13_compare_74951_21 hv
theorem dJ9_floorDiv_7cf53_0 : decode cJ9_floorDiv_7cf53 0 = .ok (.iload_n 0, 1) := by decide +kernel
theorem dJ9_floorDiv_7cf53_1 : decode cJ9_floorDiv_7cf53 1 = .ok (.iload_n 1, 1) := by decide +kernel
theorem dJ9_floorDiv_7cf53_2 : decode cJ9_floorDiv_7cf53 2 = .ok (.idiv, 1) := by decide +kernel
theorem dJ9_floorDiv_7cf53_3 : decode cJ9_floorDiv_7cf53 3 = .ok (.istore_n 2, 1) := by decide +kernel
theorem dJ9_floorDiv_7cf53_4 : decode cJ9_floorDiv_7cf53 4 = .ok (.iload_n 0, 1) := by decide +kernel
theorem dJ9_floorDiv_7cf53_5 : decode cJ9_floorDiv_7cf53 5 = .ok (.iload_n 1, 1) := by decide +kernel
theorem dJ9_floorDiv_7cf53_6 : decode cJ9_floorDiv_7cf53 6 = .ok (.ixor, 1) := by decide +kernel
theorem dJ9_floorDiv_7cf53_7 : decode cJ9_floorDiv_7cf53 7 = .ok (.ifCond .ge 14, 3) := by decide +kernel
theorem dJ9_floorDiv_7cf53_10 : decode cJ9_floorDiv_7cf53 10 = .ok (.iload_n 2, 1) := by decide +kernel
theorem dJ9_floorDiv_7cf53_11 : decode cJ9_floorDiv_7cf53 11 = .ok (.iload_n 1, 1) := by decide +kernel
theorem dJ9_floorDiv_7cf53_12 : decode cJ9_floorDiv_7cf53 12 = .ok (.imul, 1) := by decide +kernel
theorem dJ9_floorDiv_7cf53_13 : decode cJ9_floorDiv_7cf53 13 = .ok (.iload_n 0, 1) := by decide +kernel
theorem dJ9_floorDiv_7cf53_14 : decode cJ9_floorDiv_7cf53 14 = .ok (.if_icmp .eq 7, 3) := by decide +kernel
theorem dJ9_floorDiv_7cf53_17 : decode cJ9_floorDiv_7cf53 17 = .ok (.iload_n 2, 1) := by decide +kernel
theorem dJ9_floorDiv_7cf53_18 : decode cJ9_floorDiv_7cf53 18 = .ok (.iconst 1, 1) := by decide +kernel
theorem dJ9_floorDiv_7cf53_19 : decode cJ9_floorDiv_7cf53 19 = .ok (.isub, 1) := by decide +kernel
theorem dJ9_floorDiv_7cf53_20 : decode cJ9_floorDiv_7cf53 20 = .ok (.ireturn, 1) := by decide +kernel
theorem dJ9_floorDiv_7cf53_21 : decode cJ9_floorDiv_7cf53 21 = .ok (.iload_n 2, 1) := by decide +kernel
theorem dJ9_floorDiv_7cf53_22 : decode cJ9_floorDiv_7cf53 22 = .ok (.ireturn, 1) := by decide +kernel
set_option maxRecDepth 20000 in
set_option maxHeartbeats 2000000 in
theorem V_J9_floorDiv_7cf53_0 {X : Ctx} (C : C_J9_floorDiv_7cf53 X) {k n : Nat} {Q : Pq} {h : Hp} {v0 v1 : Int32}
    (hv : ¬ v1 = 0 ∧ ((0 ≤ (v0 ^^^ v1) → Q (some (.int (v0 / v1))) h) ∧
    (¬ 0 ≤ (v0 ^^^ v1) → ((((v0 / v1) * v1) = v0 → Q (some (.int (v0 / v1))) h) ∧
    (¬ ((v0 / v1) * v1) = v0 → Q (some (.int ((v0 / v1) - 1))) h))))) :
    Wj X k n Q 0 [(0, .int v0), (1, .int v1)] [] h := by
  refine w_iload_n (pc := 0) C dJ9_floorDiv_7cf53_0 rfl ?_
  refine w_iload_n (pc := 1) C dJ9_floorDiv_7cf53_1 rfl ?_
  obtain ⟨f1, hv⟩ := hv
  refine w_idiv (pc := 2) C dJ9_floorDiv_7cf53_2 f1 ?_
  refine w_istore_n (pc := 3) C dJ9_floorDiv_7cf53_3 (by decide) ?_
  refine w_iload_n (pc := 4) C dJ9_floorDiv_7cf53_4 rfl ?_
  refine w_iload_n (pc := 5) C dJ9_floorDiv_7cf53_5 rfl ?_
  refine w_ixor (pc := 6) C dJ9_floorDiv_7cf53_6 ?_
  refine w_if_ge (pc := 7) C (tgt := 21) dJ9_floorDiv_7cf53_7 (by decide) ?_
  obtain ⟨hv1, hv2⟩ := hv
  refine ⟨fun c3 => ?_, fun c3 => ?_⟩
  · have hv := hv1 c3
    refine w_iload_n (pc := 21) C dJ9_floorDiv_7cf53_21 rfl ?_
    exact w_iret (pc := 22) C dJ9_floorDiv_7cf53_22 hv
  · have hv := hv2 c3
    refine w_iload_n (pc := 10) C dJ9_floorDiv_7cf53_10 rfl ?_
    refine w_iload_n (pc := 11) C dJ9_floorDiv_7cf53_11 rfl ?_
    refine w_imul (pc := 12) C dJ9_floorDiv_7cf53_12 ?_
    refine w_iload_n (pc := 13) C dJ9_floorDiv_7cf53_13 rfl ?_
    refine w_icmp_eq (pc := 14) C (tgt := 21) dJ9_floorDiv_7cf53_14 (by decide) ?_
    obtain ⟨hv1, hv2⟩ := hv
    refine ⟨fun c2 => ?_, fun c2 => ?_⟩
    · have hv := hv1 c2
      refine w_iload_n (pc := 21) C dJ9_floorDiv_7cf53_21 rfl ?_
      exact w_iret (pc := 22) C dJ9_floorDiv_7cf53_22 hv
    · have hv := hv2 c2
      refine w_iload_n (pc := 17) C dJ9_floorDiv_7cf53_17 rfl ?_
      refine w_iconst (pc := 18) C (v := 1) dJ9_floorDiv_7cf53_18 (by decide) ?_
      refine w_isub (pc := 19) C dJ9_floorDiv_7cf53_19 ?_
      exact w_iret (pc := 20) C dJ9_floorDiv_7cf53_20 hv
theorem dJ9_floorMod_7cf53_0 : decode cJ9_floorMod_7cf53 0 = .ok (.iload_n 0, 1) := by decide +kernel
theorem dJ9_floorMod_7cf53_1 : decode cJ9_floorMod_7cf53 1 = .ok (.iload_n 1, 1) := by decide +kernel
theorem dJ9_floorMod_7cf53_2 : decode cJ9_floorMod_7cf53 2 = .ok (.irem, 1) := by decide +kernel
theorem dJ9_floorMod_7cf53_3 : decode cJ9_floorMod_7cf53 3 = .ok (.istore_n 2, 1) := by decide +kernel
theorem dJ9_floorMod_7cf53_4 : decode cJ9_floorMod_7cf53 4 = .ok (.iload_n 0, 1) := by decide +kernel
theorem dJ9_floorMod_7cf53_5 : decode cJ9_floorMod_7cf53 5 = .ok (.iload_n 1, 1) := by decide +kernel
theorem dJ9_floorMod_7cf53_6 : decode cJ9_floorMod_7cf53 6 = .ok (.ixor, 1) := by decide +kernel
theorem dJ9_floorMod_7cf53_7 : decode cJ9_floorMod_7cf53 7 = .ok (.ifCond .ge 11, 3) := by decide +kernel
theorem dJ9_floorMod_7cf53_10 : decode cJ9_floorMod_7cf53 10 = .ok (.iload_n 2, 1) := by decide +kernel
theorem dJ9_floorMod_7cf53_11 : decode cJ9_floorMod_7cf53 11 = .ok (.ifCond .eq 7, 3) := by decide +kernel
theorem dJ9_floorMod_7cf53_14 : decode cJ9_floorMod_7cf53 14 = .ok (.iload_n 2, 1) := by decide +kernel
theorem dJ9_floorMod_7cf53_15 : decode cJ9_floorMod_7cf53 15 = .ok (.iload_n 1, 1) := by decide +kernel
theorem dJ9_floorMod_7cf53_16 : decode cJ9_floorMod_7cf53 16 = .ok (.iadd, 1) := by decide +kernel
theorem dJ9_floorMod_7cf53_17 : decode cJ9_floorMod_7cf53 17 = .ok (.ireturn, 1) := by decide +kernel
theorem dJ9_floorMod_7cf53_18 : decode cJ9_floorMod_7cf53 18 = .ok (.iload_n 2, 1) := by decide +kernel
theorem dJ9_floorMod_7cf53_19 : decode cJ9_floorMod_7cf53 19 = .ok (.ireturn, 1) := by decide +kernel
set_option maxRecDepth 20000 in
set_option maxHeartbeats 2000000 in
theorem V_J9_floorMod_7cf53_0 {X : Ctx} (C : C_J9_floorMod_7cf53 X) {k n : Nat} {Q : Pq} {h : Hp} {v0 v1 : Int32}
    (hv : ¬ v1 = 0 ∧ ((0 ≤ (v0 ^^^ v1) → Q (some (.int (v0 % v1))) h) ∧
    (¬ 0 ≤ (v0 ^^^ v1) → (((v0 % v1) = 0 → Q (some (.int (v0 % v1))) h) ∧
    (¬ (v0 % v1) = 0 → Q (some (.int ((v0 % v1) + v1))) h))))) :
    Wj X k n Q 0 [(0, .int v0), (1, .int v1)] [] h := by
  refine w_iload_n (pc := 0) C dJ9_floorMod_7cf53_0 rfl ?_
  refine w_iload_n (pc := 1) C dJ9_floorMod_7cf53_1 rfl ?_
  obtain ⟨f1, hv⟩ := hv
  refine w_irem (pc := 2) C dJ9_floorMod_7cf53_2 f1 ?_
  refine w_istore_n (pc := 3) C dJ9_floorMod_7cf53_3 (by decide) ?_
  refine w_iload_n (pc := 4) C dJ9_floorMod_7cf53_4 rfl ?_
  refine w_iload_n (pc := 5) C dJ9_floorMod_7cf53_5 rfl ?_
  refine w_ixor (pc := 6) C dJ9_floorMod_7cf53_6 ?_
  refine w_if_ge (pc := 7) C (tgt := 18) dJ9_floorMod_7cf53_7 (by decide) ?_
  obtain ⟨hv1, hv2⟩ := hv
  refine ⟨fun c3 => ?_, fun c3 => ?_⟩
  · have hv := hv1 c3
    refine w_iload_n (pc := 18) C dJ9_floorMod_7cf53_18 rfl ?_
    exact w_iret (pc := 19) C dJ9_floorMod_7cf53_19 hv
  · have hv := hv2 c3
    refine w_iload_n (pc := 10) C dJ9_floorMod_7cf53_10 rfl ?_
    refine w_if_eq (pc := 11) C (tgt := 18) dJ9_floorMod_7cf53_11 (by decide) ?_
    obtain ⟨hv1, hv2⟩ := hv
    refine ⟨fun c2 => ?_, fun c2 => ?_⟩
    · have hv := hv1 c2
      refine w_iload_n (pc := 18) C dJ9_floorMod_7cf53_18 rfl ?_
      exact w_iret (pc := 19) C dJ9_floorMod_7cf53_19 hv
    · have hv := hv2 c2
      refine w_iload_n (pc := 14) C dJ9_floorMod_7cf53_14 rfl ?_
      refine w_iload_n (pc := 15) C dJ9_floorMod_7cf53_15 rfl ?_
      refine w_iadd (pc := 16) C dJ9_floorMod_7cf53_16 ?_
      exact w_iret (pc := 17) C dJ9_floorMod_7cf53_17 hv
theorem dJ9_floorMod_f86c9_0 : decode cJ9_floorMod_f86c9 0 = .ok (.lload_n 0, 1) := by decide +kernel
theorem dJ9_floorMod_f86c9_1 : decode cJ9_floorMod_f86c9 1 = .ok (.lload_n 2, 1) := by decide +kernel
theorem dJ9_floorMod_f86c9_2 : decode cJ9_floorMod_f86c9 2 = .ok (.lrem, 1) := by decide +kernel
theorem dJ9_floorMod_f86c9_3 : decode cJ9_floorMod_f86c9 3 = .ok (.lstore 4, 2) := by decide +kernel
theorem dJ9_floorMod_f86c9_5 : decode cJ9_floorMod_f86c9 5 = .ok (.lload_n 0, 1) := by decide +kernel
theorem dJ9_floorMod_f86c9_6 : decode cJ9_floorMod_f86c9 6 = .ok (.lload_n 2, 1) := by decide +kernel
theorem dJ9_floorMod_f86c9_7 : decode cJ9_floorMod_f86c9 7 = .ok (.lxor, 1) := by decide +kernel
theorem dJ9_floorMod_f86c9_8 : decode cJ9_floorMod_f86c9 8 = .ok (.lconst 0, 1) := by decide +kernel
theorem dJ9_floorMod_f86c9_9 : decode cJ9_floorMod_f86c9 9 = .ok (.lcmp, 1) := by decide +kernel
theorem dJ9_floorMod_f86c9_10 : decode cJ9_floorMod_f86c9 10 = .ok (.ifCond .ge 15, 3) := by decide +kernel
theorem dJ9_floorMod_f86c9_13 : decode cJ9_floorMod_f86c9 13 = .ok (.lload 4, 2) := by decide +kernel
theorem dJ9_floorMod_f86c9_15 : decode cJ9_floorMod_f86c9 15 = .ok (.lconst 0, 1) := by decide +kernel
theorem dJ9_floorMod_f86c9_16 : decode cJ9_floorMod_f86c9 16 = .ok (.lcmp, 1) := by decide +kernel
theorem dJ9_floorMod_f86c9_17 : decode cJ9_floorMod_f86c9 17 = .ok (.ifCond .eq 8, 3) := by decide +kernel
theorem dJ9_floorMod_f86c9_20 : decode cJ9_floorMod_f86c9 20 = .ok (.lload 4, 2) := by decide +kernel
theorem dJ9_floorMod_f86c9_22 : decode cJ9_floorMod_f86c9 22 = .ok (.lload_n 2, 1) := by decide +kernel
theorem dJ9_floorMod_f86c9_23 : decode cJ9_floorMod_f86c9 23 = .ok (.ladd, 1) := by decide +kernel
theorem dJ9_floorMod_f86c9_24 : decode cJ9_floorMod_f86c9 24 = .ok (.lreturn, 1) := by decide +kernel
theorem dJ9_floorMod_f86c9_25 : decode cJ9_floorMod_f86c9 25 = .ok (.lload 4, 2) := by decide +kernel
theorem dJ9_floorMod_f86c9_27 : decode cJ9_floorMod_f86c9 27 = .ok (.lreturn, 1) := by decide +kernel
set_option maxRecDepth 20000 in
set_option maxHeartbeats 2000000 in
theorem V_J9_floorMod_f86c9_0 {X : Ctx} (C : C_J9_floorMod_f86c9 X) {k n : Nat} {Q : Pq} {h : Hp} {v0 v2 : Int64}
    (hv : ¬ v2 = 0 ∧ ((0 ≤ (v0 ^^^ v2) → Q (some (.long (v0 % v2))) h) ∧
    (¬ 0 ≤ (v0 ^^^ v2) → (((v0 % v2) = 0 → Q (some (.long (v0 % v2))) h) ∧
    (¬ (v0 % v2) = 0 → Q (some (.long ((v0 % v2) + v2))) h))))) :
    Wj X k n Q 0 [(0, .long v0), (2, .long v2)] [] h := by
  refine w_lload_n (pc := 0) C dJ9_floorMod_f86c9_0 rfl ?_
  refine w_lload_n (pc := 1) C dJ9_floorMod_f86c9_1 rfl ?_
  obtain ⟨f1, hv⟩ := hv
  refine w_lrem (pc := 2) C dJ9_floorMod_f86c9_2 f1 ?_
  refine w_lstore (pc := 3) C dJ9_floorMod_f86c9_3 (by decide) ?_
  refine w_lload_n (pc := 5) C dJ9_floorMod_f86c9_5 rfl ?_
  refine w_lload_n (pc := 6) C dJ9_floorMod_f86c9_6 rfl ?_
  refine w_lxor (pc := 7) C dJ9_floorMod_f86c9_7 ?_
  refine w_lconst (pc := 8) C (v := 0) dJ9_floorMod_f86c9_8 (by decide) ?_
  refine w_lcmp_ge (pc := 9) C (tgt := 25) dJ9_floorMod_f86c9_9 dJ9_floorMod_f86c9_10 (by decide) ?_
  obtain ⟨hv1, hv2⟩ := hv
  refine ⟨fun c3 => ?_, fun c3 => ?_⟩
  · have hv := hv1 c3
    refine w_lload (pc := 25) C dJ9_floorMod_f86c9_25 rfl ?_
    exact w_lret (pc := 27) C dJ9_floorMod_f86c9_27 hv
  · have hv := hv2 c3
    refine w_lload (pc := 13) C dJ9_floorMod_f86c9_13 rfl ?_
    refine w_lconst (pc := 15) C (v := 0) dJ9_floorMod_f86c9_15 (by decide) ?_
    refine w_lcmp_eq (pc := 16) C (tgt := 25) dJ9_floorMod_f86c9_16 dJ9_floorMod_f86c9_17 (by decide) ?_
    obtain ⟨hv1, hv2⟩ := hv
    refine ⟨fun c2 => ?_, fun c2 => ?_⟩
    · have hv := hv1 c2
      refine w_lload (pc := 25) C dJ9_floorMod_f86c9_25 rfl ?_
      exact w_lret (pc := 27) C dJ9_floorMod_f86c9_27 hv
    · have hv := hv2 c2
      refine w_lload (pc := 20) C dJ9_floorMod_f86c9_20 rfl ?_
      refine w_lload_n (pc := 22) C dJ9_floorMod_f86c9_22 rfl ?_
      refine w_ladd (pc := 23) C dJ9_floorMod_f86c9_23 ?_
      exact w_lret (pc := 24) C dJ9_floorMod_f86c9_24 hv
theorem dJ9_abs_0f7a4_0 : decode cJ9_abs_0f7a4 0 = .ok (.iload_n 0, 1) := by decide +kernel
theorem dJ9_abs_0f7a4_1 : decode cJ9_abs_0f7a4 1 = .ok (.ifCond .ge 8, 3) := by decide +kernel
theorem dJ9_abs_0f7a4_4 : decode cJ9_abs_0f7a4 4 = .ok (.iload_n 0, 1) := by decide +kernel
theorem dJ9_abs_0f7a4_5 : decode cJ9_abs_0f7a4 5 = .ok (.ineg, 1) := by decide +kernel
theorem dJ9_abs_0f7a4_6 : decode cJ9_abs_0f7a4 6 = .ok (.goto 4, 3) := by decide +kernel
theorem dJ9_abs_0f7a4_9 : decode cJ9_abs_0f7a4 9 = .ok (.iload_n 0, 1) := by decide +kernel
theorem dJ9_abs_0f7a4_10 : decode cJ9_abs_0f7a4 10 = .ok (.ireturn, 1) := by decide +kernel
set_option maxRecDepth 20000 in
set_option maxHeartbeats 2000000 in
theorem V_J9_abs_0f7a4_0 {X : Ctx} (C : C_J9_abs_0f7a4 X) {k n : Nat} {Q : Pq} {h : Hp} {v0 : Int32}
    (hv : ((0 ≤ v0 → Q (some (.int v0)) h) ∧
    (¬ 0 ≤ v0 → Q (some (.int (-v0))) h))) :
    Wj X k n Q 0 [(0, .int v0)] [] h := by
  refine w_iload_n (pc := 0) C dJ9_abs_0f7a4_0 rfl ?_
  refine w_if_ge (pc := 1) C (tgt := 9) dJ9_abs_0f7a4_1 (by decide) ?_
  obtain ⟨hv1, hv2⟩ := hv
  refine ⟨fun c1 => ?_, fun c1 => ?_⟩
  · have hv := hv1 c1
    refine w_iload_n (pc := 9) C dJ9_abs_0f7a4_9 rfl ?_
    exact w_iret (pc := 10) C dJ9_abs_0f7a4_10 hv
  · have hv := hv2 c1
    refine w_iload_n (pc := 4) C dJ9_abs_0f7a4_4 rfl ?_
    refine w_ineg (pc := 5) C dJ9_abs_0f7a4_5 ?_
    refine w_goto (pc := 6) C (tgt := 10) dJ9_abs_0f7a4_6 (by decide) ?_
    exact w_iret (pc := 10) C dJ9_abs_0f7a4_10 hv
theorem dJ9_abs_067f4_0 : decode cJ9_abs_067f4 0 = .ok (.lload_n 0, 1) := by decide +kernel
theorem dJ9_abs_067f4_1 : decode cJ9_abs_067f4 1 = .ok (.lconst 0, 1) := by decide +kernel
theorem dJ9_abs_067f4_2 : decode cJ9_abs_067f4 2 = .ok (.lcmp, 1) := by decide +kernel
theorem dJ9_abs_067f4_3 : decode cJ9_abs_067f4 3 = .ok (.ifCond .ge 8, 3) := by decide +kernel
theorem dJ9_abs_067f4_6 : decode cJ9_abs_067f4 6 = .ok (.lload_n 0, 1) := by decide +kernel
theorem dJ9_abs_067f4_7 : decode cJ9_abs_067f4 7 = .ok (.lneg, 1) := by decide +kernel
theorem dJ9_abs_067f4_8 : decode cJ9_abs_067f4 8 = .ok (.goto 4, 3) := by decide +kernel
theorem dJ9_abs_067f4_11 : decode cJ9_abs_067f4 11 = .ok (.lload_n 0, 1) := by decide +kernel
theorem dJ9_abs_067f4_12 : decode cJ9_abs_067f4 12 = .ok (.lreturn, 1) := by decide +kernel
set_option maxRecDepth 20000 in
set_option maxHeartbeats 2000000 in
theorem V_J9_abs_067f4_0 {X : Ctx} (C : C_J9_abs_067f4 X) {k n : Nat} {Q : Pq} {h : Hp} {v0 : Int64}
    (hv : ((0 ≤ v0 → Q (some (.long v0)) h) ∧
    (¬ 0 ≤ v0 → Q (some (.long (-v0))) h))) :
    Wj X k n Q 0 [(0, .long v0)] [] h := by
  refine w_lload_n (pc := 0) C dJ9_abs_067f4_0 rfl ?_
  refine w_lconst (pc := 1) C (v := 0) dJ9_abs_067f4_1 (by decide) ?_
  refine w_lcmp_ge (pc := 2) C (tgt := 11) dJ9_abs_067f4_2 dJ9_abs_067f4_3 (by decide) ?_
  obtain ⟨hv1, hv2⟩ := hv
  refine ⟨fun c1 => ?_, fun c1 => ?_⟩
  · have hv := hv1 c1
    refine w_lload_n (pc := 11) C dJ9_abs_067f4_11 rfl ?_
    exact w_lret (pc := 12) C dJ9_abs_067f4_12 hv
  · have hv := hv2 c1
    refine w_lload_n (pc := 6) C dJ9_abs_067f4_6 rfl ?_
    refine w_lneg (pc := 7) C dJ9_abs_067f4_7 ?_
    refine w_goto (pc := 8) C (tgt := 12) dJ9_abs_067f4_8 (by decide) ?_
    exact w_lret (pc := 12) C dJ9_abs_067f4_12 hv
theorem dJ7_fill_53178_0 : decode cJ7_fill_53178 0 = .ok (.iconst 0, 1) := by decide +kernel
theorem dJ7_fill_53178_1 : decode cJ7_fill_53178 1 = .ok (.istore_n 2, 1) := by decide +kernel
theorem dJ7_fill_53178_2 : decode cJ7_fill_53178 2 = .ok (.aload_n 0, 1) := by decide +kernel
theorem dJ7_fill_53178_3 : decode cJ7_fill_53178 3 = .ok (.arraylength, 1) := by decide +kernel
theorem dJ7_fill_53178_4 : decode cJ7_fill_53178 4 = .ok (.istore_n 3, 1) := by decide +kernel
theorem dJ7_fill_53178_5 : decode cJ7_fill_53178 5 = .ok (.iload_n 2, 1) := by decide +kernel
theorem dJ7_fill_53178_6 : decode cJ7_fill_53178 6 = .ok (.iload_n 3, 1) := by decide +kernel
theorem dJ7_fill_53178_7 : decode cJ7_fill_53178 7 = .ok (.if_icmp .ge 13, 3) := by decide +kernel
theorem dJ7_fill_53178_10 : decode cJ7_fill_53178 10 = .ok (.aload_n 0, 1) := by decide +kernel
theorem dJ7_fill_53178_11 : decode cJ7_fill_53178 11 = .ok (.iload_n 2, 1) := by decide +kernel
theorem dJ7_fill_53178_12 : decode cJ7_fill_53178 12 = .ok (.iload_n 1, 1) := by decide +kernel
theorem dJ7_fill_53178_13 : decode cJ7_fill_53178 13 = .ok (.iastore, 1) := by decide +kernel
theorem dJ7_fill_53178_14 : decode cJ7_fill_53178 14 = .ok (.iinc 2 1, 3) := by decide +kernel
theorem dJ7_fill_53178_17 : decode cJ7_fill_53178 17 = .ok (.goto (-12), 3) := by decide +kernel
theorem dJ7_fill_53178_20 : decode cJ7_fill_53178 20 = .ok (.return_, 1) := by decide +kernel
set_option maxRecDepth 20000 in
set_option maxHeartbeats 2000000 in
theorem V_J7_fill_53178_0 {X : Ctx} (C : C_J7_fill_53178 X) {k n : Nat} {Q : Pq} {h : Hp} {v0 : Nat} {v1 : Int32}
    (hv : kd h v0 = 20 ∧ Wj X k n Q 5 [(0, .ref v0), (1, .int v1), (2, .int 0), (3, .int (Int32.ofNat (ln h v0)))] [] h) :
    Wj X k n Q 0 [(0, .ref v0), (1, .int v1)] [] h := by
  refine w_iconst (pc := 0) C (v := 0) dJ7_fill_53178_0 (by decide) ?_
  refine w_istore_n (pc := 1) C dJ7_fill_53178_1 (by decide) ?_
  refine w_aload_n (pc := 2) C dJ7_fill_53178_2 rfl ?_
  obtain ⟨f1, hv⟩ := hv
  refine w_alen (pc := 3) 0 (by decide) C dJ7_fill_53178_3 f1 ?_
  refine w_istore_n (pc := 4) C dJ7_fill_53178_4 (by decide) ?_
  refine w_sub ?_ hv
  exact ⟨rfl, rfl, rfl, rfl, trivial⟩
set_option maxRecDepth 20000 in
set_option maxHeartbeats 2000000 in
theorem V_J7_fill_53178_5 {X : Ctx} (C : C_J7_fill_53178 X) {k n : Nat} {Q : Pq} {h : Hp} {v0 : Nat} {v1 v2 v3 : Int32}
    (hv : ((v3 ≤ v2 → Q none h) ∧
    (¬ v3 ≤ v2 → kd h v0 = 20 ∧ inb v2 (ln h v0) ∧ Wj X k n Q 5 [(0, .ref v0), (1, .int v1), (2, .int (v2 + Int32.ofInt 1)), (3, .int v3)] [] (si h v0 (ix v2) v1)))) :
    Wj X k n Q 5 [(0, .ref v0), (1, .int v1), (2, .int v2), (3, .int v3)] [] h := by
  refine w_iload_n (pc := 5) C dJ7_fill_53178_5 rfl ?_
  refine w_iload_n (pc := 6) C dJ7_fill_53178_6 rfl ?_
  refine w_icmp_ge (pc := 7) C (tgt := 20) dJ7_fill_53178_7 (by decide) ?_
  obtain ⟨hv1, hv2⟩ := hv
  refine ⟨fun c3 => ?_, fun c3 => ?_⟩
  · have hv := hv1 c3
    exact w_vret (pc := 20) C dJ7_fill_53178_20 hv
  · have hv := hv2 c3
    refine w_aload_n (pc := 10) C dJ7_fill_53178_10 rfl ?_
    refine w_iload_n (pc := 11) C dJ7_fill_53178_11 rfl ?_
    refine w_iload_n (pc := 12) C dJ7_fill_53178_12 rfl ?_
    obtain ⟨f1, hv⟩ := hv
    obtain ⟨f2, hv⟩ := hv
    refine w_iast (pc := 13) C dJ7_fill_53178_13 f1 f2 ?_
    refine w_iinc (pc := 14) C dJ7_fill_53178_14 rfl (by decide) ?_
    refine w_goto (pc := 17) C (tgt := 5) dJ7_fill_53178_17 (by decide) ?_
    refine w_sub ?_ hv
    exact ⟨rfl, rfl, rfl, rfl, trivial⟩
theorem dX9_common_0 : decode cX9_common 0 = .ok (.lload_n 0, 1) := by decide +kernel
theorem dX9_common_1 : decode cX9_common 1 = .ok (.lconst 0, 1) := by decide +kernel
theorem dX9_common_2 : decode cX9_common 2 = .ok (.lcmp, 1) := by decide +kernel
theorem dX9_common_3 : decode cX9_common 3 = .ok (.ifCond .ge 8, 3) := by decide +kernel
theorem dX9_common_6 : decode cX9_common 6 = .ok (.lload_n 0, 1) := by decide +kernel
theorem dX9_common_7 : decode cX9_common 7 = .ok (.lneg, 1) := by decide +kernel
theorem dX9_common_8 : decode cX9_common 8 = .ok (.goto 4, 3) := by decide +kernel
theorem dX9_common_11 : decode cX9_common 11 = .ok (.lload_n 0, 1) := by decide +kernel
theorem dX9_common_12 : decode cX9_common 12 = .ok (.lstore 4, 2) := by decide +kernel
theorem dX9_common_14 : decode cX9_common 14 = .ok (.lload_n 2, 1) := by decide +kernel
theorem dX9_common_15 : decode cX9_common 15 = .ok (.lconst 0, 1) := by decide +kernel
theorem dX9_common_16 : decode cX9_common 16 = .ok (.lcmp, 1) := by decide +kernel
theorem dX9_common_17 : decode cX9_common 17 = .ok (.ifCond .ge 8, 3) := by decide +kernel
theorem dX9_common_20 : decode cX9_common 20 = .ok (.lload_n 2, 1) := by decide +kernel
theorem dX9_common_21 : decode cX9_common 21 = .ok (.lneg, 1) := by decide +kernel
theorem dX9_common_22 : decode cX9_common 22 = .ok (.goto 4, 3) := by decide +kernel
theorem dX9_common_25 : decode cX9_common 25 = .ok (.lload_n 2, 1) := by decide +kernel
theorem dX9_common_26 : decode cX9_common 26 = .ok (.lstore 6, 2) := by decide +kernel
theorem dX9_common_28 : decode cX9_common 28 = .ok (.iconst 0, 1) := by decide +kernel
theorem dX9_common_29 : decode cX9_common 29 = .ok (.istore 8, 2) := by decide +kernel
theorem dX9_common_31 : decode cX9_common 31 = .ok (.iload 8, 2) := by decide +kernel
theorem dX9_common_33 : decode cX9_common 33 = .ok (.sipush 200, 3) := by decide +kernel
theorem dX9_common_36 : decode cX9_common 36 = .ok (.if_icmp .ge 31, 3) := by decide +kernel
theorem dX9_common_39 : decode cX9_common 39 = .ok (.lload 6, 2) := by decide +kernel
theorem dX9_common_41 : decode cX9_common 41 = .ok (.lconst 0, 1) := by decide +kernel
theorem dX9_common_42 : decode cX9_common 42 = .ok (.lcmp, 1) := by decide +kernel
theorem dX9_common_43 : decode cX9_common 43 = .ok (.ifCond .eq 24, 3) := by decide +kernel
theorem dX9_common_46 : decode cX9_common 46 = .ok (.lload 4, 2) := by decide +kernel
theorem dX9_common_48 : decode cX9_common 48 = .ok (.lload 6, 2) := by decide +kernel
theorem dX9_common_50 : decode cX9_common 50 = .ok (.lrem, 1) := by decide +kernel
theorem dX9_common_51 : decode cX9_common 51 = .ok (.lstore 9, 2) := by decide +kernel
theorem dX9_common_53 : decode cX9_common 53 = .ok (.lload 6, 2) := by decide +kernel
theorem dX9_common_55 : decode cX9_common 55 = .ok (.lstore 4, 2) := by decide +kernel
theorem dX9_common_57 : decode cX9_common 57 = .ok (.lload 9, 2) := by decide +kernel
theorem dX9_common_59 : decode cX9_common 59 = .ok (.lstore 6, 2) := by decide +kernel
theorem dX9_common_61 : decode cX9_common 61 = .ok (.iinc 8 1, 3) := by decide +kernel
theorem dX9_common_64 : decode cX9_common 64 = .ok (.goto (-33), 3) := by decide +kernel
theorem dX9_common_67 : decode cX9_common 67 = .ok (.lload 4, 2) := by decide +kernel
theorem dX9_common_69 : decode cX9_common 69 = .ok (.lconst 0, 1) := by decide +kernel
theorem dX9_common_70 : decode cX9_common 70 = .ok (.lcmp, 1) := by decide +kernel
theorem dX9_common_71 : decode cX9_common 71 = .ok (.ifCond .gt 7, 3) := by decide +kernel
theorem dX9_common_74 : decode cX9_common 74 = .ok (.lconst 1, 1) := by decide +kernel
theorem dX9_common_75 : decode cX9_common 75 = .ok (.goto 5, 3) := by decide +kernel
theorem dX9_common_78 : decode cX9_common 78 = .ok (.lload 4, 2) := by decide +kernel
theorem dX9_common_80 : decode cX9_common 80 = .ok (.lreturn, 1) := by decide +kernel
set_option maxRecDepth 20000 in
set_option maxHeartbeats 2000000 in
theorem V_X9_common_0 {X : Ctx} (C : C_X9_common X) {k n : Nat} {Q : Pq} {h : Hp} {v0 v2 : Int64}
    (hv : ((0 ≤ v0 → Wj X k n Q 12 [(2, .long v2)] [.long v0] h) ∧
    (¬ 0 ≤ v0 → Wj X k n Q 12 [(2, .long v2)] [.long (-v0)] h))) :
    Wj X k n Q 0 [(0, .long v0), (2, .long v2)] [] h := by
  refine w_lload_n (pc := 0) C dX9_common_0 rfl ?_
  refine w_lconst (pc := 1) C (v := 0) dX9_common_1 (by decide) ?_
  refine w_lcmp_ge (pc := 2) C (tgt := 11) dX9_common_2 dX9_common_3 (by decide) ?_
  obtain ⟨hv1, hv2⟩ := hv
  refine ⟨fun c1 => ?_, fun c1 => ?_⟩
  · have hv := hv1 c1
    refine w_lload_n (pc := 11) C dX9_common_11 rfl ?_
    refine w_sub ?_ hv
    exact ⟨rfl, trivial⟩
  · have hv := hv2 c1
    refine w_lload_n (pc := 6) C dX9_common_6 rfl ?_
    refine w_lneg (pc := 7) C dX9_common_7 ?_
    refine w_goto (pc := 8) C (tgt := 12) dX9_common_8 (by decide) ?_
    refine w_sub ?_ hv
    exact ⟨rfl, trivial⟩
set_option maxRecDepth 20000 in
set_option maxHeartbeats 2000000 in
theorem V_X9_common_12 {X : Ctx} (C : C_X9_common X) {k n : Nat} {Q : Pq} {h : Hp} {v2 s0 : Int64}
    (hv : ((0 ≤ v2 → Wj X k n Q 31 [(4, .long s0), (6, .long v2), (8, .int 0)] [] h) ∧
    (¬ 0 ≤ v2 → Wj X k n Q 31 [(4, .long s0), (6, .long (-v2)), (8, .int 0)] [] h))) :
    Wj X k n Q 12 [(2, .long v2)] [.long s0] h := by
  refine w_lstore (pc := 12) C dX9_common_12 (by decide) ?_
  refine w_lload_n (pc := 14) C dX9_common_14 rfl ?_
  refine w_lconst (pc := 15) C (v := 0) dX9_common_15 (by decide) ?_
  refine w_lcmp_ge (pc := 16) C (tgt := 25) dX9_common_16 dX9_common_17 (by decide) ?_
  obtain ⟨hv1, hv2⟩ := hv
  refine ⟨fun c1 => ?_, fun c1 => ?_⟩
  · have hv := hv1 c1
    refine w_lload_n (pc := 25) C dX9_common_25 rfl ?_
    refine w_lstore (pc := 26) C dX9_common_26 (by decide) ?_
    refine w_iconst (pc := 28) C (v := 0) dX9_common_28 (by decide) ?_
    refine w_istore (pc := 29) C dX9_common_29 (by decide) ?_
    refine w_sub ?_ hv
    exact ⟨rfl, rfl, rfl, trivial⟩
  · have hv := hv2 c1
    refine w_lload_n (pc := 20) C dX9_common_20 rfl ?_
    refine w_lneg (pc := 21) C dX9_common_21 ?_
    refine w_goto (pc := 22) C (tgt := 26) dX9_common_22 (by decide) ?_
    refine w_lstore (pc := 26) C dX9_common_26 (by decide) ?_
    refine w_iconst (pc := 28) C (v := 0) dX9_common_28 (by decide) ?_
    refine w_istore (pc := 29) C dX9_common_29 (by decide) ?_
    refine w_sub ?_ hv
    exact ⟨rfl, rfl, rfl, trivial⟩
set_option maxRecDepth 20000 in
set_option maxHeartbeats 2000000 in
theorem V_X9_common_31 {X : Ctx} (C : C_X9_common X) {k n : Nat} {Q : Pq} {h : Hp} {v4 v6 : Int64} {v8 : Int32}
    (hv : ((200 ≤ v8 → Wj X k n Q 67 [(4, .long v4)] [] h) ∧
    (¬ 200 ≤ v8 → ((v6 = 0 → Wj X k n Q 67 [(4, .long v4)] [] h) ∧
    (¬ v6 = 0 → ¬ v6 = 0 ∧ Wj X k n Q 31 [(4, .long v6), (6, .long (v4 % v6)), (8, .int (v8 + Int32.ofInt 1))] [] h))))) :
    Wj X k n Q 31 [(4, .long v4), (6, .long v6), (8, .int v8)] [] h := by
  refine w_iload (pc := 31) C dX9_common_31 rfl ?_
  refine w_sipush (pc := 33) C (v := 200) dX9_common_33 (by decide) ?_
  refine w_icmp_ge (pc := 36) C (tgt := 67) dX9_common_36 (by decide) ?_
  obtain ⟨hv1, hv2⟩ := hv
  refine ⟨fun c3 => ?_, fun c3 => ?_⟩
  · have hv := hv1 c3
    refine w_sub ?_ hv
    exact ⟨rfl, trivial⟩
  · have hv := hv2 c3
    refine w_lload (pc := 39) C dX9_common_39 rfl ?_
    refine w_lconst (pc := 41) C (v := 0) dX9_common_41 (by decide) ?_
    refine w_lcmp_eq (pc := 42) C (tgt := 67) dX9_common_42 dX9_common_43 (by decide) ?_
    obtain ⟨hv1, hv2⟩ := hv
    refine ⟨fun c2 => ?_, fun c2 => ?_⟩
    · have hv := hv1 c2
      refine w_sub ?_ hv
      exact ⟨rfl, trivial⟩
    · have hv := hv2 c2
      refine w_lload (pc := 46) C dX9_common_46 rfl ?_
      refine w_lload (pc := 48) C dX9_common_48 rfl ?_
      obtain ⟨f1, hv⟩ := hv
      refine w_lrem (pc := 50) C dX9_common_50 f1 ?_
      refine w_lstore (pc := 51) C dX9_common_51 (by decide) ?_
      refine w_lload (pc := 53) C dX9_common_53 rfl ?_
      refine w_lstore (pc := 55) C dX9_common_55 (by decide) ?_
      refine w_lload (pc := 57) C dX9_common_57 rfl ?_
      refine w_lstore (pc := 59) C dX9_common_59 (by decide) ?_
      refine w_iinc (pc := 61) C dX9_common_61 rfl (by decide) ?_
      refine w_goto (pc := 64) C (tgt := 31) dX9_common_64 (by decide) ?_
      refine w_sub ?_ hv
      exact ⟨rfl, rfl, rfl, trivial⟩
set_option maxRecDepth 20000 in
set_option maxHeartbeats 2000000 in
theorem V_X9_common_67 {X : Ctx} (C : C_X9_common X) {k n : Nat} {Q : Pq} {h : Hp} {v4 : Int64}
    (hv : ((0 < v4 → Q (some (.long v4)) h) ∧
    (¬ 0 < v4 → Q (some (.long 1)) h))) :
    Wj X k n Q 67 [(4, .long v4)] [] h := by
  refine w_lload (pc := 67) C dX9_common_67 rfl ?_
  refine w_lconst (pc := 69) C (v := 0) dX9_common_69 (by decide) ?_
  refine w_lcmp_gt (pc := 70) C (tgt := 78) dX9_common_70 dX9_common_71 (by decide) ?_
  obtain ⟨hv1, hv2⟩ := hv
  refine ⟨fun c1 => ?_, fun c1 => ?_⟩
  · have hv := hv1 c1
    refine w_lload (pc := 78) C dX9_common_78 rfl ?_
    exact w_lret (pc := 80) C dX9_common_80 hv
  · have hv := hv2 c1
    refine w_lconst (pc := 74) C (v := 1) dX9_common_74 (by decide) ?_
    refine w_goto (pc := 75) C (tgt := 80) dX9_common_75 (by decide) ?_
    exact w_lret (pc := 80) C dX9_common_80 hv
theorem dX9_isBetween_0 : decode cX9_isBetween 0 = .ok (.iload_n 0, 1) := by decide +kernel
theorem dX9_isBetween_1 : decode cX9_isBetween 1 = .ok (.iload_n 1, 1) := by decide +kernel
theorem dX9_isBetween_2 : decode cX9_isBetween 2 = .ok (.if_icmp .lt 12, 3) := by decide +kernel
theorem dX9_isBetween_5 : decode cX9_isBetween 5 = .ok (.iload_n 0, 1) := by decide +kernel
theorem dX9_isBetween_6 : decode cX9_isBetween 6 = .ok (.iload_n 2, 1) := by decide +kernel
theorem dX9_isBetween_7 : decode cX9_isBetween 7 = .ok (.if_icmp .gt 7, 3) := by decide +kernel
theorem dX9_isBetween_10 : decode cX9_isBetween 10 = .ok (.iconst 1, 1) := by decide +kernel
theorem dX9_isBetween_11 : decode cX9_isBetween 11 = .ok (.goto 4, 3) := by decide +kernel
theorem dX9_isBetween_14 : decode cX9_isBetween 14 = .ok (.iconst 0, 1) := by decide +kernel
theorem dX9_isBetween_15 : decode cX9_isBetween 15 = .ok (.ireturn, 1) := by decide +kernel
set_option maxRecDepth 20000 in
set_option maxHeartbeats 2000000 in
theorem V_X9_isBetween_0 {X : Ctx} (C : C_X9_isBetween X) {k n : Nat} {Q : Pq} {h : Hp} {v0 v1 v2 : Int32}
    (hv : ((v0 < v1 → Q (some (.int 0)) h) ∧
    (¬ v0 < v1 → ((v2 < v0 → Q (some (.int 0)) h) ∧
    (¬ v2 < v0 → Q (some (.int 1)) h))))) :
    Wj X k n Q 0 [(0, .int v0), (1, .int v1), (2, .int v2)] [] h := by
  refine w_iload_n (pc := 0) C dX9_isBetween_0 rfl ?_
  refine w_iload_n (pc := 1) C dX9_isBetween_1 rfl ?_
  refine w_icmp_lt (pc := 2) C (tgt := 14) dX9_isBetween_2 (by decide) ?_
  obtain ⟨hv1, hv2⟩ := hv
  refine ⟨fun c2 => ?_, fun c2 => ?_⟩
  · have hv := hv1 c2
    refine w_iconst (pc := 14) C (v := 0) dX9_isBetween_14 (by decide) ?_
    exact w_zret (pc := 15) C dX9_isBetween_15 (by decide) hv
  · have hv := hv2 c2
    refine w_iload_n (pc := 5) C dX9_isBetween_5 rfl ?_
    refine w_iload_n (pc := 6) C dX9_isBetween_6 rfl ?_
    refine w_icmp_gt (pc := 7) C (tgt := 14) dX9_isBetween_7 (by decide) ?_
    obtain ⟨hv1, hv2⟩ := hv
    refine ⟨fun c1 => ?_, fun c1 => ?_⟩
    · have hv := hv1 c1
      refine w_iconst (pc := 14) C (v := 0) dX9_isBetween_14 (by decide) ?_
      exact w_zret (pc := 15) C dX9_isBetween_15 (by decide) hv
    · have hv := hv2 c1
      refine w_iconst (pc := 10) C (v := 1) dX9_isBetween_10 (by decide) ?_
      refine w_goto (pc := 11) C (tgt := 15) dX9_isBetween_11 (by decide) ?_
      exact w_zret (pc := 15) C dX9_isBetween_15 (by decide) hv
theorem dX9_isParts_0 : decode cX9_isParts 0 = .ok (.iload_n 0, 1) := by decide +kernel
theorem dX9_isParts_1 : decode cX9_isParts 1 = .ok (.iconst 2, 1) := by decide +kernel
theorem dX9_isParts_2 : decode cX9_isParts 2 = .ok (.if_icmp .lt 14, 3) := by decide +kernel
theorem dX9_isParts_5 : decode cX9_isParts 5 = .ok (.iload_n 0, 1) := by decide +kernel
theorem dX9_isParts_6 : decode cX9_isParts 6 = .ok (.sipush 400, 3) := by decide +kernel
theorem dX9_isParts_9 : decode cX9_isParts 9 = .ok (.if_icmp .gt 7, 3) := by decide +kernel
theorem dX9_isParts_12 : decode cX9_isParts 12 = .ok (.iconst 1, 1) := by decide +kernel
theorem dX9_isParts_13 : decode cX9_isParts 13 = .ok (.goto 4, 3) := by decide +kernel
theorem dX9_isParts_16 : decode cX9_isParts 16 = .ok (.iconst 0, 1) := by decide +kernel
theorem dX9_isParts_17 : decode cX9_isParts 17 = .ok (.ireturn, 1) := by decide +kernel
set_option maxRecDepth 20000 in
set_option maxHeartbeats 2000000 in
theorem V_X9_isParts_0 {X : Ctx} (C : C_X9_isParts X) {k n : Nat} {Q : Pq} {h : Hp} {v0 : Int32}
    (hv : ((v0 < 2 → Q (some (.int 0)) h) ∧
    (¬ v0 < 2 → ((400 < v0 → Q (some (.int 0)) h) ∧
    (¬ 400 < v0 → Q (some (.int 1)) h))))) :
    Wj X k n Q 0 [(0, .int v0)] [] h := by
  refine w_iload_n (pc := 0) C dX9_isParts_0 rfl ?_
  refine w_iconst (pc := 1) C (v := 2) dX9_isParts_1 (by decide) ?_
  refine w_icmp_lt (pc := 2) C (tgt := 16) dX9_isParts_2 (by decide) ?_
  obtain ⟨hv1, hv2⟩ := hv
  refine ⟨fun c2 => ?_, fun c2 => ?_⟩
  · have hv := hv1 c2
    refine w_iconst (pc := 16) C (v := 0) dX9_isParts_16 (by decide) ?_
    exact w_zret (pc := 17) C dX9_isParts_17 (by decide) hv
  · have hv := hv2 c2
    refine w_iload_n (pc := 5) C dX9_isParts_5 rfl ?_
    refine w_sipush (pc := 6) C (v := 400) dX9_isParts_6 (by decide) ?_
    refine w_icmp_gt (pc := 9) C (tgt := 16) dX9_isParts_9 (by decide) ?_
    obtain ⟨hv1, hv2⟩ := hv
    refine ⟨fun c1 => ?_, fun c1 => ?_⟩
    · have hv := hv1 c1
      refine w_iconst (pc := 16) C (v := 0) dX9_isParts_16 (by decide) ?_
      exact w_zret (pc := 17) C dX9_isParts_17 (by decide) hv
    · have hv := hv2 c1
      refine w_iconst (pc := 12) C (v := 1) dX9_isParts_12 (by decide) ?_
      refine w_goto (pc := 13) C (tgt := 17) dX9_isParts_13 (by decide) ?_
      exact w_zret (pc := 17) C dX9_isParts_17 (by decide) hv
theorem dX9_compareFractions_0 : decode cX9_compareFractions 0 = .ok (.lload_n 0, 1) := by decide +kernel
theorem dX9_compareFractions_1 : decode cX9_compareFractions 1 = .ok (.lstore 8, 2) := by decide +kernel
theorem dX9_compareFractions_3 : decode cX9_compareFractions 3 = .ok (.lload_n 2, 1) := by decide +kernel
theorem dX9_compareFractions_4 : decode cX9_compareFractions 4 = .ok (.lstore 10, 2) := by decide +kernel
theorem dX9_compareFractions_6 : decode cX9_compareFractions 6 = .ok (.lload 4, 2) := by decide +kernel
theorem dX9_compareFractions_8 : decode cX9_compareFractions 8 = .ok (.lstore 12, 2) := by decide +kernel
theorem dX9_compareFractions_10 : decode cX9_compareFractions 10 = .ok (.lload 6, 2) := by decide +kernel
theorem dX9_compareFractions_12 : decode cX9_compareFractions 12 = .ok (.lstore 14, 2) := by decide +kernel
theorem dX9_compareFractions_14 : decode cX9_compareFractions 14 = .ok (.iconst 0, 1) := by decide +kernel
theorem dX9_compareFractions_15 : decode cX9_compareFractions 15 = .ok (.istore 16, 2) := by decide +kernel
theorem dX9_compareFractions_17 : decode cX9_compareFractions 17 = .ok (.iload 16, 2) := by decide +kernel
theorem dX9_compareFractions_19 : decode cX9_compareFractions 19 = .ok (.sipush 200, 3) := by decide +kernel
theorem dX9_compareFractions_22 : decode cX9_compareFractions 22 = .ok (.if_icmp .ge 105, 3) := by decide +kernel
theorem dX9_compareFractions_25 : decode cX9_compareFractions 25 = .ok (.lload 10, 2) := by decide +kernel
theorem dX9_compareFractions_27 : decode cX9_compareFractions 27 = .ok (.lconst 0, 1) := by decide +kernel
theorem dX9_compareFractions_28 : decode cX9_compareFractions 28 = .ok (.lcmp, 1) := by decide +kernel
theorem dX9_compareFractions_29 : decode cX9_compareFractions 29 = .ok (.ifCond .le 98, 3) := by decide +kernel
theorem dX9_compareFractions_32 : decode cX9_compareFractions 32 = .ok (.lload 14, 2) := by decide +kernel
theorem dX9_compareFractions_34 : decode cX9_compareFractions 34 = .ok (.lconst 0, 1) := by decide +kernel
theorem dX9_compareFractions_35 : decode cX9_compareFractions 35 = .ok (.lcmp, 1) := by decide +kernel
theorem dX9_compareFractions_36 : decode cX9_compareFractions 36 = .ok (.ifCond .le 91, 3) := by decide +kernel
theorem dX9_compareFractions_39 : decode cX9_compareFractions 39 = .ok (.lload 8, 2) := by decide +kernel
theorem dX9_compareFractions_41 : decode cX9_compareFractions 41 = .ok (.lload 10, 2) := by decide +kernel
theorem dX9_compareFractions_43 : decode cX9_compareFractions 43 = .ok (.ldiv, 1) := by decide +kernel
theorem dX9_compareFractions_44 : decode cX9_compareFractions 44 = .ok (.lload 12, 2) := by decide +kernel
theorem dX9_compareFractions_46 : decode cX9_compareFractions 46 = .ok (.lload 14, 2) := by decide +kernel
theorem dX9_compareFractions_48 : decode cX9_compareFractions 48 = .ok (.ldiv, 1) := by decide +kernel
theorem dX9_compareFractions_49 : decode cX9_compareFractions 49 = .ok (.invokestatic 419, 3) := by decide +kernel
theorem dX9_compareFractions_52 : decode cX9_compareFractions 52 = .ok (.istore 17, 2) := by decide +kernel
theorem dX9_compareFractions_54 : decode cX9_compareFractions 54 = .ok (.lload 8, 2) := by decide +kernel
theorem dX9_compareFractions_56 : decode cX9_compareFractions 56 = .ok (.lload 10, 2) := by decide +kernel
theorem dX9_compareFractions_58 : decode cX9_compareFractions 58 = .ok (.lrem, 1) := by decide +kernel
theorem dX9_compareFractions_59 : decode cX9_compareFractions 59 = .ok (.lstore 18, 2) := by decide +kernel
theorem dX9_compareFractions_61 : decode cX9_compareFractions 61 = .ok (.lload 12, 2) := by decide +kernel
theorem dX9_compareFractions_63 : decode cX9_compareFractions 63 = .ok (.lload 14, 2) := by decide +kernel
theorem dX9_compareFractions_65 : decode cX9_compareFractions 65 = .ok (.lrem, 1) := by decide +kernel
theorem dX9_compareFractions_66 : decode cX9_compareFractions 66 = .ok (.lstore 20, 2) := by decide +kernel
theorem dX9_compareFractions_68 : decode cX9_compareFractions 68 = .ok (.iload 17, 2) := by decide +kernel
theorem dX9_compareFractions_70 : decode cX9_compareFractions 70 = .ok (.ifCond .ne 17, 3) := by decide +kernel
theorem dX9_compareFractions_73 : decode cX9_compareFractions 73 = .ok (.lload 18, 2) := by decide +kernel
theorem dX9_compareFractions_75 : decode cX9_compareFractions 75 = .ok (.lconst 0, 1) := by decide +kernel
theorem dX9_compareFractions_76 : decode cX9_compareFractions 76 = .ok (.lcmp, 1) := by decide +kernel
theorem dX9_compareFractions_77 : decode cX9_compareFractions 77 = .ok (.ifCond .eq 10, 3) := by decide +kernel
theorem dX9_compareFractions_80 : decode cX9_compareFractions 80 = .ok (.lload 20, 2) := by decide +kernel
theorem dX9_compareFractions_82 : decode cX9_compareFractions 82 = .ok (.lconst 0, 1) := by decide +kernel
theorem dX9_compareFractions_83 : decode cX9_compareFractions 83 = .ok (.lcmp, 1) := by decide +kernel
theorem dX9_compareFractions_84 : decode cX9_compareFractions 84 = .ok (.ifCond .ne 21, 3) := by decide +kernel
theorem dX9_compareFractions_87 : decode cX9_compareFractions 87 = .ok (.iload 17, 2) := by decide +kernel
theorem dX9_compareFractions_89 : decode cX9_compareFractions 89 = .ok (.ifCond .eq 8, 3) := by decide +kernel
theorem dX9_compareFractions_92 : decode cX9_compareFractions 92 = .ok (.iload 17, 2) := by decide +kernel
theorem dX9_compareFractions_94 : decode cX9_compareFractions 94 = .ok (.goto 10, 3) := by decide +kernel
theorem dX9_compareFractions_97 : decode cX9_compareFractions 97 = .ok (.lload 18, 2) := by decide +kernel
theorem dX9_compareFractions_99 : decode cX9_compareFractions 99 = .ok (.lload 20, 2) := by decide +kernel
theorem dX9_compareFractions_101 : decode cX9_compareFractions 101 = .ok (.invokestatic 419, 3) := by decide +kernel
theorem dX9_compareFractions_104 : decode cX9_compareFractions 104 = .ok (.ireturn, 1) := by decide +kernel
theorem dX9_compareFractions_105 : decode cX9_compareFractions 105 = .ok (.lload 14, 2) := by decide +kernel
theorem dX9_compareFractions_107 : decode cX9_compareFractions 107 = .ok (.lstore 8, 2) := by decide +kernel
theorem dX9_compareFractions_109 : decode cX9_compareFractions 109 = .ok (.lload 10, 2) := by decide +kernel
theorem dX9_compareFractions_111 : decode cX9_compareFractions 111 = .ok (.lstore 12, 2) := by decide +kernel
theorem dX9_compareFractions_113 : decode cX9_compareFractions 113 = .ok (.lload 20, 2) := by decide +kernel
theorem dX9_compareFractions_115 : decode cX9_compareFractions 115 = .ok (.lstore 10, 2) := by decide +kernel
theorem dX9_compareFractions_117 : decode cX9_compareFractions 117 = .ok (.lload 18, 2) := by decide +kernel
theorem dX9_compareFractions_119 : decode cX9_compareFractions 119 = .ok (.lstore 14, 2) := by decide +kernel
theorem dX9_compareFractions_121 : decode cX9_compareFractions 121 = .ok (.iinc 16 1, 3) := by decide +kernel
theorem dX9_compareFractions_124 : decode cX9_compareFractions 124 = .ok (.goto (-107), 3) := by decide +kernel
theorem dX9_compareFractions_127 : decode cX9_compareFractions 127 = .ok (.iconst 0, 1) := by decide +kernel
theorem dX9_compareFractions_128 : decode cX9_compareFractions 128 = .ok (.ireturn, 1) := by decide +kernel
set_option maxRecDepth 20000 in
set_option maxHeartbeats 2000000 in
theorem V_X9_compareFractions_0 {X : Ctx} (C : C_X9_compareFractions X) {k n : Nat} {Q : Pq} {h : Hp} {v0 v2 v4 v6 : Int64}
    (hv : Wj X k n Q 17 [(8, .long v0), (10, .long v2), (12, .long v4), (14, .long v6), (16, .int 0)] [] h) :
    Wj X k n Q 0 [(0, .long v0), (2, .long v2), (4, .long v4), (6, .long v6)] [] h := by
  refine w_lload_n (pc := 0) C dX9_compareFractions_0 rfl ?_
  refine w_lstore (pc := 1) C dX9_compareFractions_1 (by decide) ?_
  refine w_lload_n (pc := 3) C dX9_compareFractions_3 rfl ?_
  refine w_lstore (pc := 4) C dX9_compareFractions_4 (by decide) ?_
  refine w_lload (pc := 6) C dX9_compareFractions_6 rfl ?_
  refine w_lstore (pc := 8) C dX9_compareFractions_8 (by decide) ?_
  refine w_lload (pc := 10) C dX9_compareFractions_10 rfl ?_
  refine w_lstore (pc := 12) C dX9_compareFractions_12 (by decide) ?_
  refine w_iconst (pc := 14) C (v := 0) dX9_compareFractions_14 (by decide) ?_
  refine w_istore (pc := 15) C dX9_compareFractions_15 (by decide) ?_
  refine w_sub ?_ hv
  exact ⟨rfl, rfl, rfl, rfl, rfl, trivial⟩
set_option maxRecDepth 20000 in
set_option maxHeartbeats 2000000 in
theorem V_X9_compareFractions_17 {X : Ctx} (C : C_X9_compareFractions X) {k n : Nat} {Q : Pq} {h : Hp} {v8 v10 v12 v14 : Int64} {v16 : Int32}
    (hv : ((200 ≤ v16 → Q (some (.int 0)) h) ∧
    (¬ 200 ≤ v16 → ((v10 ≤ 0 → Q (some (.int 0)) h) ∧
    (¬ v10 ≤ 0 → ((v14 ≤ 0 → Q (some (.int 0)) h) ∧
    (¬ v14 ≤ 0 → ¬ v10 = 0 ∧ ¬ v14 = 0 ∧ S_J13_compare_74951 (lX X) (dtX X) 0 0 [.long (v8 / v10), .long (v12 / v14)] h (QI fun x4 h3 =>
    ¬ v10 = 0 ∧ ¬ v14 = 0 ∧ ((¬ x4 = 0 → Wj X k n Q 87 [(17, .int x4), (18, .long (v8 % v10)), (20, .long (v12 % v14))] [] h3) ∧
    (x4 = 0 → (((v8 % v10) = 0 → Wj X k n Q 87 [(17, .int x4), (18, .long (v8 % v10)), (20, .long (v12 % v14))] [] h3) ∧
    (¬ (v8 % v10) = 0 → ((¬ (v12 % v14) = 0 → Wj X k n Q 17 [(8, .long v14), (10, .long (v12 % v14)), (12, .long v10), (14, .long (v8 % v10)), (16, .int (v16 + Int32.ofInt 1))] [] h3) ∧
    ((v12 % v14) = 0 → Wj X k n Q 87 [(17, .int x4), (18, .long (v8 % v10)), (20, .long (v12 % v14))] [] h3)))))))))))))) :
    Wj X k n Q 17 [(8, .long v8), (10, .long v10), (12, .long v12), (14, .long v14), (16, .int v16)] [] h := by
  refine w_iload (pc := 17) C dX9_compareFractions_17 rfl ?_
  refine w_sipush (pc := 19) C (v := 200) dX9_compareFractions_19 (by decide) ?_
  refine w_icmp_ge (pc := 22) C (tgt := 127) dX9_compareFractions_22 (by decide) ?_
  obtain ⟨hv1, hv2⟩ := hv
  refine ⟨fun c12 => ?_, fun c12 => ?_⟩
  · have hv := hv1 c12
    refine w_iconst (pc := 127) C (v := 0) dX9_compareFractions_127 (by decide) ?_
    exact w_iret (pc := 128) C dX9_compareFractions_128 hv
  · have hv := hv2 c12
    refine w_lload (pc := 25) C dX9_compareFractions_25 rfl ?_
    refine w_lconst (pc := 27) C (v := 0) dX9_compareFractions_27 (by decide) ?_
    refine w_lcmp_le (pc := 28) C (tgt := 127) dX9_compareFractions_28 dX9_compareFractions_29 (by decide) ?_
    obtain ⟨hv1, hv2⟩ := hv
    refine ⟨fun c11 => ?_, fun c11 => ?_⟩
    · have hv := hv1 c11
      refine w_iconst (pc := 127) C (v := 0) dX9_compareFractions_127 (by decide) ?_
      exact w_iret (pc := 128) C dX9_compareFractions_128 hv
    · have hv := hv2 c11
      refine w_lload (pc := 32) C dX9_compareFractions_32 rfl ?_
      refine w_lconst (pc := 34) C (v := 0) dX9_compareFractions_34 (by decide) ?_
      refine w_lcmp_le (pc := 35) C (tgt := 127) dX9_compareFractions_35 dX9_compareFractions_36 (by decide) ?_
      obtain ⟨hv1, hv2⟩ := hv
      refine ⟨fun c10 => ?_, fun c10 => ?_⟩
      · have hv := hv1 c10
        refine w_iconst (pc := 127) C (v := 0) dX9_compareFractions_127 (by decide) ?_
        exact w_iret (pc := 128) C dX9_compareFractions_128 hv
      · have hv := hv2 c10
        refine w_lload (pc := 39) C dX9_compareFractions_39 rfl ?_
        refine w_lload (pc := 41) C dX9_compareFractions_41 rfl ?_
        obtain ⟨f1, hv⟩ := hv
        refine w_ldiv (pc := 43) C dX9_compareFractions_43 f1 ?_
        refine w_lload (pc := 44) C dX9_compareFractions_44 rfl ?_
        refine w_lload (pc := 46) C dX9_compareFractions_46 rfl ?_
        obtain ⟨f2, hv⟩ := hv
        refine w_ldiv (pc := 48) C dX9_compareFractions_48 f2 ?_
        refine w_cS0_2 (pc := 49) C cl_X9_419 ls_J13_compare_74951 (by decide) dX9_compareFractions_49 (Nat.le_of_ble_eq_true rfl) (hv.mono (fun v h3 hp => ?_))
        obtain ⟨x4, rfl, hv⟩ := hp
        refine w_istore (pc := 52) C dX9_compareFractions_52 (by decide) ?_
        refine w_lload (pc := 54) C dX9_compareFractions_54 rfl ?_
        refine w_lload (pc := 56) C dX9_compareFractions_56 rfl ?_
        obtain ⟨f5, hv⟩ := hv
        refine w_lrem (pc := 58) C dX9_compareFractions_58 f5 ?_
        refine w_lstore (pc := 59) C dX9_compareFractions_59 (by decide) ?_
        refine w_lload (pc := 61) C dX9_compareFractions_61 rfl ?_
        refine w_lload (pc := 63) C dX9_compareFractions_63 rfl ?_
        obtain ⟨f6, hv⟩ := hv
        refine w_lrem (pc := 65) C dX9_compareFractions_65 f6 ?_
        refine w_lstore (pc := 66) C dX9_compareFractions_66 (by decide) ?_
        refine w_iload (pc := 68) C dX9_compareFractions_68 rfl ?_
        refine w_if_ne (pc := 70) C (tgt := 87) dX9_compareFractions_70 (by decide) ?_
        obtain ⟨hv1, hv2⟩ := hv
        refine ⟨fun c9 => ?_, fun c9 => ?_⟩
        · have hv := hv1 c9
          refine w_sub ?_ hv
          exact ⟨rfl, rfl, rfl, trivial⟩
        · have hv := hv2 c9
          refine w_lload (pc := 73) C dX9_compareFractions_73 rfl ?_
          refine w_lconst (pc := 75) C (v := 0) dX9_compareFractions_75 (by decide) ?_
          refine w_lcmp_eq (pc := 76) C (tgt := 87) dX9_compareFractions_76 dX9_compareFractions_77 (by decide) ?_
          obtain ⟨hv1, hv2⟩ := hv
          refine ⟨fun c8 => ?_, fun c8 => ?_⟩
          · have hv := hv1 c8
            refine w_sub ?_ hv
            exact ⟨rfl, rfl, rfl, trivial⟩
          · have hv := hv2 c8
            refine w_lload (pc := 80) C dX9_compareFractions_80 rfl ?_
            refine w_lconst (pc := 82) C (v := 0) dX9_compareFractions_82 (by decide) ?_
            refine w_lcmp_ne (pc := 83) C (tgt := 105) dX9_compareFractions_83 dX9_compareFractions_84 (by decide) ?_
            obtain ⟨hv1, hv2⟩ := hv
            refine ⟨fun c7 => ?_, fun c7 => ?_⟩
            · have hv := hv1 c7
              refine w_lload (pc := 105) C dX9_compareFractions_105 rfl ?_
              refine w_lstore (pc := 107) C dX9_compareFractions_107 (by decide) ?_
              refine w_lload (pc := 109) C dX9_compareFractions_109 rfl ?_
              refine w_lstore (pc := 111) C dX9_compareFractions_111 (by decide) ?_
              refine w_lload (pc := 113) C dX9_compareFractions_113 rfl ?_
              refine w_lstore (pc := 115) C dX9_compareFractions_115 (by decide) ?_
              refine w_lload (pc := 117) C dX9_compareFractions_117 rfl ?_
              refine w_lstore (pc := 119) C dX9_compareFractions_119 (by decide) ?_
              refine w_iinc (pc := 121) C dX9_compareFractions_121 rfl (by decide) ?_
              refine w_goto (pc := 124) C (tgt := 17) dX9_compareFractions_124 (by decide) ?_
              refine w_sub ?_ hv
              exact ⟨rfl, rfl, rfl, rfl, rfl, trivial⟩
            · have hv := hv2 c7
              refine w_sub ?_ hv
              exact ⟨rfl, rfl, rfl, trivial⟩
set_option maxRecDepth 20000 in
set_option maxHeartbeats 2000000 in
theorem V_X9_compareFractions_87 {X : Ctx} (C : C_X9_compareFractions X) {k n : Nat} {Q : Pq} {h : Hp} {v17 : Int32} {v18 v20 : Int64}
    (hv : ((v17 = 0 → S_J13_compare_74951 (lX X) (dtX X) 0 0 [.long v18, .long v20] h (QI fun x2 h1 =>
    Q (some (.int x2)) h1)) ∧
    (¬ v17 = 0 → Q (some (.int v17)) h))) :
    Wj X k n Q 87 [(17, .int v17), (18, .long v18), (20, .long v20)] [] h := by
  refine w_iload (pc := 87) C dX9_compareFractions_87 rfl ?_
  refine w_if_eq (pc := 89) C (tgt := 97) dX9_compareFractions_89 (by decide) ?_
  obtain ⟨hv1, hv2⟩ := hv
  refine ⟨fun c3 => ?_, fun c3 => ?_⟩
  · have hv := hv1 c3
    refine w_lload (pc := 97) C dX9_compareFractions_97 rfl ?_
    refine w_lload (pc := 99) C dX9_compareFractions_99 rfl ?_
    refine w_cS0_2 (pc := 101) C cl_X9_419 ls_J13_compare_74951 (by decide) dX9_compareFractions_101 (Nat.le_of_ble_eq_true rfl) (hv.mono (fun v h1 hp => ?_))
    obtain ⟨x2, rfl, hv⟩ := hp
    exact w_iret (pc := 104) C dX9_compareFractions_104 hv
  · have hv := hv2 c3
    refine w_iload (pc := 92) C dX9_compareFractions_92 rfl ?_
    refine w_goto (pc := 94) C (tgt := 104) dX9_compareFractions_94 (by decide) ?_
    exact w_iret (pc := 104) C dX9_compareFractions_104 hv
theorem dX9_inverse_0 : decode cX9_inverse 0 = .ok (.lload_n 2, 1) := by decide +kernel
theorem dX9_inverse_1 : decode cX9_inverse 1 = .ok (.lconst 0, 1) := by decide +kernel
theorem dX9_inverse_2 : decode cX9_inverse 2 = .ok (.lcmp, 1) := by decide +kernel
theorem dX9_inverse_3 : decode cX9_inverse 3 = .ok (.ifCond .gt 5, 3) := by decide +kernel
theorem dX9_inverse_6 : decode cX9_inverse 6 = .ok (.lconst 0, 1) := by decide +kernel
theorem dX9_inverse_7 : decode cX9_inverse 7 = .ok (.lreturn, 1) := by decide +kernel
theorem dX9_inverse_8 : decode cX9_inverse 8 = .ok (.lload_n 2, 1) := by decide +kernel
theorem dX9_inverse_9 : decode cX9_inverse 9 = .ok (.lstore 4, 2) := by decide +kernel
theorem dX9_inverse_11 : decode cX9_inverse 11 = .ok (.lload_n 0, 1) := by decide +kernel
theorem dX9_inverse_12 : decode cX9_inverse 12 = .ok (.lstore 6, 2) := by decide +kernel
theorem dX9_inverse_14 : decode cX9_inverse 14 = .ok (.lconst 0, 1) := by decide +kernel
theorem dX9_inverse_15 : decode cX9_inverse 15 = .ok (.lstore 8, 2) := by decide +kernel
theorem dX9_inverse_17 : decode cX9_inverse 17 = .ok (.lconst 1, 1) := by decide +kernel
theorem dX9_inverse_18 : decode cX9_inverse 18 = .ok (.lstore 10, 2) := by decide +kernel
theorem dX9_inverse_20 : decode cX9_inverse 20 = .ok (.iconst 0, 1) := by decide +kernel
theorem dX9_inverse_21 : decode cX9_inverse 21 = .ok (.istore 12, 2) := by decide +kernel
theorem dX9_inverse_23 : decode cX9_inverse 23 = .ok (.iload 12, 2) := by decide +kernel
theorem dX9_inverse_25 : decode cX9_inverse 25 = .ok (.sipush 200, 3) := by decide +kernel
theorem dX9_inverse_28 : decode cX9_inverse 28 = .ok (.if_icmp .ge 59, 3) := by decide +kernel
theorem dX9_inverse_31 : decode cX9_inverse 31 = .ok (.lload 6, 2) := by decide +kernel
theorem dX9_inverse_33 : decode cX9_inverse 33 = .ok (.lconst 0, 1) := by decide +kernel
theorem dX9_inverse_34 : decode cX9_inverse 34 = .ok (.lcmp, 1) := by decide +kernel
theorem dX9_inverse_35 : decode cX9_inverse 35 = .ok (.ifCond .eq 52, 3) := by decide +kernel
theorem dX9_inverse_38 : decode cX9_inverse 38 = .ok (.lload 4, 2) := by decide +kernel
theorem dX9_inverse_40 : decode cX9_inverse 40 = .ok (.lload 6, 2) := by decide +kernel
theorem dX9_inverse_42 : decode cX9_inverse 42 = .ok (.ldiv, 1) := by decide +kernel
theorem dX9_inverse_43 : decode cX9_inverse 43 = .ok (.lstore 13, 2) := by decide +kernel
theorem dX9_inverse_45 : decode cX9_inverse 45 = .ok (.lload 4, 2) := by decide +kernel
theorem dX9_inverse_47 : decode cX9_inverse 47 = .ok (.lload 13, 2) := by decide +kernel
theorem dX9_inverse_49 : decode cX9_inverse 49 = .ok (.lload 6, 2) := by decide +kernel
theorem dX9_inverse_51 : decode cX9_inverse 51 = .ok (.lmul, 1) := by decide +kernel
theorem dX9_inverse_52 : decode cX9_inverse 52 = .ok (.lsub, 1) := by decide +kernel
theorem dX9_inverse_53 : decode cX9_inverse 53 = .ok (.lstore 15, 2) := by decide +kernel
theorem dX9_inverse_55 : decode cX9_inverse 55 = .ok (.lload 6, 2) := by decide +kernel
theorem dX9_inverse_57 : decode cX9_inverse 57 = .ok (.lstore 4, 2) := by decide +kernel
theorem dX9_inverse_59 : decode cX9_inverse 59 = .ok (.lload 15, 2) := by decide +kernel
theorem dX9_inverse_61 : decode cX9_inverse 61 = .ok (.lstore 6, 2) := by decide +kernel
theorem dX9_inverse_63 : decode cX9_inverse 63 = .ok (.lload 8, 2) := by decide +kernel
theorem dX9_inverse_65 : decode cX9_inverse 65 = .ok (.lload 13, 2) := by decide +kernel
theorem dX9_inverse_67 : decode cX9_inverse 67 = .ok (.lload 10, 2) := by decide +kernel
theorem dX9_inverse_69 : decode cX9_inverse 69 = .ok (.lmul, 1) := by decide +kernel
theorem dX9_inverse_70 : decode cX9_inverse 70 = .ok (.lsub, 1) := by decide +kernel
theorem dX9_inverse_71 : decode cX9_inverse 71 = .ok (.lstore 17, 2) := by decide +kernel
theorem dX9_inverse_73 : decode cX9_inverse 73 = .ok (.lload 10, 2) := by decide +kernel
theorem dX9_inverse_75 : decode cX9_inverse 75 = .ok (.lstore 8, 2) := by decide +kernel
theorem dX9_inverse_77 : decode cX9_inverse 77 = .ok (.lload 17, 2) := by decide +kernel
theorem dX9_inverse_79 : decode cX9_inverse 79 = .ok (.lstore 10, 2) := by decide +kernel
theorem dX9_inverse_81 : decode cX9_inverse 81 = .ok (.iinc 12 1, 3) := by decide +kernel
theorem dX9_inverse_84 : decode cX9_inverse 84 = .ok (.goto (-61), 3) := by decide +kernel
theorem dX9_inverse_87 : decode cX9_inverse 87 = .ok (.lload 8, 2) := by decide +kernel
theorem dX9_inverse_89 : decode cX9_inverse 89 = .ok (.lload_n 2, 1) := by decide +kernel
theorem dX9_inverse_90 : decode cX9_inverse 90 = .ok (.invokestatic 424, 3) := by decide +kernel
theorem dX9_inverse_93 : decode cX9_inverse 93 = .ok (.lreturn, 1) := by decide +kernel
set_option maxRecDepth 20000 in
set_option maxHeartbeats 2000000 in
theorem V_X9_inverse_0 {X : Ctx} (C : C_X9_inverse X) {k n : Nat} {Q : Pq} {h : Hp} {v0 v2 : Int64}
    (hv : ((0 < v2 → Wj X k n Q 23 [(2, .long v2), (4, .long v2), (6, .long v0), (8, .long 0), (10, .long 1), (12, .int 0)] [] h) ∧
    (¬ 0 < v2 → Q (some (.long 0)) h))) :
    Wj X k n Q 0 [(0, .long v0), (2, .long v2)] [] h := by
  refine w_lload_n (pc := 0) C dX9_inverse_0 rfl ?_
  refine w_lconst (pc := 1) C (v := 0) dX9_inverse_1 (by decide) ?_
  refine w_lcmp_gt (pc := 2) C (tgt := 8) dX9_inverse_2 dX9_inverse_3 (by decide) ?_
  obtain ⟨hv1, hv2⟩ := hv
  refine ⟨fun c1 => ?_, fun c1 => ?_⟩
  · have hv := hv1 c1
    refine w_lload_n (pc := 8) C dX9_inverse_8 rfl ?_
    refine w_lstore (pc := 9) C dX9_inverse_9 (by decide) ?_
    refine w_lload_n (pc := 11) C dX9_inverse_11 rfl ?_
    refine w_lstore (pc := 12) C dX9_inverse_12 (by decide) ?_
    refine w_lconst (pc := 14) C (v := 0) dX9_inverse_14 (by decide) ?_
    refine w_lstore (pc := 15) C dX9_inverse_15 (by decide) ?_
    refine w_lconst (pc := 17) C (v := 1) dX9_inverse_17 (by decide) ?_
    refine w_lstore (pc := 18) C dX9_inverse_18 (by decide) ?_
    refine w_iconst (pc := 20) C (v := 0) dX9_inverse_20 (by decide) ?_
    refine w_istore (pc := 21) C dX9_inverse_21 (by decide) ?_
    refine w_sub ?_ hv
    exact ⟨rfl, rfl, rfl, rfl, rfl, rfl, trivial⟩
  · have hv := hv2 c1
    refine w_lconst (pc := 6) C (v := 0) dX9_inverse_6 (by decide) ?_
    exact w_lret (pc := 7) C dX9_inverse_7 hv
set_option maxRecDepth 20000 in
set_option maxHeartbeats 2000000 in
theorem V_X9_inverse_23 {X : Ctx} (C : C_X9_inverse X) {k n : Nat} {Q : Pq} {h : Hp} {v2 v4 v6 v8 v10 : Int64} {v12 : Int32}
    (hv : ((200 ≤ v12 → Wj X k n Q 87 [(2, .long v2), (8, .long v8)] [] h) ∧
    (¬ 200 ≤ v12 → ((v6 = 0 → Wj X k n Q 87 [(2, .long v2), (8, .long v8)] [] h) ∧
    (¬ v6 = 0 → ¬ v6 = 0 ∧ Wj X k n Q 23 [(2, .long v2), (4, .long v6), (6, .long (v4 - ((v4 / v6) * v6))), (8, .long v10), (10, .long (v8 - ((v4 / v6) * v10))), (12, .int (v12 + Int32.ofInt 1))] [] h))))) :
    Wj X k n Q 23 [(2, .long v2), (4, .long v4), (6, .long v6), (8, .long v8), (10, .long v10), (12, .int v12)] [] h := by
  refine w_iload (pc := 23) C dX9_inverse_23 rfl ?_
  refine w_sipush (pc := 25) C (v := 200) dX9_inverse_25 (by decide) ?_
  refine w_icmp_ge (pc := 28) C (tgt := 87) dX9_inverse_28 (by decide) ?_
  obtain ⟨hv1, hv2⟩ := hv
  refine ⟨fun c3 => ?_, fun c3 => ?_⟩
  · have hv := hv1 c3
    refine w_sub ?_ hv
    exact ⟨rfl, rfl, trivial⟩
  · have hv := hv2 c3
    refine w_lload (pc := 31) C dX9_inverse_31 rfl ?_
    refine w_lconst (pc := 33) C (v := 0) dX9_inverse_33 (by decide) ?_
    refine w_lcmp_eq (pc := 34) C (tgt := 87) dX9_inverse_34 dX9_inverse_35 (by decide) ?_
    obtain ⟨hv1, hv2⟩ := hv
    refine ⟨fun c2 => ?_, fun c2 => ?_⟩
    · have hv := hv1 c2
      refine w_sub ?_ hv
      exact ⟨rfl, rfl, trivial⟩
    · have hv := hv2 c2
      refine w_lload (pc := 38) C dX9_inverse_38 rfl ?_
      refine w_lload (pc := 40) C dX9_inverse_40 rfl ?_
      obtain ⟨f1, hv⟩ := hv
      refine w_ldiv (pc := 42) C dX9_inverse_42 f1 ?_
      refine w_lstore (pc := 43) C dX9_inverse_43 (by decide) ?_
      refine w_lload (pc := 45) C dX9_inverse_45 rfl ?_
      refine w_lload (pc := 47) C dX9_inverse_47 rfl ?_
      refine w_lload (pc := 49) C dX9_inverse_49 rfl ?_
      refine w_lmul (pc := 51) C dX9_inverse_51 ?_
      refine w_lsub (pc := 52) C dX9_inverse_52 ?_
      refine w_lstore (pc := 53) C dX9_inverse_53 (by decide) ?_
      refine w_lload (pc := 55) C dX9_inverse_55 rfl ?_
      refine w_lstore (pc := 57) C dX9_inverse_57 (by decide) ?_
      refine w_lload (pc := 59) C dX9_inverse_59 rfl ?_
      refine w_lstore (pc := 61) C dX9_inverse_61 (by decide) ?_
      refine w_lload (pc := 63) C dX9_inverse_63 rfl ?_
      refine w_lload (pc := 65) C dX9_inverse_65 rfl ?_
      refine w_lload (pc := 67) C dX9_inverse_67 rfl ?_
      refine w_lmul (pc := 69) C dX9_inverse_69 ?_
      refine w_lsub (pc := 70) C dX9_inverse_70 ?_
      refine w_lstore (pc := 71) C dX9_inverse_71 (by decide) ?_
      refine w_lload (pc := 73) C dX9_inverse_73 rfl ?_
      refine w_lstore (pc := 75) C dX9_inverse_75 (by decide) ?_
      refine w_lload (pc := 77) C dX9_inverse_77 rfl ?_
      refine w_lstore (pc := 79) C dX9_inverse_79 (by decide) ?_
      refine w_iinc (pc := 81) C dX9_inverse_81 rfl (by decide) ?_
      refine w_goto (pc := 84) C (tgt := 23) dX9_inverse_84 (by decide) ?_
      refine w_sub ?_ hv
      exact ⟨rfl, rfl, rfl, rfl, rfl, rfl, trivial⟩
set_option maxRecDepth 20000 in
set_option maxHeartbeats 2000000 in
theorem V_X9_inverse_87 {X : Ctx} (C : C_X9_inverse X) {k n : Nat} {Q : Pq} {h : Hp} {v2 v8 : Int64}
    (hv : S_J9_floorMod_f86c9 (lX X) (dtX X) 0 0 [.long v8, .long v2] h (QL fun x2 h1 =>
    Q (some (.long x2)) h1)) :
    Wj X k n Q 87 [(2, .long v2), (8, .long v8)] [] h := by
  refine w_lload (pc := 87) C dX9_inverse_87 rfl ?_
  refine w_lload_n (pc := 89) C dX9_inverse_89 rfl ?_
  refine w_cS0_2 (pc := 90) C cl_X9_424 ls_J9_floorMod_f86c9 (by decide) dX9_inverse_90 (Nat.le_of_ble_eq_true rfl) (hv.mono (fun v h1 hp => ?_))
  obtain ⟨x2, rfl, hv⟩ := hp
  exact w_lret (pc := 93) C dX9_inverse_93 hv
theorem dX9_treeSteps_0 : decode cX9_treeSteps 0 = .ok (.lload_n 0, 1) := by decide +kernel
theorem dX9_treeSteps_1 : decode cX9_treeSteps 1 = .ok (.lconst 0, 1) := by decide +kernel
theorem dX9_treeSteps_2 : decode cX9_treeSteps 2 = .ok (.lcmp, 1) := by decide +kernel
theorem dX9_treeSteps_3 : decode cX9_treeSteps 3 = .ok (.ifCond .ne 5, 3) := by decide +kernel
theorem dX9_treeSteps_6 : decode cX9_treeSteps 6 = .ok (.iconst 0, 1) := by decide +kernel
theorem dX9_treeSteps_7 : decode cX9_treeSteps 7 = .ok (.ireturn, 1) := by decide +kernel
theorem dX9_treeSteps_8 : decode cX9_treeSteps 8 = .ok (.lconst 0, 1) := by decide +kernel
theorem dX9_treeSteps_9 : decode cX9_treeSteps 9 = .ok (.lstore 4, 2) := by decide +kernel
theorem dX9_treeSteps_11 : decode cX9_treeSteps 11 = .ok (.lload_n 0, 1) := by decide +kernel
theorem dX9_treeSteps_12 : decode cX9_treeSteps 12 = .ok (.lstore 6, 2) := by decide +kernel
theorem dX9_treeSteps_14 : decode cX9_treeSteps 14 = .ok (.lload_n 2, 1) := by decide +kernel
theorem dX9_treeSteps_15 : decode cX9_treeSteps 15 = .ok (.lstore 8, 2) := by decide +kernel
theorem dX9_treeSteps_17 : decode cX9_treeSteps 17 = .ok (.iconst 0, 1) := by decide +kernel
theorem dX9_treeSteps_18 : decode cX9_treeSteps 18 = .ok (.istore 10, 2) := by decide +kernel
theorem dX9_treeSteps_20 : decode cX9_treeSteps 20 = .ok (.iload 10, 2) := by decide +kernel
theorem dX9_treeSteps_22 : decode cX9_treeSteps 22 = .ok (.sipush 200, 3) := by decide +kernel
theorem dX9_treeSteps_25 : decode cX9_treeSteps 25 = .ok (.if_icmp .ge 41, 3) := by decide +kernel
theorem dX9_treeSteps_28 : decode cX9_treeSteps 28 = .ok (.lload 8, 2) := by decide +kernel
theorem dX9_treeSteps_30 : decode cX9_treeSteps 30 = .ok (.lconst 0, 1) := by decide +kernel
theorem dX9_treeSteps_31 : decode cX9_treeSteps 31 = .ok (.lcmp, 1) := by decide +kernel
theorem dX9_treeSteps_32 : decode cX9_treeSteps 32 = .ok (.ifCond .eq 34, 3) := by decide +kernel
theorem dX9_treeSteps_35 : decode cX9_treeSteps 35 = .ok (.lload 4, 2) := by decide +kernel
theorem dX9_treeSteps_37 : decode cX9_treeSteps 37 = .ok (.lload 6, 2) := by decide +kernel
theorem dX9_treeSteps_39 : decode cX9_treeSteps 39 = .ok (.lload 8, 2) := by decide +kernel
theorem dX9_treeSteps_41 : decode cX9_treeSteps 41 = .ok (.ldiv, 1) := by decide +kernel
theorem dX9_treeSteps_42 : decode cX9_treeSteps 42 = .ok (.ladd, 1) := by decide +kernel
theorem dX9_treeSteps_43 : decode cX9_treeSteps 43 = .ok (.lstore 4, 2) := by decide +kernel
theorem dX9_treeSteps_45 : decode cX9_treeSteps 45 = .ok (.lload 6, 2) := by decide +kernel
theorem dX9_treeSteps_47 : decode cX9_treeSteps 47 = .ok (.lload 8, 2) := by decide +kernel
theorem dX9_treeSteps_49 : decode cX9_treeSteps 49 = .ok (.lrem, 1) := by decide +kernel
theorem dX9_treeSteps_50 : decode cX9_treeSteps 50 = .ok (.lstore 11, 2) := by decide +kernel
theorem dX9_treeSteps_52 : decode cX9_treeSteps 52 = .ok (.lload 8, 2) := by decide +kernel
theorem dX9_treeSteps_54 : decode cX9_treeSteps 54 = .ok (.lstore 6, 2) := by decide +kernel
theorem dX9_treeSteps_56 : decode cX9_treeSteps 56 = .ok (.lload 11, 2) := by decide +kernel
theorem dX9_treeSteps_58 : decode cX9_treeSteps 58 = .ok (.lstore 8, 2) := by decide +kernel
theorem dX9_treeSteps_60 : decode cX9_treeSteps 60 = .ok (.iinc 10 1, 3) := by decide +kernel
theorem dX9_treeSteps_63 : decode cX9_treeSteps 63 = .ok (.goto (-43), 3) := by decide +kernel
theorem dX9_treeSteps_66 : decode cX9_treeSteps 66 = .ok (.lload 4, 2) := by decide +kernel
theorem dX9_treeSteps_68 : decode cX9_treeSteps 68 = .ok (.lconst 1, 1) := by decide +kernel
theorem dX9_treeSteps_69 : decode cX9_treeSteps 69 = .ok (.lsub, 1) := by decide +kernel
theorem dX9_treeSteps_70 : decode cX9_treeSteps 70 = .ok (.l2i, 1) := by decide +kernel
theorem dX9_treeSteps_71 : decode cX9_treeSteps 71 = .ok (.ireturn, 1) := by decide +kernel
set_option maxRecDepth 20000 in
set_option maxHeartbeats 2000000 in
theorem V_X9_treeSteps_0 {X : Ctx} (C : C_X9_treeSteps X) {k n : Nat} {Q : Pq} {h : Hp} {v0 v2 : Int64}
    (hv : ((¬ v0 = 0 → Wj X k n Q 20 [(4, .long 0), (6, .long v0), (8, .long v2), (10, .int 0)] [] h) ∧
    (v0 = 0 → Q (some (.int 0)) h))) :
    Wj X k n Q 0 [(0, .long v0), (2, .long v2)] [] h := by
  refine w_lload_n (pc := 0) C dX9_treeSteps_0 rfl ?_
  refine w_lconst (pc := 1) C (v := 0) dX9_treeSteps_1 (by decide) ?_
  refine w_lcmp_ne (pc := 2) C (tgt := 8) dX9_treeSteps_2 dX9_treeSteps_3 (by decide) ?_
  obtain ⟨hv1, hv2⟩ := hv
  refine ⟨fun c1 => ?_, fun c1 => ?_⟩
  · have hv := hv1 c1
    refine w_lconst (pc := 8) C (v := 0) dX9_treeSteps_8 (by decide) ?_
    refine w_lstore (pc := 9) C dX9_treeSteps_9 (by decide) ?_
    refine w_lload_n (pc := 11) C dX9_treeSteps_11 rfl ?_
    refine w_lstore (pc := 12) C dX9_treeSteps_12 (by decide) ?_
    refine w_lload_n (pc := 14) C dX9_treeSteps_14 rfl ?_
    refine w_lstore (pc := 15) C dX9_treeSteps_15 (by decide) ?_
    refine w_iconst (pc := 17) C (v := 0) dX9_treeSteps_17 (by decide) ?_
    refine w_istore (pc := 18) C dX9_treeSteps_18 (by decide) ?_
    refine w_sub ?_ hv
    exact ⟨rfl, rfl, rfl, rfl, trivial⟩
  · have hv := hv2 c1
    refine w_iconst (pc := 6) C (v := 0) dX9_treeSteps_6 (by decide) ?_
    exact w_iret (pc := 7) C dX9_treeSteps_7 hv
set_option maxRecDepth 20000 in
set_option maxHeartbeats 2000000 in
theorem V_X9_treeSteps_20 {X : Ctx} (C : C_X9_treeSteps X) {k n : Nat} {Q : Pq} {h : Hp} {v4 v6 v8 : Int64} {v10 : Int32}
    (hv : ((200 ≤ v10 → Q (some (.int (Int64.toInt32 (v4 - 1)))) h) ∧
    (¬ 200 ≤ v10 → ((v8 = 0 → Q (some (.int (Int64.toInt32 (v4 - 1)))) h) ∧
    (¬ v8 = 0 → ¬ v8 = 0 ∧ Wj X k n Q 20 [(4, .long (v4 + (v6 / v8))), (6, .long v8), (8, .long (v6 % v8)), (10, .int (v10 + Int32.ofInt 1))] [] h))))) :
    Wj X k n Q 20 [(4, .long v4), (6, .long v6), (8, .long v8), (10, .int v10)] [] h := by
  refine w_iload (pc := 20) C dX9_treeSteps_20 rfl ?_
  refine w_sipush (pc := 22) C (v := 200) dX9_treeSteps_22 (by decide) ?_
  refine w_icmp_ge (pc := 25) C (tgt := 66) dX9_treeSteps_25 (by decide) ?_
  obtain ⟨hv1, hv2⟩ := hv
  refine ⟨fun c3 => ?_, fun c3 => ?_⟩
  · have hv := hv1 c3
    refine w_lload (pc := 66) C dX9_treeSteps_66 rfl ?_
    refine w_lconst (pc := 68) C (v := 1) dX9_treeSteps_68 (by decide) ?_
    refine w_lsub (pc := 69) C dX9_treeSteps_69 ?_
    refine w_l2i (pc := 70) C dX9_treeSteps_70 ?_
    exact w_iret (pc := 71) C dX9_treeSteps_71 hv
  · have hv := hv2 c3
    refine w_lload (pc := 28) C dX9_treeSteps_28 rfl ?_
    refine w_lconst (pc := 30) C (v := 0) dX9_treeSteps_30 (by decide) ?_
    refine w_lcmp_eq (pc := 31) C (tgt := 66) dX9_treeSteps_31 dX9_treeSteps_32 (by decide) ?_
    obtain ⟨hv1, hv2⟩ := hv
    refine ⟨fun c2 => ?_, fun c2 => ?_⟩
    · have hv := hv1 c2
      refine w_lload (pc := 66) C dX9_treeSteps_66 rfl ?_
      refine w_lconst (pc := 68) C (v := 1) dX9_treeSteps_68 (by decide) ?_
      refine w_lsub (pc := 69) C dX9_treeSteps_69 ?_
      refine w_l2i (pc := 70) C dX9_treeSteps_70 ?_
      exact w_iret (pc := 71) C dX9_treeSteps_71 hv
    · have hv := hv2 c2
      refine w_lload (pc := 35) C dX9_treeSteps_35 rfl ?_
      refine w_lload (pc := 37) C dX9_treeSteps_37 rfl ?_
      refine w_lload (pc := 39) C dX9_treeSteps_39 rfl ?_
      obtain ⟨f1, hv⟩ := hv
      refine w_ldiv (pc := 41) C dX9_treeSteps_41 f1 ?_
      refine w_ladd (pc := 42) C dX9_treeSteps_42 ?_
      refine w_lstore (pc := 43) C dX9_treeSteps_43 (by decide) ?_
      refine w_lload (pc := 45) C dX9_treeSteps_45 rfl ?_
      refine w_lload (pc := 47) C dX9_treeSteps_47 rfl ?_
      refine w_lrem (pc := 49) C dX9_treeSteps_49 f1 ?_
      refine w_lstore (pc := 50) C dX9_treeSteps_50 (by decide) ?_
      refine w_lload (pc := 52) C dX9_treeSteps_52 rfl ?_
      refine w_lstore (pc := 54) C dX9_treeSteps_54 (by decide) ?_
      refine w_lload (pc := 56) C dX9_treeSteps_56 rfl ?_
      refine w_lstore (pc := 58) C dX9_treeSteps_58 (by decide) ?_
      refine w_iinc (pc := 60) C dX9_treeSteps_60 rfl (by decide) ?_
      refine w_goto (pc := 63) C (tgt := 20) dX9_treeSteps_63 (by decide) ?_
      refine w_sub ?_ hv
      exact ⟨rfl, rfl, rfl, rfl, trivial⟩
theorem dX9_lengthOfAct_0 : decode cX9_lengthOfAct 0 = .ok (.iload_n 0, 1) := by decide +kernel
theorem dX9_lengthOfAct_1 : decode cX9_lengthOfAct 1 = .ok (.tableswitch 112 98 119 #[107, 103, 112, 112, 112, 109, 112, 112, 112, 112, 112, 112, 112, 103, 112, 112, 112, 112, 107, 105, 112, 103], 103) := by decide +kernel
theorem dX9_lengthOfAct_104 : decode cX9_lengthOfAct 104 = .ok (.iconst 1, 1) := by decide +kernel
theorem dX9_lengthOfAct_105 : decode cX9_lengthOfAct 105 = .ok (.ireturn, 1) := by decide +kernel
theorem dX9_lengthOfAct_106 : decode cX9_lengthOfAct 106 = .ok (.iconst 3, 1) := by decide +kernel
theorem dX9_lengthOfAct_107 : decode cX9_lengthOfAct 107 = .ok (.ireturn, 1) := by decide +kernel
theorem dX9_lengthOfAct_108 : decode cX9_lengthOfAct 108 = .ok (.iconst 5, 1) := by decide +kernel
theorem dX9_lengthOfAct_109 : decode cX9_lengthOfAct 109 = .ok (.ireturn, 1) := by decide +kernel
theorem dX9_lengthOfAct_110 : decode cX9_lengthOfAct 110 = .ok (.bipush 6, 2) := by decide +kernel
theorem dX9_lengthOfAct_112 : decode cX9_lengthOfAct 112 = .ok (.ireturn, 1) := by decide +kernel
theorem dX9_lengthOfAct_113 : decode cX9_lengthOfAct 113 = .ok (.iconst 0, 1) := by decide +kernel
theorem dX9_lengthOfAct_114 : decode cX9_lengthOfAct 114 = .ok (.ireturn, 1) := by decide +kernel
set_option maxRecDepth 20000 in
set_option maxHeartbeats 2000000 in
theorem V_X9_lengthOfAct_0 {X : Ctx} (C : C_X9_lengthOfAct X) {k n : Nat} {Q : Pq} {h : Hp} {v0 : Int32}
    (hv : 
    ((v0 = 98 → Q (some (.int 5)) h) ∧
     (v0 = 99 → Q (some (.int 1)) h) ∧
     (v0 = 100 → Q (some (.int 0)) h) ∧
     (v0 = 101 → Q (some (.int 0)) h) ∧
     (v0 = 102 → Q (some (.int 0)) h) ∧
     (v0 = 103 → Q (some (.int 6)) h) ∧
     (v0 = 104 → Q (some (.int 0)) h) ∧
     (v0 = 105 → Q (some (.int 0)) h) ∧
     (v0 = 106 → Q (some (.int 0)) h) ∧
     (v0 = 107 → Q (some (.int 0)) h) ∧
     (v0 = 108 → Q (some (.int 0)) h) ∧
     (v0 = 109 → Q (some (.int 0)) h) ∧
     (v0 = 110 → Q (some (.int 0)) h) ∧
     (v0 = 111 → Q (some (.int 1)) h) ∧
     (v0 = 112 → Q (some (.int 0)) h) ∧
     (v0 = 113 → Q (some (.int 0)) h) ∧
     (v0 = 114 → Q (some (.int 0)) h) ∧
     (v0 = 115 → Q (some (.int 0)) h) ∧
     (v0 = 116 → Q (some (.int 5)) h) ∧
     (v0 = 117 → Q (some (.int 3)) h) ∧
     (v0 = 118 → Q (some (.int 0)) h) ∧
     (v0 = 119 → Q (some (.int 1)) h) ∧
     (¬ v0 = 98 → ¬ v0 = 99 → ¬ v0 = 100 → ¬ v0 = 101 → ¬ v0 = 102 → ¬ v0 = 103 → ¬ v0 = 104 → ¬ v0 = 105 → ¬ v0 = 106 → ¬ v0 = 107 → ¬ v0 = 108 → ¬ v0 = 109 → ¬ v0 = 110 → ¬ v0 = 111 → ¬ v0 = 112 → ¬ v0 = 113 → ¬ v0 = 114 → ¬ v0 = 115 → ¬ v0 = 116 → ¬ v0 = 117 → ¬ v0 = 118 → ¬ v0 = 119 → Q (some (.int 0)) h))) :
    Wj X k n Q 0 [(0, .int v0)] [] h := by
  refine w_iload_n (pc := 0) C dX9_lengthOfAct_0 rfl ?_
  by_cases c1 : v0 = 98
  · obtain ⟨hv, -⟩ := hv
    have hv := hv c1
    refine w_tswIn (pc := 1) (tgt := 108) (off := 107) C dX9_lengthOfAct_1 (by rw [c1]; decide) (by rw [c1]; decide) (by rw [c1]; decide) (by decide) ?_
    refine w_iconst (pc := 108) C (v := 5) dX9_lengthOfAct_108 (by decide) ?_
    exact w_iret (pc := 109) C dX9_lengthOfAct_109 hv
  obtain ⟨-, hv⟩ := hv
  by_cases c2 : v0 = 99
  · obtain ⟨hv, -⟩ := hv
    have hv := hv c2
    refine w_tswIn (pc := 1) (tgt := 104) (off := 103) C dX9_lengthOfAct_1 (by rw [c2]; decide) (by rw [c2]; decide) (by rw [c2]; decide) (by decide) ?_
    refine w_iconst (pc := 104) C (v := 1) dX9_lengthOfAct_104 (by decide) ?_
    exact w_iret (pc := 105) C dX9_lengthOfAct_105 hv
  obtain ⟨-, hv⟩ := hv
  by_cases c3 : v0 = 100
  · obtain ⟨hv, -⟩ := hv
    have hv := hv c3
    refine w_tswIn (pc := 1) (tgt := 113) (off := 112) C dX9_lengthOfAct_1 (by rw [c3]; decide) (by rw [c3]; decide) (by rw [c3]; decide) (by decide) ?_
    refine w_iconst (pc := 113) C (v := 0) dX9_lengthOfAct_113 (by decide) ?_
    exact w_iret (pc := 114) C dX9_lengthOfAct_114 hv
  obtain ⟨-, hv⟩ := hv
  by_cases c4 : v0 = 101
  · obtain ⟨hv, -⟩ := hv
    have hv := hv c4
    refine w_tswIn (pc := 1) (tgt := 113) (off := 112) C dX9_lengthOfAct_1 (by rw [c4]; decide) (by rw [c4]; decide) (by rw [c4]; decide) (by decide) ?_
    refine w_iconst (pc := 113) C (v := 0) dX9_lengthOfAct_113 (by decide) ?_
    exact w_iret (pc := 114) C dX9_lengthOfAct_114 hv
  obtain ⟨-, hv⟩ := hv
  by_cases c5 : v0 = 102
  · obtain ⟨hv, -⟩ := hv
    have hv := hv c5
    refine w_tswIn (pc := 1) (tgt := 113) (off := 112) C dX9_lengthOfAct_1 (by rw [c5]; decide) (by rw [c5]; decide) (by rw [c5]; decide) (by decide) ?_
    refine w_iconst (pc := 113) C (v := 0) dX9_lengthOfAct_113 (by decide) ?_
    exact w_iret (pc := 114) C dX9_lengthOfAct_114 hv
  obtain ⟨-, hv⟩ := hv
  by_cases c6 : v0 = 103
  · obtain ⟨hv, -⟩ := hv
    have hv := hv c6
    refine w_tswIn (pc := 1) (tgt := 110) (off := 109) C dX9_lengthOfAct_1 (by rw [c6]; decide) (by rw [c6]; decide) (by rw [c6]; decide) (by decide) ?_
    refine w_bipush (pc := 110) C (v := 6) dX9_lengthOfAct_110 (by decide) ?_
    exact w_iret (pc := 112) C dX9_lengthOfAct_112 hv
  obtain ⟨-, hv⟩ := hv
  by_cases c7 : v0 = 104
  · obtain ⟨hv, -⟩ := hv
    have hv := hv c7
    refine w_tswIn (pc := 1) (tgt := 113) (off := 112) C dX9_lengthOfAct_1 (by rw [c7]; decide) (by rw [c7]; decide) (by rw [c7]; decide) (by decide) ?_
    refine w_iconst (pc := 113) C (v := 0) dX9_lengthOfAct_113 (by decide) ?_
    exact w_iret (pc := 114) C dX9_lengthOfAct_114 hv
  obtain ⟨-, hv⟩ := hv
  by_cases c8 : v0 = 105
  · obtain ⟨hv, -⟩ := hv
    have hv := hv c8
    refine w_tswIn (pc := 1) (tgt := 113) (off := 112) C dX9_lengthOfAct_1 (by rw [c8]; decide) (by rw [c8]; decide) (by rw [c8]; decide) (by decide) ?_
    refine w_iconst (pc := 113) C (v := 0) dX9_lengthOfAct_113 (by decide) ?_
    exact w_iret (pc := 114) C dX9_lengthOfAct_114 hv
  obtain ⟨-, hv⟩ := hv
  by_cases c9 : v0 = 106
  · obtain ⟨hv, -⟩ := hv
    have hv := hv c9
    refine w_tswIn (pc := 1) (tgt := 113) (off := 112) C dX9_lengthOfAct_1 (by rw [c9]; decide) (by rw [c9]; decide) (by rw [c9]; decide) (by decide) ?_
    refine w_iconst (pc := 113) C (v := 0) dX9_lengthOfAct_113 (by decide) ?_
    exact w_iret (pc := 114) C dX9_lengthOfAct_114 hv
  obtain ⟨-, hv⟩ := hv
  by_cases c10 : v0 = 107
  · obtain ⟨hv, -⟩ := hv
    have hv := hv c10
    refine w_tswIn (pc := 1) (tgt := 113) (off := 112) C dX9_lengthOfAct_1 (by rw [c10]; decide) (by rw [c10]; decide) (by rw [c10]; decide) (by decide) ?_
    refine w_iconst (pc := 113) C (v := 0) dX9_lengthOfAct_113 (by decide) ?_
    exact w_iret (pc := 114) C dX9_lengthOfAct_114 hv
  obtain ⟨-, hv⟩ := hv
  by_cases c11 : v0 = 108
  · obtain ⟨hv, -⟩ := hv
    have hv := hv c11
    refine w_tswIn (pc := 1) (tgt := 113) (off := 112) C dX9_lengthOfAct_1 (by rw [c11]; decide) (by rw [c11]; decide) (by rw [c11]; decide) (by decide) ?_
    refine w_iconst (pc := 113) C (v := 0) dX9_lengthOfAct_113 (by decide) ?_
    exact w_iret (pc := 114) C dX9_lengthOfAct_114 hv
  obtain ⟨-, hv⟩ := hv
  by_cases c12 : v0 = 109
  · obtain ⟨hv, -⟩ := hv
    have hv := hv c12
    refine w_tswIn (pc := 1) (tgt := 113) (off := 112) C dX9_lengthOfAct_1 (by rw [c12]; decide) (by rw [c12]; decide) (by rw [c12]; decide) (by decide) ?_
    refine w_iconst (pc := 113) C (v := 0) dX9_lengthOfAct_113 (by decide) ?_
    exact w_iret (pc := 114) C dX9_lengthOfAct_114 hv
  obtain ⟨-, hv⟩ := hv
  by_cases c13 : v0 = 110
  · obtain ⟨hv, -⟩ := hv
    have hv := hv c13
    refine w_tswIn (pc := 1) (tgt := 113) (off := 112) C dX9_lengthOfAct_1 (by rw [c13]; decide) (by rw [c13]; decide) (by rw [c13]; decide) (by decide) ?_
    refine w_iconst (pc := 113) C (v := 0) dX9_lengthOfAct_113 (by decide) ?_
    exact w_iret (pc := 114) C dX9_lengthOfAct_114 hv
  obtain ⟨-, hv⟩ := hv
  by_cases c14 : v0 = 111
  · obtain ⟨hv, -⟩ := hv
    have hv := hv c14
    refine w_tswIn (pc := 1) (tgt := 104) (off := 103) C dX9_lengthOfAct_1 (by rw [c14]; decide) (by rw [c14]; decide) (by rw [c14]; decide) (by decide) ?_
    refine w_iconst (pc := 104) C (v := 1) dX9_lengthOfAct_104 (by decide) ?_
    exact w_iret (pc := 105) C dX9_lengthOfAct_105 hv
  obtain ⟨-, hv⟩ := hv
  by_cases c15 : v0 = 112
  · obtain ⟨hv, -⟩ := hv
    have hv := hv c15
    refine w_tswIn (pc := 1) (tgt := 113) (off := 112) C dX9_lengthOfAct_1 (by rw [c15]; decide) (by rw [c15]; decide) (by rw [c15]; decide) (by decide) ?_
    refine w_iconst (pc := 113) C (v := 0) dX9_lengthOfAct_113 (by decide) ?_
    exact w_iret (pc := 114) C dX9_lengthOfAct_114 hv
  obtain ⟨-, hv⟩ := hv
  by_cases c16 : v0 = 113
  · obtain ⟨hv, -⟩ := hv
    have hv := hv c16
    refine w_tswIn (pc := 1) (tgt := 113) (off := 112) C dX9_lengthOfAct_1 (by rw [c16]; decide) (by rw [c16]; decide) (by rw [c16]; decide) (by decide) ?_
    refine w_iconst (pc := 113) C (v := 0) dX9_lengthOfAct_113 (by decide) ?_
    exact w_iret (pc := 114) C dX9_lengthOfAct_114 hv
  obtain ⟨-, hv⟩ := hv
  by_cases c17 : v0 = 114
  · obtain ⟨hv, -⟩ := hv
    have hv := hv c17
    refine w_tswIn (pc := 1) (tgt := 113) (off := 112) C dX9_lengthOfAct_1 (by rw [c17]; decide) (by rw [c17]; decide) (by rw [c17]; decide) (by decide) ?_
    refine w_iconst (pc := 113) C (v := 0) dX9_lengthOfAct_113 (by decide) ?_
    exact w_iret (pc := 114) C dX9_lengthOfAct_114 hv
  obtain ⟨-, hv⟩ := hv
  by_cases c18 : v0 = 115
  · obtain ⟨hv, -⟩ := hv
    have hv := hv c18
    refine w_tswIn (pc := 1) (tgt := 113) (off := 112) C dX9_lengthOfAct_1 (by rw [c18]; decide) (by rw [c18]; decide) (by rw [c18]; decide) (by decide) ?_
    refine w_iconst (pc := 113) C (v := 0) dX9_lengthOfAct_113 (by decide) ?_
    exact w_iret (pc := 114) C dX9_lengthOfAct_114 hv
  obtain ⟨-, hv⟩ := hv
  by_cases c19 : v0 = 116
  · obtain ⟨hv, -⟩ := hv
    have hv := hv c19
    refine w_tswIn (pc := 1) (tgt := 108) (off := 107) C dX9_lengthOfAct_1 (by rw [c19]; decide) (by rw [c19]; decide) (by rw [c19]; decide) (by decide) ?_
    refine w_iconst (pc := 108) C (v := 5) dX9_lengthOfAct_108 (by decide) ?_
    exact w_iret (pc := 109) C dX9_lengthOfAct_109 hv
  obtain ⟨-, hv⟩ := hv
  by_cases c20 : v0 = 117
  · obtain ⟨hv, -⟩ := hv
    have hv := hv c20
    refine w_tswIn (pc := 1) (tgt := 106) (off := 105) C dX9_lengthOfAct_1 (by rw [c20]; decide) (by rw [c20]; decide) (by rw [c20]; decide) (by decide) ?_
    refine w_iconst (pc := 106) C (v := 3) dX9_lengthOfAct_106 (by decide) ?_
    exact w_iret (pc := 107) C dX9_lengthOfAct_107 hv
  obtain ⟨-, hv⟩ := hv
  by_cases c21 : v0 = 118
  · obtain ⟨hv, -⟩ := hv
    have hv := hv c21
    refine w_tswIn (pc := 1) (tgt := 113) (off := 112) C dX9_lengthOfAct_1 (by rw [c21]; decide) (by rw [c21]; decide) (by rw [c21]; decide) (by decide) ?_
    refine w_iconst (pc := 113) C (v := 0) dX9_lengthOfAct_113 (by decide) ?_
    exact w_iret (pc := 114) C dX9_lengthOfAct_114 hv
  obtain ⟨-, hv⟩ := hv
  by_cases c22 : v0 = 119
  · obtain ⟨hv, -⟩ := hv
    have hv := hv c22
    refine w_tswIn (pc := 1) (tgt := 104) (off := 103) C dX9_lengthOfAct_1 (by rw [c22]; decide) (by rw [c22]; decide) (by rw [c22]; decide) (by decide) ?_
    refine w_iconst (pc := 104) C (v := 1) dX9_lengthOfAct_104 (by decide) ?_
    exact w_iret (pc := 105) C dX9_lengthOfAct_105 hv
  obtain ⟨-, hv⟩ := hv
  have hv := hv c1 c2 c3 c4 c5 c6 c7 c8 c9 c10 c11 c12 c13 c14 c15 c16 c17 c18 c19 c20 c21 c22
  refine w_tswOut (pc := 1) (tgt := 113) C dX9_lengthOfAct_1 ?_ (by decide) ?_
  · have e0 := lv_neT (a := 98) c1 rfl; have e1 := lv_neT (a := 99) c2 rfl; have e2 := lv_neT (a := 100) c3 rfl; have e3 := lv_neT (a := 101) c4 rfl; have e4 := lv_neT (a := 102) c5 rfl; have e5 := lv_neT (a := 103) c6 rfl; have e6 := lv_neT (a := 104) c7 rfl; have e7 := lv_neT (a := 105) c8 rfl; have e8 := lv_neT (a := 106) c9 rfl; have e9 := lv_neT (a := 107) c10 rfl; have e10 := lv_neT (a := 108) c11 rfl; have e11 := lv_neT (a := 109) c12 rfl; have e12 := lv_neT (a := 110) c13 rfl; have e13 := lv_neT (a := 111) c14 rfl; have e14 := lv_neT (a := 112) c15 rfl; have e15 := lv_neT (a := 113) c16 rfl; have e16 := lv_neT (a := 114) c17 rfl; have e17 := lv_neT (a := 115) c18 rfl; have e18 := lv_neT (a := 116) c19 rfl; have e19 := lv_neT (a := 117) c20 rfl; have e20 := lv_neT (a := 118) c21 rfl; have e21 := lv_neT (a := 119) c22 rfl; omega
  refine w_iconst (pc := 113) C (v := 0) dX9_lengthOfAct_113 (by decide) ?_
  exact w_iret (pc := 114) C dX9_lengthOfAct_114 hv
theorem dX10_in_0 : decode cX10_in 0 = .ok (.lload_n 0, 1) := by decide +kernel
theorem dX10_in_1 : decode cX10_in 1 = .ok (.lload_n 2, 1) := by decide +kernel
theorem dX10_in_2 : decode cX10_in 2 = .ok (.lcmp, 1) := by decide +kernel
theorem dX10_in_3 : decode cX10_in 3 = .ok (.ifCond .lt 14, 3) := by decide +kernel
theorem dX10_in_6 : decode cX10_in 6 = .ok (.lload_n 0, 1) := by decide +kernel
theorem dX10_in_7 : decode cX10_in 7 = .ok (.lload 4, 2) := by decide +kernel
theorem dX10_in_9 : decode cX10_in 9 = .ok (.lcmp, 1) := by decide +kernel
theorem dX10_in_10 : decode cX10_in 10 = .ok (.ifCond .gt 7, 3) := by decide +kernel
theorem dX10_in_13 : decode cX10_in 13 = .ok (.iconst 1, 1) := by decide +kernel
theorem dX10_in_14 : decode cX10_in 14 = .ok (.goto 4, 3) := by decide +kernel
theorem dX10_in_17 : decode cX10_in 17 = .ok (.iconst 0, 1) := by decide +kernel
theorem dX10_in_18 : decode cX10_in 18 = .ok (.ireturn, 1) := by decide +kernel
set_option maxRecDepth 20000 in
set_option maxHeartbeats 2000000 in
theorem V_X10_in_0 {X : Ctx} (C : C_X10_in X) {k n : Nat} {Q : Pq} {h : Hp} {v0 v2 v4 : Int64}
    (hv : ((v0 < v2 → Q (some (.int 0)) h) ∧
    (¬ v0 < v2 → ((v4 < v0 → Q (some (.int 0)) h) ∧
    (¬ v4 < v0 → Q (some (.int 1)) h))))) :
    Wj X k n Q 0 [(0, .long v0), (2, .long v2), (4, .long v4)] [] h := by
  refine w_lload_n (pc := 0) C dX10_in_0 rfl ?_
  refine w_lload_n (pc := 1) C dX10_in_1 rfl ?_
  refine w_lcmp_lt (pc := 2) C (tgt := 17) dX10_in_2 dX10_in_3 (by decide) ?_
  obtain ⟨hv1, hv2⟩ := hv
  refine ⟨fun c2 => ?_, fun c2 => ?_⟩
  · have hv := hv1 c2
    refine w_iconst (pc := 17) C (v := 0) dX10_in_17 (by decide) ?_
    exact w_zret (pc := 18) C dX10_in_18 (by decide) hv
  · have hv := hv2 c2
    refine w_lload_n (pc := 6) C dX10_in_6 rfl ?_
    refine w_lload (pc := 7) C dX10_in_7 rfl ?_
    refine w_lcmp_gt (pc := 9) C (tgt := 17) dX10_in_9 dX10_in_10 (by decide) ?_
    obtain ⟨hv1, hv2⟩ := hv
    refine ⟨fun c1 => ?_, fun c1 => ?_⟩
    · have hv := hv1 c1
      refine w_iconst (pc := 17) C (v := 0) dX10_in_17 (by decide) ?_
      exact w_zret (pc := 18) C dX10_in_18 (by decide) hv
    · have hv := hv2 c1
      refine w_iconst (pc := 13) C (v := 1) dX10_in_13 (by decide) ?_
      refine w_goto (pc := 14) C (tgt := 18) dX10_in_14 (by decide) ?_
      exact w_zret (pc := 18) C dX10_in_18 (by decide) hv
theorem dX10_flag_0 : decode cX10_flag 0 = .ok (.iload_n 0, 1) := by decide +kernel
theorem dX10_flag_1 : decode cX10_flag 1 = .ok (.ifCond .eq 7, 3) := by decide +kernel
theorem dX10_flag_4 : decode cX10_flag 4 = .ok (.iconst 1, 1) := by decide +kernel
theorem dX10_flag_5 : decode cX10_flag 5 = .ok (.goto 4, 3) := by decide +kernel
theorem dX10_flag_8 : decode cX10_flag 8 = .ok (.iconst 0, 1) := by decide +kernel
theorem dX10_flag_9 : decode cX10_flag 9 = .ok (.ireturn, 1) := by decide +kernel
set_option maxRecDepth 20000 in
set_option maxHeartbeats 2000000 in
theorem V_X10_flag_0 {X : Ctx} (C : C_X10_flag X) {k n : Nat} {Q : Pq} {h : Hp} {v0 : Int32}
    (hv : ((v0 = 0 → Q (some (.int 0)) h) ∧
    (¬ v0 = 0 → Q (some (.int 1)) h))) :
    Wj X k n Q 0 [(0, .int v0)] [] h := by
  refine w_iload_n (pc := 0) C dX10_flag_0 rfl ?_
  refine w_if_eq (pc := 1) C (tgt := 8) dX10_flag_1 (by decide) ?_
  obtain ⟨hv1, hv2⟩ := hv
  refine ⟨fun c1 => ?_, fun c1 => ?_⟩
  · have hv := hv1 c1
    refine w_iconst (pc := 8) C (v := 0) dX10_flag_8 (by decide) ?_
    exact w_iret (pc := 9) C dX10_flag_9 hv
  · have hv := hv2 c1
    refine w_iconst (pc := 4) C (v := 1) dX10_flag_4 (by decide) ?_
    refine w_goto (pc := 5) C (tgt := 9) dX10_flag_5 (by decide) ?_
    exact w_iret (pc := 9) C dX10_flag_9 hv
theorem dX10_common_0 : decode cX10_common 0 = .ok (.lload_n 0, 1) := by decide +kernel
theorem dX10_common_1 : decode cX10_common 1 = .ok (.lconst 0, 1) := by decide +kernel
theorem dX10_common_2 : decode cX10_common 2 = .ok (.lcmp, 1) := by decide +kernel
theorem dX10_common_3 : decode cX10_common 3 = .ok (.ifCond .ge 8, 3) := by decide +kernel
theorem dX10_common_6 : decode cX10_common 6 = .ok (.lload_n 0, 1) := by decide +kernel
theorem dX10_common_7 : decode cX10_common 7 = .ok (.lneg, 1) := by decide +kernel
theorem dX10_common_8 : decode cX10_common 8 = .ok (.goto 4, 3) := by decide +kernel
theorem dX10_common_11 : decode cX10_common 11 = .ok (.lload_n 0, 1) := by decide +kernel
theorem dX10_common_12 : decode cX10_common 12 = .ok (.lstore 4, 2) := by decide +kernel
theorem dX10_common_14 : decode cX10_common 14 = .ok (.lload_n 2, 1) := by decide +kernel
theorem dX10_common_15 : decode cX10_common 15 = .ok (.lstore 6, 2) := by decide +kernel
theorem dX10_common_17 : decode cX10_common 17 = .ok (.lload 6, 2) := by decide +kernel
theorem dX10_common_19 : decode cX10_common 19 = .ok (.lconst 0, 1) := by decide +kernel
theorem dX10_common_20 : decode cX10_common 20 = .ok (.lcmp, 1) := by decide +kernel
theorem dX10_common_21 : decode cX10_common 21 = .ok (.ifCond .eq 21, 3) := by decide +kernel
theorem dX10_common_24 : decode cX10_common 24 = .ok (.lload 4, 2) := by decide +kernel
theorem dX10_common_26 : decode cX10_common 26 = .ok (.lload 6, 2) := by decide +kernel
theorem dX10_common_28 : decode cX10_common 28 = .ok (.lrem, 1) := by decide +kernel
theorem dX10_common_29 : decode cX10_common 29 = .ok (.lstore 8, 2) := by decide +kernel
theorem dX10_common_31 : decode cX10_common 31 = .ok (.lload 6, 2) := by decide +kernel
theorem dX10_common_33 : decode cX10_common 33 = .ok (.lstore 4, 2) := by decide +kernel
theorem dX10_common_35 : decode cX10_common 35 = .ok (.lload 8, 2) := by decide +kernel
theorem dX10_common_37 : decode cX10_common 37 = .ok (.lstore 6, 2) := by decide +kernel
theorem dX10_common_39 : decode cX10_common 39 = .ok (.goto (-22), 3) := by decide +kernel
theorem dX10_common_42 : decode cX10_common 42 = .ok (.lload 4, 2) := by decide +kernel
theorem dX10_common_44 : decode cX10_common 44 = .ok (.lreturn, 1) := by decide +kernel
set_option maxRecDepth 20000 in
set_option maxHeartbeats 2000000 in
theorem V_X10_common_0 {X : Ctx} (C : C_X10_common X) {k n : Nat} {Q : Pq} {h : Hp} {v0 v2 : Int64}
    (hv : ((0 ≤ v0 → Wj X k n Q 17 [(4, .long v0), (6, .long v2)] [] h) ∧
    (¬ 0 ≤ v0 → Wj X k n Q 17 [(4, .long (-v0)), (6, .long v2)] [] h))) :
    Wj X k n Q 0 [(0, .long v0), (2, .long v2)] [] h := by
  refine w_lload_n (pc := 0) C dX10_common_0 rfl ?_
  refine w_lconst (pc := 1) C (v := 0) dX10_common_1 (by decide) ?_
  refine w_lcmp_ge (pc := 2) C (tgt := 11) dX10_common_2 dX10_common_3 (by decide) ?_
  obtain ⟨hv1, hv2⟩ := hv
  refine ⟨fun c1 => ?_, fun c1 => ?_⟩
  · have hv := hv1 c1
    refine w_lload_n (pc := 11) C dX10_common_11 rfl ?_
    refine w_lstore (pc := 12) C dX10_common_12 (by decide) ?_
    refine w_lload_n (pc := 14) C dX10_common_14 rfl ?_
    refine w_lstore (pc := 15) C dX10_common_15 (by decide) ?_
    refine w_sub ?_ hv
    exact ⟨rfl, rfl, trivial⟩
  · have hv := hv2 c1
    refine w_lload_n (pc := 6) C dX10_common_6 rfl ?_
    refine w_lneg (pc := 7) C dX10_common_7 ?_
    refine w_goto (pc := 8) C (tgt := 12) dX10_common_8 (by decide) ?_
    refine w_lstore (pc := 12) C dX10_common_12 (by decide) ?_
    refine w_lload_n (pc := 14) C dX10_common_14 rfl ?_
    refine w_lstore (pc := 15) C dX10_common_15 (by decide) ?_
    refine w_sub ?_ hv
    exact ⟨rfl, rfl, trivial⟩
set_option maxRecDepth 20000 in
set_option maxHeartbeats 2000000 in
theorem V_X10_common_17 {X : Ctx} (C : C_X10_common X) {k n : Nat} {Q : Pq} {h : Hp} {v4 v6 : Int64}
    (hv : ((v6 = 0 → Q (some (.long v4)) h) ∧
    (¬ v6 = 0 → ¬ v6 = 0 ∧ Wj X k n Q 17 [(4, .long v6), (6, .long (v4 % v6))] [] h))) :
    Wj X k n Q 17 [(4, .long v4), (6, .long v6)] [] h := by
  refine w_lload (pc := 17) C dX10_common_17 rfl ?_
  refine w_lconst (pc := 19) C (v := 0) dX10_common_19 (by decide) ?_
  refine w_lcmp_eq (pc := 20) C (tgt := 42) dX10_common_20 dX10_common_21 (by decide) ?_
  obtain ⟨hv1, hv2⟩ := hv
  refine ⟨fun c2 => ?_, fun c2 => ?_⟩
  · have hv := hv1 c2
    refine w_lload (pc := 42) C dX10_common_42 rfl ?_
    exact w_lret (pc := 44) C dX10_common_44 hv
  · have hv := hv2 c2
    refine w_lload (pc := 24) C dX10_common_24 rfl ?_
    refine w_lload (pc := 26) C dX10_common_26 rfl ?_
    obtain ⟨f1, hv⟩ := hv
    refine w_lrem (pc := 28) C dX10_common_28 f1 ?_
    refine w_lstore (pc := 29) C dX10_common_29 (by decide) ?_
    refine w_lload (pc := 31) C dX10_common_31 rfl ?_
    refine w_lstore (pc := 33) C dX10_common_33 (by decide) ?_
    refine w_lload (pc := 35) C dX10_common_35 rfl ?_
    refine w_lstore (pc := 37) C dX10_common_37 (by decide) ?_
    refine w_goto (pc := 39) C (tgt := 17) dX10_common_39 (by decide) ?_
    refine w_sub ?_ hv
    exact ⟨rfl, rfl, trivial⟩
theorem dX10_isLess_0 : decode cX10_isLess 0 = .ok (.lload_n 0, 1) := by decide +kernel
theorem dX10_isLess_1 : decode cX10_isLess 1 = .ok (.ldc2_w 306, 3) := by decide +kernel
theorem dX10_isLess_4 : decode cX10_isLess 4 = .ok (.ldiv, 1) := by decide +kernel
theorem dX10_isLess_5 : decode cX10_isLess 5 = .ok (.lload_n 2, 1) := by decide +kernel
theorem dX10_isLess_6 : decode cX10_isLess 6 = .ok (.ldc2_w 306, 3) := by decide +kernel
theorem dX10_isLess_9 : decode cX10_isLess 9 = .ok (.lrem, 1) := by decide +kernel
theorem dX10_isLess_10 : decode cX10_isLess 10 = .ok (.lmul, 1) := by decide +kernel
theorem dX10_isLess_11 : decode cX10_isLess 11 = .ok (.lload_n 2, 1) := by decide +kernel
theorem dX10_isLess_12 : decode cX10_isLess 12 = .ok (.ldc2_w 306, 3) := by decide +kernel
theorem dX10_isLess_15 : decode cX10_isLess 15 = .ok (.ldiv, 1) := by decide +kernel
theorem dX10_isLess_16 : decode cX10_isLess 16 = .ok (.lload_n 0, 1) := by decide +kernel
theorem dX10_isLess_17 : decode cX10_isLess 17 = .ok (.ldc2_w 306, 3) := by decide +kernel
theorem dX10_isLess_20 : decode cX10_isLess 20 = .ok (.lrem, 1) := by decide +kernel
theorem dX10_isLess_21 : decode cX10_isLess 21 = .ok (.lmul, 1) := by decide +kernel
theorem dX10_isLess_22 : decode cX10_isLess 22 = .ok (.lcmp, 1) := by decide +kernel
theorem dX10_isLess_23 : decode cX10_isLess 23 = .ok (.ifCond .ge 7, 3) := by decide +kernel
theorem dX10_isLess_26 : decode cX10_isLess 26 = .ok (.iconst 1, 1) := by decide +kernel
theorem dX10_isLess_27 : decode cX10_isLess 27 = .ok (.goto 4, 3) := by decide +kernel
theorem dX10_isLess_30 : decode cX10_isLess 30 = .ok (.iconst 0, 1) := by decide +kernel
theorem dX10_isLess_31 : decode cX10_isLess 31 = .ok (.ireturn, 1) := by decide +kernel
set_option maxRecDepth 20000 in
set_option maxHeartbeats 2000000 in
theorem V_X10_isLess_0 {X : Ctx} (C : C_X10_isLess X) {k n : Nat} {Q : Pq} {h : Hp} {v0 v2 : Int64}
    (hv : ((((v2 / 1000000) * (v0 % 1000000)) ≤ ((v0 / 1000000) * (v2 % 1000000)) → Q (some (.int 0)) h) ∧
    (¬ ((v2 / 1000000) * (v0 % 1000000)) ≤ ((v0 / 1000000) * (v2 % 1000000)) → Q (some (.int 1)) h))) :
    Wj X k n Q 0 [(0, .long v0), (2, .long v2)] [] h := by
  refine w_lload_n (pc := 0) C dX10_isLess_0 rfl ?_
  refine w_ldc2 (pc := 1) C ctl_X10_306 dX10_isLess_1 ?_
  refine w_ldiv (pc := 4) C dX10_isLess_4 (by decide) ?_
  refine w_lload_n (pc := 5) C dX10_isLess_5 rfl ?_
  refine w_ldc2 (pc := 6) C ctl_X10_306 dX10_isLess_6 ?_
  refine w_lrem (pc := 9) C dX10_isLess_9 (by decide) ?_
  refine w_lmul (pc := 10) C dX10_isLess_10 ?_
  refine w_lload_n (pc := 11) C dX10_isLess_11 rfl ?_
  refine w_ldc2 (pc := 12) C ctl_X10_306 dX10_isLess_12 ?_
  refine w_ldiv (pc := 15) C dX10_isLess_15 (by decide) ?_
  refine w_lload_n (pc := 16) C dX10_isLess_16 rfl ?_
  refine w_ldc2 (pc := 17) C ctl_X10_306 dX10_isLess_17 ?_
  refine w_lrem (pc := 20) C dX10_isLess_20 (by decide) ?_
  refine w_lmul (pc := 21) C dX10_isLess_21 ?_
  refine w_lcmp_ge (pc := 22) C (tgt := 30) dX10_isLess_22 dX10_isLess_23 (by decide) ?_
  obtain ⟨hv1, hv2⟩ := hv
  refine ⟨fun c1 => ?_, fun c1 => ?_⟩
  · have hv := hv1 c1
    refine w_iconst (pc := 30) C (v := 0) dX10_isLess_30 (by decide) ?_
    exact w_zret (pc := 31) C dX10_isLess_31 (by decide) hv
  · have hv := hv2 c1
    refine w_iconst (pc := 26) C (v := 1) dX10_isLess_26 (by decide) ?_
    refine w_goto (pc := 27) C (tgt := 31) dX10_isLess_27 (by decide) ?_
    exact w_zret (pc := 31) C dX10_isLess_31 (by decide) hv
theorem dX10_isBelow_0 : decode cX10_isBelow 0 = .ok (.lload_n 0, 1) := by decide +kernel
theorem dX10_isBelow_1 : decode cX10_isBelow 1 = .ok (.lstore 8, 2) := by decide +kernel
theorem dX10_isBelow_3 : decode cX10_isBelow 3 = .ok (.lload_n 2, 1) := by decide +kernel
theorem dX10_isBelow_4 : decode cX10_isBelow 4 = .ok (.lstore 10, 2) := by decide +kernel
theorem dX10_isBelow_6 : decode cX10_isBelow 6 = .ok (.lload 4, 2) := by decide +kernel
theorem dX10_isBelow_8 : decode cX10_isBelow 8 = .ok (.lstore 12, 2) := by decide +kernel
theorem dX10_isBelow_10 : decode cX10_isBelow 10 = .ok (.lload 6, 2) := by decide +kernel
theorem dX10_isBelow_12 : decode cX10_isBelow 12 = .ok (.lstore 14, 2) := by decide +kernel
theorem dX10_isBelow_14 : decode cX10_isBelow 14 = .ok (.iconst 1, 1) := by decide +kernel
theorem dX10_isBelow_15 : decode cX10_isBelow 15 = .ok (.istore 16, 2) := by decide +kernel
theorem dX10_isBelow_17 : decode cX10_isBelow 17 = .ok (.lload 8, 2) := by decide +kernel
theorem dX10_isBelow_19 : decode cX10_isBelow 19 = .ok (.lload 10, 2) := by decide +kernel
theorem dX10_isBelow_21 : decode cX10_isBelow 21 = .ok (.ldiv, 1) := by decide +kernel
theorem dX10_isBelow_22 : decode cX10_isBelow 22 = .ok (.lstore 17, 2) := by decide +kernel
theorem dX10_isBelow_24 : decode cX10_isBelow 24 = .ok (.lload 12, 2) := by decide +kernel
theorem dX10_isBelow_26 : decode cX10_isBelow 26 = .ok (.lload 14, 2) := by decide +kernel
theorem dX10_isBelow_28 : decode cX10_isBelow 28 = .ok (.ldiv, 1) := by decide +kernel
theorem dX10_isBelow_29 : decode cX10_isBelow 29 = .ok (.lstore 19, 2) := by decide +kernel
theorem dX10_isBelow_31 : decode cX10_isBelow 31 = .ok (.lload 17, 2) := by decide +kernel
theorem dX10_isBelow_33 : decode cX10_isBelow 33 = .ok (.lload 19, 2) := by decide +kernel
theorem dX10_isBelow_35 : decode cX10_isBelow 35 = .ok (.lcmp, 1) := by decide +kernel
theorem dX10_isBelow_36 : decode cX10_isBelow 36 = .ok (.ifCond .eq 27, 3) := by decide +kernel
theorem dX10_isBelow_39 : decode cX10_isBelow 39 = .ok (.iload 16, 2) := by decide +kernel
theorem dX10_isBelow_41 : decode cX10_isBelow 41 = .ok (.lload 17, 2) := by decide +kernel
theorem dX10_isBelow_43 : decode cX10_isBelow 43 = .ok (.lload 19, 2) := by decide +kernel
theorem dX10_isBelow_45 : decode cX10_isBelow 45 = .ok (.lcmp, 1) := by decide +kernel
theorem dX10_isBelow_46 : decode cX10_isBelow 46 = .ok (.ifCond .ge 7, 3) := by decide +kernel
theorem dX10_isBelow_49 : decode cX10_isBelow 49 = .ok (.iconst 1, 1) := by decide +kernel
theorem dX10_isBelow_50 : decode cX10_isBelow 50 = .ok (.goto 4, 3) := by decide +kernel
theorem dX10_isBelow_53 : decode cX10_isBelow 53 = .ok (.iconst 0, 1) := by decide +kernel
theorem dX10_isBelow_54 : decode cX10_isBelow 54 = .ok (.if_icmp .ne 7, 3) := by decide +kernel
theorem dX10_isBelow_57 : decode cX10_isBelow 57 = .ok (.iconst 1, 1) := by decide +kernel
theorem dX10_isBelow_58 : decode cX10_isBelow 58 = .ok (.goto 4, 3) := by decide +kernel
theorem dX10_isBelow_61 : decode cX10_isBelow 61 = .ok (.iconst 0, 1) := by decide +kernel
theorem dX10_isBelow_62 : decode cX10_isBelow 62 = .ok (.ireturn, 1) := by decide +kernel
theorem dX10_isBelow_63 : decode cX10_isBelow 63 = .ok (.lload 8, 2) := by decide +kernel
theorem dX10_isBelow_65 : decode cX10_isBelow 65 = .ok (.lload 10, 2) := by decide +kernel
theorem dX10_isBelow_67 : decode cX10_isBelow 67 = .ok (.lrem, 1) := by decide +kernel
theorem dX10_isBelow_68 : decode cX10_isBelow 68 = .ok (.lstore 8, 2) := by decide +kernel
theorem dX10_isBelow_70 : decode cX10_isBelow 70 = .ok (.lload 12, 2) := by decide +kernel
theorem dX10_isBelow_72 : decode cX10_isBelow 72 = .ok (.lload 14, 2) := by decide +kernel
theorem dX10_isBelow_74 : decode cX10_isBelow 74 = .ok (.lrem, 1) := by decide +kernel
theorem dX10_isBelow_75 : decode cX10_isBelow 75 = .ok (.lstore 12, 2) := by decide +kernel
theorem dX10_isBelow_77 : decode cX10_isBelow 77 = .ok (.lload 8, 2) := by decide +kernel
theorem dX10_isBelow_79 : decode cX10_isBelow 79 = .ok (.lconst 0, 1) := by decide +kernel
theorem dX10_isBelow_80 : decode cX10_isBelow 80 = .ok (.lcmp, 1) := by decide +kernel
theorem dX10_isBelow_81 : decode cX10_isBelow 81 = .ok (.ifCond .eq 10, 3) := by decide +kernel
theorem dX10_isBelow_84 : decode cX10_isBelow 84 = .ok (.lload 12, 2) := by decide +kernel
theorem dX10_isBelow_86 : decode cX10_isBelow 86 = .ok (.lconst 0, 1) := by decide +kernel
theorem dX10_isBelow_87 : decode cX10_isBelow 87 = .ok (.lcmp, 1) := by decide +kernel
theorem dX10_isBelow_88 : decode cX10_isBelow 88 = .ok (.ifCond .ne 44, 3) := by decide +kernel
theorem dX10_isBelow_91 : decode cX10_isBelow 91 = .ok (.lload 8, 2) := by decide +kernel
theorem dX10_isBelow_93 : decode cX10_isBelow 93 = .ok (.lconst 0, 1) := by decide +kernel
theorem dX10_isBelow_94 : decode cX10_isBelow 94 = .ok (.lcmp, 1) := by decide +kernel
theorem dX10_isBelow_95 : decode cX10_isBelow 95 = .ok (.ifCond .ne 14, 3) := by decide +kernel
theorem dX10_isBelow_98 : decode cX10_isBelow 98 = .ok (.lload 12, 2) := by decide +kernel
theorem dX10_isBelow_100 : decode cX10_isBelow 100 = .ok (.lconst 0, 1) := by decide +kernel
theorem dX10_isBelow_101 : decode cX10_isBelow 101 = .ok (.lcmp, 1) := by decide +kernel
theorem dX10_isBelow_102 : decode cX10_isBelow 102 = .ok (.ifCond .ne 7, 3) := by decide +kernel
theorem dX10_isBelow_105 : decode cX10_isBelow 105 = .ok (.iconst 0, 1) := by decide +kernel
theorem dX10_isBelow_106 : decode cX10_isBelow 106 = .ok (.goto 25, 3) := by decide +kernel
theorem dX10_isBelow_109 : decode cX10_isBelow 109 = .ok (.iload 16, 2) := by decide +kernel
theorem dX10_isBelow_111 : decode cX10_isBelow 111 = .ok (.lload 8, 2) := by decide +kernel
theorem dX10_isBelow_113 : decode cX10_isBelow 113 = .ok (.lconst 0, 1) := by decide +kernel
theorem dX10_isBelow_114 : decode cX10_isBelow 114 = .ok (.lcmp, 1) := by decide +kernel
theorem dX10_isBelow_115 : decode cX10_isBelow 115 = .ok (.ifCond .ne 7, 3) := by decide +kernel
theorem dX10_isBelow_118 : decode cX10_isBelow 118 = .ok (.iconst 1, 1) := by decide +kernel
theorem dX10_isBelow_119 : decode cX10_isBelow 119 = .ok (.goto 4, 3) := by decide +kernel
theorem dX10_isBelow_122 : decode cX10_isBelow 122 = .ok (.iconst 0, 1) := by decide +kernel
theorem dX10_isBelow_123 : decode cX10_isBelow 123 = .ok (.if_icmp .ne 7, 3) := by decide +kernel
theorem dX10_isBelow_126 : decode cX10_isBelow 126 = .ok (.iconst 1, 1) := by decide +kernel
theorem dX10_isBelow_127 : decode cX10_isBelow 127 = .ok (.goto 4, 3) := by decide +kernel
theorem dX10_isBelow_130 : decode cX10_isBelow 130 = .ok (.iconst 0, 1) := by decide +kernel
theorem dX10_isBelow_131 : decode cX10_isBelow 131 = .ok (.ireturn, 1) := by decide +kernel
theorem dX10_isBelow_132 : decode cX10_isBelow 132 = .ok (.lload 8, 2) := by decide +kernel
theorem dX10_isBelow_134 : decode cX10_isBelow 134 = .ok (.lstore 21, 2) := by decide +kernel
theorem dX10_isBelow_136 : decode cX10_isBelow 136 = .ok (.lload 10, 2) := by decide +kernel
theorem dX10_isBelow_138 : decode cX10_isBelow 138 = .ok (.lstore 8, 2) := by decide +kernel
theorem dX10_isBelow_140 : decode cX10_isBelow 140 = .ok (.lload 21, 2) := by decide +kernel
theorem dX10_isBelow_142 : decode cX10_isBelow 142 = .ok (.lstore 10, 2) := by decide +kernel
theorem dX10_isBelow_144 : decode cX10_isBelow 144 = .ok (.lload 12, 2) := by decide +kernel
theorem dX10_isBelow_146 : decode cX10_isBelow 146 = .ok (.lstore 21, 2) := by decide +kernel
theorem dX10_isBelow_148 : decode cX10_isBelow 148 = .ok (.lload 14, 2) := by decide +kernel
theorem dX10_isBelow_150 : decode cX10_isBelow 150 = .ok (.lstore 12, 2) := by decide +kernel
theorem dX10_isBelow_152 : decode cX10_isBelow 152 = .ok (.lload 21, 2) := by decide +kernel
theorem dX10_isBelow_154 : decode cX10_isBelow 154 = .ok (.lstore 14, 2) := by decide +kernel
theorem dX10_isBelow_156 : decode cX10_isBelow 156 = .ok (.iload 16, 2) := by decide +kernel
theorem dX10_isBelow_158 : decode cX10_isBelow 158 = .ok (.ifCond .ne 7, 3) := by decide +kernel
theorem dX10_isBelow_161 : decode cX10_isBelow 161 = .ok (.iconst 1, 1) := by decide +kernel
theorem dX10_isBelow_162 : decode cX10_isBelow 162 = .ok (.goto 4, 3) := by decide +kernel
theorem dX10_isBelow_165 : decode cX10_isBelow 165 = .ok (.iconst 0, 1) := by decide +kernel
theorem dX10_isBelow_166 : decode cX10_isBelow 166 = .ok (.istore 16, 2) := by decide +kernel
theorem dX10_isBelow_168 : decode cX10_isBelow 168 = .ok (.goto (-151), 3) := by decide +kernel
set_option maxRecDepth 20000 in
set_option maxHeartbeats 2000000 in
theorem V_X10_isBelow_0 {X : Ctx} (C : C_X10_isBelow X) {k n : Nat} {Q : Pq} {h : Hp} {v0 v2 v4 v6 : Int64}
    (hv : Wj X k n Q 17 [(8, .long v0), (10, .long v2), (12, .long v4), (14, .long v6), (16, .int 1)] [] h) :
    Wj X k n Q 0 [(0, .long v0), (2, .long v2), (4, .long v4), (6, .long v6)] [] h := by
  refine w_lload_n (pc := 0) C dX10_isBelow_0 rfl ?_
  refine w_lstore (pc := 1) C dX10_isBelow_1 (by decide) ?_
  refine w_lload_n (pc := 3) C dX10_isBelow_3 rfl ?_
  refine w_lstore (pc := 4) C dX10_isBelow_4 (by decide) ?_
  refine w_lload (pc := 6) C dX10_isBelow_6 rfl ?_
  refine w_lstore (pc := 8) C dX10_isBelow_8 (by decide) ?_
  refine w_lload (pc := 10) C dX10_isBelow_10 rfl ?_
  refine w_lstore (pc := 12) C dX10_isBelow_12 (by decide) ?_
  refine w_iconst (pc := 14) C (v := 1) dX10_isBelow_14 (by decide) ?_
  refine w_istore (pc := 15) C dX10_isBelow_15 (by decide) ?_
  refine w_sub ?_ hv
  exact ⟨rfl, rfl, rfl, rfl, rfl, trivial⟩
set_option maxRecDepth 20000 in
set_option maxHeartbeats 2000000 in
theorem V_X10_isBelow_17 {X : Ctx} (C : C_X10_isBelow X) {k n : Nat} {Q : Pq} {h : Hp} {v8 v10 v12 v14 : Int64} {v16 : Int32}
    (hv : ¬ v10 = 0 ∧ ¬ v14 = 0 ∧ (((v8 / v10) = (v12 / v14) → (((v8 % v10) = 0 → Wj X k n Q 91 [(8, .long (v8 % v10)), (12, .long (v12 % v14)), (16, .int v16)] [] h) ∧
    (¬ (v8 % v10) = 0 → ((¬ (v12 % v14) = 0 → ((¬ v16 = 0 → Wj X k n Q 17 [(8, .long v10), (10, .long (v8 % v10)), (12, .long v14), (14, .long (v12 % v14)), (16, .int 0)] [] h) ∧
    (v16 = 0 → Wj X k n Q 17 [(8, .long v10), (10, .long (v8 % v10)), (12, .long v14), (14, .long (v12 % v14)), (16, .int 1)] [] h))) ∧
    ((v12 % v14) = 0 → Wj X k n Q 91 [(8, .long (v8 % v10)), (12, .long (v12 % v14)), (16, .int v16)] [] h))))) ∧
    (¬ (v8 / v10) = (v12 / v14) → (((v12 / v14) ≤ (v8 / v10) → ((¬ v16 = 0 → Q (some (.int 0)) h) ∧
    (v16 = 0 → Q (some (.int 1)) h))) ∧
    (¬ (v12 / v14) ≤ (v8 / v10) → ((¬ v16 = 1 → Q (some (.int 0)) h) ∧
    (v16 = 1 → Q (some (.int 1)) h))))))) :
    Wj X k n Q 17 [(8, .long v8), (10, .long v10), (12, .long v12), (14, .long v14), (16, .int v16)] [] h := by
  refine w_lload (pc := 17) C dX10_isBelow_17 rfl ?_
  refine w_lload (pc := 19) C dX10_isBelow_19 rfl ?_
  obtain ⟨f1, hv⟩ := hv
  refine w_ldiv (pc := 21) C dX10_isBelow_21 f1 ?_
  refine w_lstore (pc := 22) C dX10_isBelow_22 (by decide) ?_
  refine w_lload (pc := 24) C dX10_isBelow_24 rfl ?_
  refine w_lload (pc := 26) C dX10_isBelow_26 rfl ?_
  obtain ⟨f2, hv⟩ := hv
  refine w_ldiv (pc := 28) C dX10_isBelow_28 f2 ?_
  refine w_lstore (pc := 29) C dX10_isBelow_29 (by decide) ?_
  refine w_lload (pc := 31) C dX10_isBelow_31 rfl ?_
  refine w_lload (pc := 33) C dX10_isBelow_33 rfl ?_
  refine w_lcmp_eq (pc := 35) C (tgt := 63) dX10_isBelow_35 dX10_isBelow_36 (by decide) ?_
  obtain ⟨hv1, hv2⟩ := hv
  refine ⟨fun c9 => ?_, fun c9 => ?_⟩
  · have hv := hv1 c9
    refine w_lload (pc := 63) C dX10_isBelow_63 rfl ?_
    refine w_lload (pc := 65) C dX10_isBelow_65 rfl ?_
    refine w_lrem (pc := 67) C dX10_isBelow_67 f1 ?_
    refine w_lstore (pc := 68) C dX10_isBelow_68 (by decide) ?_
    refine w_lload (pc := 70) C dX10_isBelow_70 rfl ?_
    refine w_lload (pc := 72) C dX10_isBelow_72 rfl ?_
    refine w_lrem (pc := 74) C dX10_isBelow_74 f2 ?_
    refine w_lstore (pc := 75) C dX10_isBelow_75 (by decide) ?_
    refine w_lload (pc := 77) C dX10_isBelow_77 rfl ?_
    refine w_lconst (pc := 79) C (v := 0) dX10_isBelow_79 (by decide) ?_
    refine w_lcmp_eq (pc := 80) C (tgt := 91) dX10_isBelow_80 dX10_isBelow_81 (by decide) ?_
    obtain ⟨hv1, hv2⟩ := hv
    refine ⟨fun c5 => ?_, fun c5 => ?_⟩
    · have hv := hv1 c5
      refine w_sub ?_ hv
      exact ⟨rfl, rfl, rfl, trivial⟩
    · have hv := hv2 c5
      refine w_lload (pc := 84) C dX10_isBelow_84 rfl ?_
      refine w_lconst (pc := 86) C (v := 0) dX10_isBelow_86 (by decide) ?_
      refine w_lcmp_ne (pc := 87) C (tgt := 132) dX10_isBelow_87 dX10_isBelow_88 (by decide) ?_
      obtain ⟨hv1, hv2⟩ := hv
      refine ⟨fun c4 => ?_, fun c4 => ?_⟩
      · have hv := hv1 c4
        refine w_lload (pc := 132) C dX10_isBelow_132 rfl ?_
        refine w_lstore (pc := 134) C dX10_isBelow_134 (by decide) ?_
        refine w_lload (pc := 136) C dX10_isBelow_136 rfl ?_
        refine w_lstore (pc := 138) C dX10_isBelow_138 (by decide) ?_
        refine w_lload (pc := 140) C dX10_isBelow_140 rfl ?_
        refine w_lstore (pc := 142) C dX10_isBelow_142 (by decide) ?_
        refine w_lload (pc := 144) C dX10_isBelow_144 rfl ?_
        refine w_lstore (pc := 146) C dX10_isBelow_146 (by decide) ?_
        refine w_lload (pc := 148) C dX10_isBelow_148 rfl ?_
        refine w_lstore (pc := 150) C dX10_isBelow_150 (by decide) ?_
        refine w_lload (pc := 152) C dX10_isBelow_152 rfl ?_
        refine w_lstore (pc := 154) C dX10_isBelow_154 (by decide) ?_
        refine w_iload (pc := 156) C dX10_isBelow_156 rfl ?_
        refine w_if_ne (pc := 158) C (tgt := 165) dX10_isBelow_158 (by decide) ?_
        obtain ⟨hv1, hv2⟩ := hv
        refine ⟨fun c3 => ?_, fun c3 => ?_⟩
        · have hv := hv1 c3
          refine w_iconst (pc := 165) C (v := 0) dX10_isBelow_165 (by decide) ?_
          refine w_istore (pc := 166) C dX10_isBelow_166 (by decide) ?_
          refine w_goto (pc := 168) C (tgt := 17) dX10_isBelow_168 (by decide) ?_
          refine w_sub ?_ hv
          exact ⟨rfl, rfl, rfl, rfl, rfl, trivial⟩
        · have hv := hv2 c3
          refine w_iconst (pc := 161) C (v := 1) dX10_isBelow_161 (by decide) ?_
          refine w_goto (pc := 162) C (tgt := 166) dX10_isBelow_162 (by decide) ?_
          refine w_istore (pc := 166) C dX10_isBelow_166 (by decide) ?_
          refine w_goto (pc := 168) C (tgt := 17) dX10_isBelow_168 (by decide) ?_
          refine w_sub ?_ hv
          exact ⟨rfl, rfl, rfl, rfl, rfl, trivial⟩
      · have hv := hv2 c4
        refine w_sub ?_ hv
        exact ⟨rfl, rfl, rfl, trivial⟩
  · have hv := hv2 c9
    refine w_iload (pc := 39) C dX10_isBelow_39 rfl ?_
    refine w_lload (pc := 41) C dX10_isBelow_41 rfl ?_
    refine w_lload (pc := 43) C dX10_isBelow_43 rfl ?_
    refine w_lcmp_ge (pc := 45) C (tgt := 53) dX10_isBelow_45 dX10_isBelow_46 (by decide) ?_
    obtain ⟨hv1, hv2⟩ := hv
    refine ⟨fun c8 => ?_, fun c8 => ?_⟩
    · have hv := hv1 c8
      refine w_iconst (pc := 53) C (v := 0) dX10_isBelow_53 (by decide) ?_
      refine w_icmp_ne (pc := 54) C (tgt := 61) dX10_isBelow_54 (by decide) ?_
      obtain ⟨hv1, hv2⟩ := hv
      refine ⟨fun c6 => ?_, fun c6 => ?_⟩
      · have hv := hv1 c6
        refine w_iconst (pc := 61) C (v := 0) dX10_isBelow_61 (by decide) ?_
        exact w_zret (pc := 62) C dX10_isBelow_62 (by decide) hv
      · have hv := hv2 c6
        refine w_iconst (pc := 57) C (v := 1) dX10_isBelow_57 (by decide) ?_
        refine w_goto (pc := 58) C (tgt := 62) dX10_isBelow_58 (by decide) ?_
        exact w_zret (pc := 62) C dX10_isBelow_62 (by decide) hv
    · have hv := hv2 c8
      refine w_iconst (pc := 49) C (v := 1) dX10_isBelow_49 (by decide) ?_
      refine w_goto (pc := 50) C (tgt := 54) dX10_isBelow_50 (by decide) ?_
      refine w_icmp_ne (pc := 54) C (tgt := 61) dX10_isBelow_54 (by decide) ?_
      obtain ⟨hv1, hv2⟩ := hv
      refine ⟨fun c7 => ?_, fun c7 => ?_⟩
      · have hv := hv1 c7
        refine w_iconst (pc := 61) C (v := 0) dX10_isBelow_61 (by decide) ?_
        exact w_zret (pc := 62) C dX10_isBelow_62 (by decide) hv
      · have hv := hv2 c7
        refine w_iconst (pc := 57) C (v := 1) dX10_isBelow_57 (by decide) ?_
        refine w_goto (pc := 58) C (tgt := 62) dX10_isBelow_58 (by decide) ?_
        exact w_zret (pc := 62) C dX10_isBelow_62 (by decide) hv
set_option maxRecDepth 20000 in
set_option maxHeartbeats 2000000 in
theorem V_X10_isBelow_91 {X : Ctx} (C : C_X10_isBelow X) {k n : Nat} {Q : Pq} {h : Hp} {v16 : Int32} {v8 v12 : Int64}
    (hv : ((¬ v8 = 0 → Wj X k n Q 109 [(8, .long v8), (16, .int v16)] [] h) ∧
    (v8 = 0 → ((¬ v12 = 0 → Wj X k n Q 109 [(8, .long v8), (16, .int v16)] [] h) ∧
    (v12 = 0 → Q (some (.int 0)) h))))) :
    Wj X k n Q 91 [(8, .long v8), (12, .long v12), (16, .int v16)] [] h := by
  refine w_lload (pc := 91) C dX10_isBelow_91 rfl ?_
  refine w_lconst (pc := 93) C (v := 0) dX10_isBelow_93 (by decide) ?_
  refine w_lcmp_ne (pc := 94) C (tgt := 109) dX10_isBelow_94 dX10_isBelow_95 (by decide) ?_
  obtain ⟨hv1, hv2⟩ := hv
  refine ⟨fun c2 => ?_, fun c2 => ?_⟩
  · have hv := hv1 c2
    refine w_sub ?_ hv
    exact ⟨rfl, rfl, trivial⟩
  · have hv := hv2 c2
    refine w_lload (pc := 98) C dX10_isBelow_98 rfl ?_
    refine w_lconst (pc := 100) C (v := 0) dX10_isBelow_100 (by decide) ?_
    refine w_lcmp_ne (pc := 101) C (tgt := 109) dX10_isBelow_101 dX10_isBelow_102 (by decide) ?_
    obtain ⟨hv1, hv2⟩ := hv
    refine ⟨fun c1 => ?_, fun c1 => ?_⟩
    · have hv := hv1 c1
      refine w_sub ?_ hv
      exact ⟨rfl, rfl, trivial⟩
    · have hv := hv2 c1
      refine w_iconst (pc := 105) C (v := 0) dX10_isBelow_105 (by decide) ?_
      refine w_goto (pc := 106) C (tgt := 131) dX10_isBelow_106 (by decide) ?_
      exact w_zret (pc := 131) C dX10_isBelow_131 (by decide) hv
set_option maxRecDepth 20000 in
set_option maxHeartbeats 2000000 in
theorem V_X10_isBelow_109 {X : Ctx} (C : C_X10_isBelow X) {k n : Nat} {Q : Pq} {h : Hp} {v16 : Int32} {v8 : Int64}
    (hv : ((¬ v8 = 0 → ((¬ v16 = 0 → Q (some (.int 0)) h) ∧
    (v16 = 0 → Q (some (.int 1)) h))) ∧
    (v8 = 0 → ((¬ v16 = 1 → Q (some (.int 0)) h) ∧
    (v16 = 1 → Q (some (.int 1)) h))))) :
    Wj X k n Q 109 [(8, .long v8), (16, .int v16)] [] h := by
  refine w_iload (pc := 109) C dX10_isBelow_109 rfl ?_
  refine w_lload (pc := 111) C dX10_isBelow_111 rfl ?_
  refine w_lconst (pc := 113) C (v := 0) dX10_isBelow_113 (by decide) ?_
  refine w_lcmp_ne (pc := 114) C (tgt := 122) dX10_isBelow_114 dX10_isBelow_115 (by decide) ?_
  obtain ⟨hv1, hv2⟩ := hv
  refine ⟨fun c3 => ?_, fun c3 => ?_⟩
  · have hv := hv1 c3
    refine w_iconst (pc := 122) C (v := 0) dX10_isBelow_122 (by decide) ?_
    refine w_icmp_ne (pc := 123) C (tgt := 130) dX10_isBelow_123 (by decide) ?_
    obtain ⟨hv1, hv2⟩ := hv
    refine ⟨fun c1 => ?_, fun c1 => ?_⟩
    · have hv := hv1 c1
      refine w_iconst (pc := 130) C (v := 0) dX10_isBelow_130 (by decide) ?_
      exact w_zret (pc := 131) C dX10_isBelow_131 (by decide) hv
    · have hv := hv2 c1
      refine w_iconst (pc := 126) C (v := 1) dX10_isBelow_126 (by decide) ?_
      refine w_goto (pc := 127) C (tgt := 131) dX10_isBelow_127 (by decide) ?_
      exact w_zret (pc := 131) C dX10_isBelow_131 (by decide) hv
  · have hv := hv2 c3
    refine w_iconst (pc := 118) C (v := 1) dX10_isBelow_118 (by decide) ?_
    refine w_goto (pc := 119) C (tgt := 123) dX10_isBelow_119 (by decide) ?_
    refine w_icmp_ne (pc := 123) C (tgt := 130) dX10_isBelow_123 (by decide) ?_
    obtain ⟨hv1, hv2⟩ := hv
    refine ⟨fun c2 => ?_, fun c2 => ?_⟩
    · have hv := hv1 c2
      refine w_iconst (pc := 130) C (v := 0) dX10_isBelow_130 (by decide) ?_
      exact w_zret (pc := 131) C dX10_isBelow_131 (by decide) hv
    · have hv := hv2 c2
      refine w_iconst (pc := 126) C (v := 1) dX10_isBelow_126 (by decide) ?_
      refine w_goto (pc := 127) C (tgt := 131) dX10_isBelow_127 (by decide) ?_
      exact w_zret (pc := 131) C dX10_isBelow_131 (by decide) hv
theorem dX10_size_0 : decode cX10_size 0 = .ok (.iload_n 0, 1) := by decide +kernel
theorem dX10_size_1 : decode cX10_size 1 = .ok (.ifCond .ge 8, 3) := by decide +kernel
theorem dX10_size_4 : decode cX10_size 4 = .ok (.iload_n 0, 1) := by decide +kernel
theorem dX10_size_5 : decode cX10_size 5 = .ok (.ineg, 1) := by decide +kernel
theorem dX10_size_6 : decode cX10_size 6 = .ok (.goto 4, 3) := by decide +kernel
theorem dX10_size_9 : decode cX10_size 9 = .ok (.iload_n 0, 1) := by decide +kernel
theorem dX10_size_10 : decode cX10_size 10 = .ok (.ireturn, 1) := by decide +kernel
set_option maxRecDepth 20000 in
set_option maxHeartbeats 2000000 in
theorem V_X10_size_0 {X : Ctx} (C : C_X10_size X) {k n : Nat} {Q : Pq} {h : Hp} {v0 : Int32}
    (hv : ((0 ≤ v0 → Q (some (.int v0)) h) ∧
    (¬ 0 ≤ v0 → Q (some (.int (-v0))) h))) :
    Wj X k n Q 0 [(0, .int v0)] [] h := by
  refine w_iload_n (pc := 0) C dX10_size_0 rfl ?_
  refine w_if_ge (pc := 1) C (tgt := 9) dX10_size_1 (by decide) ?_
  obtain ⟨hv1, hv2⟩ := hv
  refine ⟨fun c1 => ?_, fun c1 => ?_⟩
  · have hv := hv1 c1
    refine w_iload_n (pc := 9) C dX10_size_9 rfl ?_
    exact w_iret (pc := 10) C dX10_size_10 hv
  · have hv := hv2 c1
    refine w_iload_n (pc := 4) C dX10_size_4 rfl ?_
    refine w_ineg (pc := 5) C dX10_size_5 ?_
    refine w_goto (pc := 6) C (tgt := 10) dX10_size_6 (by decide) ?_
    exact w_iret (pc := 10) C dX10_size_10 hv
