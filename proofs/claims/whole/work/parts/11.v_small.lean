-- Fraction, Text, Told (by program: gen_parts.py)
theorem dX2_init_0 : decode cX2_init 0 = .ok (.aload_n 0, 1) := by decide +kernel
theorem dX2_init_1 : decode cX2_init 1 = .ok (.invokespecial 1, 3) := by decide +kernel
theorem dX2_init_4 : decode cX2_init 4 = .ok (.aload_n 0, 1) := by decide +kernel
theorem dX2_init_5 : decode cX2_init 5 = .ok (.lconst 0, 1) := by decide +kernel
theorem dX2_init_6 : decode cX2_init 6 = .ok (.putfield 7, 3) := by decide +kernel
theorem dX2_init_9 : decode cX2_init 9 = .ok (.aload_n 0, 1) := by decide +kernel
theorem dX2_init_10 : decode cX2_init 10 = .ok (.lconst 1, 1) := by decide +kernel
theorem dX2_init_11 : decode cX2_init 11 = .ok (.putfield 13, 3) := by decide +kernel
theorem dX2_init_14 : decode cX2_init 14 = .ok (.return_, 1) := by decide +kernel
set_option maxRecDepth 20000 in
set_option maxHeartbeats 2000000 in
theorem V_X2_init_0 {X : Ctx} (C : C_X2_init X) {k n : Nat} {Q : Pq} {h : Hp} {v0 : Nat}
    (hv : kd h v0 = 3 ∧ Q none (sl (sl h v0 0 0) v0 1 1)) :
    Wj X k n Q 0 [(0, .ref v0)] [] h := by
  refine w_aload_n (pc := 0) C dX2_init_0 rfl ?_
  refine w_objInit (pc := 1) C oi_X2_1 ow_1 ow_2 dX2_init_1 (by decide) (Nat.le_of_ble_eq_true rfl) ?_
  refine w_aload_n (pc := 4) C dX2_init_4 rfl ?_
  refine w_lconst (pc := 5) C (v := 0) dX2_init_5 (by decide) ?_
  obtain ⟨f1, hv⟩ := hv
  refine w_putL (pc := 6) C fl_X2_7 rfl rfl dX2_init_6 f1 ?_
  refine w_aload_n (pc := 9) C dX2_init_9 rfl ?_
  refine w_lconst (pc := 10) C (v := 1) dX2_init_10 (by decide) ?_
  refine w_putL (pc := 11) C fl_X2_13 rfl rfl dX2_init_11 f1 ?_
  exact w_vret (pc := 14) C dX2_init_14 hv
theorem dX2_put_0 : decode cX2_put 0 = .ok (.lload_n 3, 1) := by decide +kernel
theorem dX2_put_1 : decode cX2_put 1 = .ok (.lconst 0, 1) := by decide +kernel
theorem dX2_put_2 : decode cX2_put 2 = .ok (.lcmp, 1) := by decide +kernel
theorem dX2_put_3 : decode cX2_put 3 = .ok (.ifCond .gt 14, 3) := by decide +kernel
theorem dX2_put_6 : decode cX2_put 6 = .ok (.aload_n 0, 1) := by decide +kernel
theorem dX2_put_7 : decode cX2_put 7 = .ok (.lconst 0, 1) := by decide +kernel
theorem dX2_put_8 : decode cX2_put 8 = .ok (.putfield 7, 3) := by decide +kernel
theorem dX2_put_11 : decode cX2_put 11 = .ok (.aload_n 0, 1) := by decide +kernel
theorem dX2_put_12 : decode cX2_put 12 = .ok (.lconst 1, 1) := by decide +kernel
theorem dX2_put_13 : decode cX2_put 13 = .ok (.putfield 13, 3) := by decide +kernel
theorem dX2_put_16 : decode cX2_put 16 = .ok (.return_, 1) := by decide +kernel
theorem dX2_put_17 : decode cX2_put 17 = .ok (.lload_n 1, 1) := by decide +kernel
theorem dX2_put_18 : decode cX2_put 18 = .ok (.lload_n 3, 1) := by decide +kernel
theorem dX2_put_19 : decode cX2_put 19 = .ok (.invokestatic 16, 3) := by decide +kernel
theorem dX2_put_22 : decode cX2_put 22 = .ok (.lstore 5, 2) := by decide +kernel
theorem dX2_put_24 : decode cX2_put 24 = .ok (.aload_n 0, 1) := by decide +kernel
theorem dX2_put_25 : decode cX2_put 25 = .ok (.lload_n 1, 1) := by decide +kernel
theorem dX2_put_26 : decode cX2_put 26 = .ok (.lload 5, 2) := by decide +kernel
theorem dX2_put_28 : decode cX2_put 28 = .ok (.ldiv, 1) := by decide +kernel
theorem dX2_put_29 : decode cX2_put 29 = .ok (.putfield 7, 3) := by decide +kernel
theorem dX2_put_32 : decode cX2_put 32 = .ok (.aload_n 0, 1) := by decide +kernel
theorem dX2_put_33 : decode cX2_put 33 = .ok (.lload_n 3, 1) := by decide +kernel
theorem dX2_put_34 : decode cX2_put 34 = .ok (.lload 5, 2) := by decide +kernel
theorem dX2_put_36 : decode cX2_put 36 = .ok (.ldiv, 1) := by decide +kernel
theorem dX2_put_37 : decode cX2_put 37 = .ok (.putfield 13, 3) := by decide +kernel
theorem dX2_put_40 : decode cX2_put 40 = .ok (.return_, 1) := by decide +kernel
set_option maxRecDepth 20000 in
set_option maxHeartbeats 2000000 in
theorem V_X2_put_0 {X : Ctx} (C : C_X2_put X) {k n : Nat} {Q : Pq} {h : Hp} {v0 : Nat} {v1 v3 : Int64}
    (hv : ((0 < v3 → S_X9_common (lX X) (dtX X) 0 0 [.long v1, .long v3] h (QL fun x2 h1 =>
    ¬ x2 = 0 ∧ kd h1 v0 = 3 ∧ Q none (sl (sl h1 v0 0 (v1 / x2)) v0 1 (v3 / x2)))) ∧
    (¬ 0 < v3 → kd h v0 = 3 ∧ Q none (sl (sl h v0 0 0) v0 1 1)))) :
    Wj X k n Q 0 [(0, .ref v0), (1, .long v1), (3, .long v3)] [] h := by
  refine w_lload_n (pc := 0) C dX2_put_0 rfl ?_
  refine w_lconst (pc := 1) C (v := 0) dX2_put_1 (by decide) ?_
  refine w_lcmp_gt (pc := 2) C (tgt := 17) dX2_put_2 dX2_put_3 (by decide) ?_
  obtain ⟨hv1, hv2⟩ := hv
  refine ⟨fun c6 => ?_, fun c6 => ?_⟩
  · have hv := hv1 c6
    refine w_lload_n (pc := 17) C dX2_put_17 rfl ?_
    refine w_lload_n (pc := 18) C dX2_put_18 rfl ?_
    refine w_cSN0_2 (pc := 19) C cl_X2_16 ls_X9_common (by decide) dX2_put_19 (Nat.le_of_ble_eq_true rfl) (hv.mono (fun v h1 hp => ?_))
    obtain ⟨x2, rfl, hv⟩ := hp
    refine w_lstore (pc := 22) C dX2_put_22 (by decide) ?_
    refine w_aload_n (pc := 24) C dX2_put_24 rfl ?_
    refine w_lload_n (pc := 25) C dX2_put_25 rfl ?_
    refine w_lload (pc := 26) C dX2_put_26 rfl ?_
    obtain ⟨f3, hv⟩ := hv
    refine w_ldiv (pc := 28) C dX2_put_28 f3 ?_
    obtain ⟨f4, hv⟩ := hv
    refine w_putL (pc := 29) C fl_X2_7 rfl rfl dX2_put_29 f4 ?_
    refine w_aload_n (pc := 32) C dX2_put_32 rfl ?_
    refine w_lload_n (pc := 33) C dX2_put_33 rfl ?_
    refine w_lload (pc := 34) C dX2_put_34 rfl ?_
    refine w_ldiv (pc := 36) C dX2_put_36 f3 ?_
    refine w_putL (pc := 37) C fl_X2_13 rfl rfl dX2_put_37 f4 ?_
    exact w_vret (pc := 40) C dX2_put_40 hv
  · have hv := hv2 c6
    refine w_aload_n (pc := 6) C dX2_put_6 rfl ?_
    refine w_lconst (pc := 7) C (v := 0) dX2_put_7 (by decide) ?_
    obtain ⟨f5, hv⟩ := hv
    refine w_putL (pc := 8) C fl_X2_7 rfl rfl dX2_put_8 f5 ?_
    refine w_aload_n (pc := 11) C dX2_put_11 rfl ?_
    refine w_lconst (pc := 12) C (v := 1) dX2_put_12 (by decide) ?_
    refine w_putL (pc := 13) C fl_X2_13 rfl rfl dX2_put_13 f5 ?_
    exact w_vret (pc := 16) C dX2_put_16 hv
theorem dX2_copyFrom_0 : decode cX2_copyFrom 0 = .ok (.aload_n 0, 1) := by decide +kernel
theorem dX2_copyFrom_1 : decode cX2_copyFrom 1 = .ok (.aload_n 1, 1) := by decide +kernel
theorem dX2_copyFrom_2 : decode cX2_copyFrom 2 = .ok (.getfield 7, 3) := by decide +kernel
theorem dX2_copyFrom_5 : decode cX2_copyFrom 5 = .ok (.putfield 7, 3) := by decide +kernel
theorem dX2_copyFrom_8 : decode cX2_copyFrom 8 = .ok (.aload_n 0, 1) := by decide +kernel
theorem dX2_copyFrom_9 : decode cX2_copyFrom 9 = .ok (.aload_n 1, 1) := by decide +kernel
theorem dX2_copyFrom_10 : decode cX2_copyFrom 10 = .ok (.getfield 13, 3) := by decide +kernel
theorem dX2_copyFrom_13 : decode cX2_copyFrom 13 = .ok (.putfield 13, 3) := by decide +kernel
theorem dX2_copyFrom_16 : decode cX2_copyFrom 16 = .ok (.return_, 1) := by decide +kernel
set_option maxRecDepth 20000 in
set_option maxHeartbeats 2000000 in
theorem V_X2_copyFrom_0 {X : Ctx} (C : C_X2_copyFrom X) {k n : Nat} {Q : Pq} {h : Hp} {v0 v1 : Nat}
    (hv : kd h v1 = 3 ∧ kd h v0 = 3 ∧ Q none (sl (sl h v0 0 (gl h v1 0)) v0 1 (gl (sl h v0 0 (gl h v1 0)) v1 1))) :
    Wj X k n Q 0 [(0, .ref v0), (1, .ref v1)] [] h := by
  refine w_aload_n (pc := 0) C dX2_copyFrom_0 rfl ?_
  refine w_aload_n (pc := 1) C dX2_copyFrom_1 rfl ?_
  obtain ⟨f1, hv⟩ := hv
  refine w_getL (pc := 2) C fl_X2_7 rfl dX2_copyFrom_2 f1 ?_
  obtain ⟨f2, hv⟩ := hv
  refine w_putL (pc := 5) C fl_X2_7 rfl rfl dX2_copyFrom_5 f2 ?_
  refine w_aload_n (pc := 8) C dX2_copyFrom_8 rfl ?_
  refine w_aload_n (pc := 9) C dX2_copyFrom_9 rfl ?_
  refine w_getL (pc := 10) C fl_X2_13 rfl dX2_copyFrom_10 f1 ?_
  refine w_putL (pc := 13) C fl_X2_13 rfl rfl dX2_copyFrom_13 f2 ?_
  exact w_vret (pc := 16) C dX2_copyFrom_16 hv
theorem dX7_init_0 : decode cX7_init 0 = .ok (.aload_n 0, 1) := by decide +kernel
theorem dX7_init_1 : decode cX7_init 1 = .ok (.invokespecial 3, 3) := by decide +kernel
theorem dX7_init_4 : decode cX7_init 4 = .ok (.aload_n 0, 1) := by decide +kernel
theorem dX7_init_5 : decode cX7_init 5 = .ok (.bipush 80, 2) := by decide +kernel
theorem dX7_init_7 : decode cX7_init 7 = .ok (.newarray .char, 2) := by decide +kernel
theorem dX7_init_9 : decode cX7_init 9 = .ok (.putfield 9, 3) := by decide +kernel
theorem dX7_init_12 : decode cX7_init 12 = .ok (.aload_n 0, 1) := by decide +kernel
theorem dX7_init_13 : decode cX7_init 13 = .ok (.iconst 0, 1) := by decide +kernel
theorem dX7_init_14 : decode cX7_init 14 = .ok (.putfield 15, 3) := by decide +kernel
theorem dX7_init_17 : decode cX7_init 17 = .ok (.return_, 1) := by decide +kernel
set_option maxRecDepth 20000 in
set_option maxHeartbeats 2000000 in
theorem V_X7_init_0 {X : Ctx} (C : C_X7_init X) {k n : Nat} {Q : Pq} {h : Hp} {v0 : Nat}
    (hv : k + 1 ≤ mcX X ∧ n + 80 ≤ msX X ∧ kd (nw h 22 80) v0 = 8 ∧ Q none (si (sr (nw h 22 80) v0 0 (some (hn h))) v0 1 0)) :
    Wj X k n Q 0 [(0, .ref v0)] [] h := by
  refine w_aload_n (pc := 0) C dX7_init_0 rfl ?_
  refine w_objInit (pc := 1) C oi_X7_3 ow_1 ow_2 dX7_init_1 (by decide) (Nat.le_of_ble_eq_true rfl) ?_
  refine w_aload_n (pc := 4) C dX7_init_4 rfl ?_
  refine w_bipush (pc := 5) C (v := 80) dX7_init_5 (by decide) ?_
  obtain ⟨f1, hv⟩ := hv
  obtain ⟨f2, hv⟩ := hv
  refine w_newa (pc := 7) (atype := .char) 2 (N := 80) C ac_char rfl rfl (by decide) dX7_init_7 (by decide) (by decide) (Nat.le_of_ble_eq_true rfl) f1 f2 ?_
  obtain ⟨f3, hv⟩ := hv
  refine w_putRF (pc := 9) C fl_X7_9 rfl rfl rfl dX7_init_9 f3 ?_
  refine w_aload_n (pc := 12) C dX7_init_12 rfl ?_
  refine w_iconst (pc := 13) C (v := 0) dX7_init_13 (by decide) ?_
  refine w_putI (pc := 14) C fl_X7_15 rfl rfl dX7_init_14 f3 ?_
  exact w_vret (pc := 17) C dX7_init_17 hv
theorem dX7_addFour_0 : decode cX7_addFour 0 = .ok (.aload_n 0, 1) := by decide +kernel
theorem dX7_addFour_1 : decode cX7_addFour 1 = .ok (.getfield 15, 3) := by decide +kernel
theorem dX7_addFour_4 : decode cX7_addFour 4 = .ok (.ifCond .lt 17, 3) := by decide +kernel
theorem dX7_addFour_7 : decode cX7_addFour 7 = .ok (.aload_n 0, 1) := by decide +kernel
theorem dX7_addFour_8 : decode cX7_addFour 8 = .ok (.getfield 15, 3) := by decide +kernel
theorem dX7_addFour_11 : decode cX7_addFour 11 = .ok (.iconst 4, 1) := by decide +kernel
theorem dX7_addFour_12 : decode cX7_addFour 12 = .ok (.iadd, 1) := by decide +kernel
theorem dX7_addFour_13 : decode cX7_addFour 13 = .ok (.aload_n 0, 1) := by decide +kernel
theorem dX7_addFour_14 : decode cX7_addFour 14 = .ok (.getfield 9, 3) := by decide +kernel
theorem dX7_addFour_17 : decode cX7_addFour 17 = .ok (.arraylength, 1) := by decide +kernel
theorem dX7_addFour_18 : decode cX7_addFour 18 = .ok (.if_icmp .le 5, 3) := by decide +kernel
theorem dX7_addFour_21 : decode cX7_addFour 21 = .ok (.iconst 0, 1) := by decide +kernel
theorem dX7_addFour_22 : decode cX7_addFour 22 = .ok (.ireturn, 1) := by decide +kernel
theorem dX7_addFour_23 : decode cX7_addFour 23 = .ok (.iconst 0, 1) := by decide +kernel
theorem dX7_addFour_24 : decode cX7_addFour 24 = .ok (.istore_n 2, 1) := by decide +kernel
theorem dX7_addFour_25 : decode cX7_addFour 25 = .ok (.iload_n 2, 1) := by decide +kernel
theorem dX7_addFour_26 : decode cX7_addFour 26 = .ok (.iconst 4, 1) := by decide +kernel
theorem dX7_addFour_27 : decode cX7_addFour 27 = .ok (.if_icmp .ge 34, 3) := by decide +kernel
theorem dX7_addFour_30 : decode cX7_addFour 30 = .ok (.aload_n 0, 1) := by decide +kernel
theorem dX7_addFour_31 : decode cX7_addFour 31 = .ok (.getfield 9, 3) := by decide +kernel
theorem dX7_addFour_34 : decode cX7_addFour 34 = .ok (.aload_n 0, 1) := by decide +kernel
theorem dX7_addFour_35 : decode cX7_addFour 35 = .ok (.getfield 15, 3) := by decide +kernel
theorem dX7_addFour_38 : decode cX7_addFour 38 = .ok (.iload_n 2, 1) := by decide +kernel
theorem dX7_addFour_39 : decode cX7_addFour 39 = .ok (.iadd, 1) := by decide +kernel
theorem dX7_addFour_40 : decode cX7_addFour 40 = .ok (.iload_n 1, 1) := by decide +kernel
theorem dX7_addFour_41 : decode cX7_addFour 41 = .ok (.bipush 24, 2) := by decide +kernel
theorem dX7_addFour_43 : decode cX7_addFour 43 = .ok (.bipush 8, 2) := by decide +kernel
theorem dX7_addFour_45 : decode cX7_addFour 45 = .ok (.iload_n 2, 1) := by decide +kernel
theorem dX7_addFour_46 : decode cX7_addFour 46 = .ok (.imul, 1) := by decide +kernel
theorem dX7_addFour_47 : decode cX7_addFour 47 = .ok (.isub, 1) := by decide +kernel
theorem dX7_addFour_48 : decode cX7_addFour 48 = .ok (.iushr, 1) := by decide +kernel
theorem dX7_addFour_49 : decode cX7_addFour 49 = .ok (.sipush 255, 3) := by decide +kernel
theorem dX7_addFour_52 : decode cX7_addFour 52 = .ok (.iand, 1) := by decide +kernel
theorem dX7_addFour_53 : decode cX7_addFour 53 = .ok (.i2c, 1) := by decide +kernel
theorem dX7_addFour_54 : decode cX7_addFour 54 = .ok (.castore, 1) := by decide +kernel
theorem dX7_addFour_55 : decode cX7_addFour 55 = .ok (.iinc 2 1, 3) := by decide +kernel
theorem dX7_addFour_58 : decode cX7_addFour 58 = .ok (.goto (-33), 3) := by decide +kernel
theorem dX7_addFour_61 : decode cX7_addFour 61 = .ok (.aload_n 0, 1) := by decide +kernel
theorem dX7_addFour_62 : decode cX7_addFour 62 = .ok (.dup, 1) := by decide +kernel
theorem dX7_addFour_63 : decode cX7_addFour 63 = .ok (.getfield 15, 3) := by decide +kernel
theorem dX7_addFour_66 : decode cX7_addFour 66 = .ok (.iconst 4, 1) := by decide +kernel
theorem dX7_addFour_67 : decode cX7_addFour 67 = .ok (.iadd, 1) := by decide +kernel
theorem dX7_addFour_68 : decode cX7_addFour 68 = .ok (.putfield 15, 3) := by decide +kernel
theorem dX7_addFour_71 : decode cX7_addFour 71 = .ok (.iconst 1, 1) := by decide +kernel
theorem dX7_addFour_72 : decode cX7_addFour 72 = .ok (.ireturn, 1) := by decide +kernel
set_option maxRecDepth 20000 in
set_option maxHeartbeats 2000000 in
theorem V_X7_addFour_0 {X : Ctx} (C : C_X7_addFour X) {k n : Nat} {Q : Pq} {h : Hp} {v0 : Nat} {v1 : Int32}
    (hv : kd h v0 = 8 ∧ (((gi h v0 1) < 0 → Q (some (.int 0)) h) ∧
    (¬ (gi h v0 1) < 0 → nn h v0 0 ∧ kd h (gp h v0 0) = 22 ∧ ((((gi h v0 1) + 4) ≤ (Int32.ofNat (ln h (gp h v0 0))) → Wj X k n Q 25 [(0, .ref v0), (1, .int v1), (2, .int 0)] [] h) ∧
    (¬ ((gi h v0 1) + 4) ≤ (Int32.ofNat (ln h (gp h v0 0))) → Q (some (.int 0)) h))))) :
    Wj X k n Q 0 [(0, .ref v0), (1, .int v1)] [] h := by
  refine w_aload_n (pc := 0) C dX7_addFour_0 rfl ?_
  obtain ⟨f1, hv⟩ := hv
  refine w_getI (pc := 1) C fl_X7_15 rfl dX7_addFour_1 f1 ?_
  refine w_if_lt (pc := 4) C (tgt := 21) dX7_addFour_4 (by decide) ?_
  obtain ⟨hv1, hv2⟩ := hv
  refine ⟨fun c5 => ?_, fun c5 => ?_⟩
  · have hv := hv1 c5
    refine w_iconst (pc := 21) C (v := 0) dX7_addFour_21 (by decide) ?_
    exact w_zret (pc := 22) C dX7_addFour_22 (by decide) hv
  · have hv := hv2 c5
    refine w_aload_n (pc := 7) C dX7_addFour_7 rfl ?_
    refine w_getI (pc := 8) C fl_X7_15 rfl dX7_addFour_8 f1 ?_
    refine w_iconst (pc := 11) C (v := 4) dX7_addFour_11 (by decide) ?_
    refine w_iadd (pc := 12) C dX7_addFour_12 ?_
    refine w_aload_n (pc := 13) C dX7_addFour_13 rfl ?_
    obtain ⟨f2, hv⟩ := hv
    refine w_getR (pc := 14) C fl_X7_9 rfl dX7_addFour_14 f1 f2 ?_
    obtain ⟨f3, hv⟩ := hv
    refine w_alen (pc := 17) 2 (by decide) C dX7_addFour_17 f3 ?_
    refine w_icmp_le (pc := 18) C (tgt := 23) dX7_addFour_18 (by decide) ?_
    obtain ⟨hv1, hv2⟩ := hv
    refine ⟨fun c4 => ?_, fun c4 => ?_⟩
    · have hv := hv1 c4
      refine w_iconst (pc := 23) C (v := 0) dX7_addFour_23 (by decide) ?_
      refine w_istore_n (pc := 24) C dX7_addFour_24 (by decide) ?_
      refine w_sub ?_ hv
      exact ⟨rfl, rfl, rfl, trivial⟩
    · have hv := hv2 c4
      refine w_iconst (pc := 21) C (v := 0) dX7_addFour_21 (by decide) ?_
      exact w_zret (pc := 22) C dX7_addFour_22 (by decide) hv
set_option maxRecDepth 20000 in
set_option maxHeartbeats 2000000 in
theorem V_X7_addFour_25 {X : Ctx} (C : C_X7_addFour X) {k n : Nat} {Q : Pq} {h : Hp} {v0 : Nat} {v1 v2 : Int32}
    (hv : ((4 ≤ v2 → kd h v0 = 8 ∧ Q (some (.int 1)) (si h v0 1 ((gi h v0 1) + 4))) ∧
    (¬ 4 ≤ v2 → kd h v0 = 8 ∧ nn h v0 0 ∧ kd h (gp h v0 0) = 22 ∧ inb ((gi h v0 1) + v2) (ln h (gp h v0 0)) ∧ Wj X k n Q 25 [(0, .ref v0), (1, .int v1), (2, .int (v2 + Int32.ofInt 1))] [] (si h (gp h v0 0) (ix ((gi h v0 1) + v2)) (vp_nar .char (i2c ((iushr v1 (24 - (8 * v2))) &&& 255))))))) :
    Wj X k n Q 25 [(0, .ref v0), (1, .int v1), (2, .int v2)] [] h := by
  refine w_iload_n (pc := 25) C dX7_addFour_25 rfl ?_
  refine w_iconst (pc := 26) C (v := 4) dX7_addFour_26 (by decide) ?_
  refine w_icmp_ge (pc := 27) C (tgt := 61) dX7_addFour_27 (by decide) ?_
  obtain ⟨hv1, hv2⟩ := hv
  refine ⟨fun c6 => ?_, fun c6 => ?_⟩
  · have hv := hv1 c6
    refine w_aload_n (pc := 61) C dX7_addFour_61 rfl ?_
    refine w_dup (pc := 62) C dX7_addFour_62 rfl ?_
    obtain ⟨f1, hv⟩ := hv
    refine w_getI (pc := 63) C fl_X7_15 rfl dX7_addFour_63 f1 ?_
    refine w_iconst (pc := 66) C (v := 4) dX7_addFour_66 (by decide) ?_
    refine w_iadd (pc := 67) C dX7_addFour_67 ?_
    refine w_putI (pc := 68) C fl_X7_15 rfl rfl dX7_addFour_68 f1 ?_
    refine w_iconst (pc := 71) C (v := 1) dX7_addFour_71 (by decide) ?_
    exact w_zret (pc := 72) C dX7_addFour_72 (by decide) hv
  · have hv := hv2 c6
    refine w_aload_n (pc := 30) C dX7_addFour_30 rfl ?_
    obtain ⟨f2, hv⟩ := hv
    obtain ⟨f3, hv⟩ := hv
    refine w_getR (pc := 31) C fl_X7_9 rfl dX7_addFour_31 f2 f3 ?_
    refine w_aload_n (pc := 34) C dX7_addFour_34 rfl ?_
    refine w_getI (pc := 35) C fl_X7_15 rfl dX7_addFour_35 f2 ?_
    refine w_iload_n (pc := 38) C dX7_addFour_38 rfl ?_
    refine w_iadd (pc := 39) C dX7_addFour_39 ?_
    refine w_iload_n (pc := 40) C dX7_addFour_40 rfl ?_
    refine w_bipush (pc := 41) C (v := 24) dX7_addFour_41 (by decide) ?_
    refine w_bipush (pc := 43) C (v := 8) dX7_addFour_43 (by decide) ?_
    refine w_iload_n (pc := 45) C dX7_addFour_45 rfl ?_
    refine w_imul (pc := 46) C dX7_addFour_46 ?_
    refine w_isub (pc := 47) C dX7_addFour_47 ?_
    refine w_iushr (pc := 48) C dX7_addFour_48 ?_
    refine w_sipush (pc := 49) C (v := 255) dX7_addFour_49 (by decide) ?_
    refine w_iand (pc := 52) C dX7_addFour_52 ?_
    refine w_i2c (pc := 53) C dX7_addFour_53 ?_
    obtain ⟨f4, hv⟩ := hv
    obtain ⟨f5, hv⟩ := hv
    refine w_cast (pc := 54) C dX7_addFour_54 f4 f5 ?_
    refine w_iinc (pc := 55) C dX7_addFour_55 rfl (by decide) ?_
    refine w_goto (pc := 58) C (tgt := 25) dX7_addFour_58 (by decide) ?_
    refine w_sub ?_ hv
    exact ⟨rfl, rfl, rfl, trivial⟩
theorem dX7_at_0 : decode cX7_at 0 = .ok (.iload_n 1, 1) := by decide +kernel
theorem dX7_at_1 : decode cX7_at 1 = .ok (.ifCond .lt 29, 3) := by decide +kernel
theorem dX7_at_4 : decode cX7_at 4 = .ok (.iload_n 1, 1) := by decide +kernel
theorem dX7_at_5 : decode cX7_at 5 = .ok (.aload_n 0, 1) := by decide +kernel
theorem dX7_at_6 : decode cX7_at 6 = .ok (.getfield 15, 3) := by decide +kernel
theorem dX7_at_9 : decode cX7_at 9 = .ok (.if_icmp .ge 21, 3) := by decide +kernel
theorem dX7_at_12 : decode cX7_at 12 = .ok (.iload_n 1, 1) := by decide +kernel
theorem dX7_at_13 : decode cX7_at 13 = .ok (.aload_n 0, 1) := by decide +kernel
theorem dX7_at_14 : decode cX7_at 14 = .ok (.getfield 9, 3) := by decide +kernel
theorem dX7_at_17 : decode cX7_at 17 = .ok (.arraylength, 1) := by decide +kernel
theorem dX7_at_18 : decode cX7_at 18 = .ok (.if_icmp .ge 12, 3) := by decide +kernel
theorem dX7_at_21 : decode cX7_at 21 = .ok (.aload_n 0, 1) := by decide +kernel
theorem dX7_at_22 : decode cX7_at 22 = .ok (.getfield 9, 3) := by decide +kernel
theorem dX7_at_25 : decode cX7_at 25 = .ok (.iload_n 1, 1) := by decide +kernel
theorem dX7_at_26 : decode cX7_at 26 = .ok (.caload, 1) := by decide +kernel
theorem dX7_at_27 : decode cX7_at 27 = .ok (.goto 4, 3) := by decide +kernel
theorem dX7_at_30 : decode cX7_at 30 = .ok (.iconst (-1), 1) := by decide +kernel
theorem dX7_at_31 : decode cX7_at 31 = .ok (.ireturn, 1) := by decide +kernel
set_option maxRecDepth 20000 in
set_option maxHeartbeats 2000000 in
theorem V_X7_at_0 {X : Ctx} (C : C_X7_at X) {k n : Nat} {Q : Pq} {h : Hp} {v0 : Nat} {v1 : Int32}
    (hv : ((v1 < 0 → Q (some (.int (-1))) h) ∧
    (¬ v1 < 0 → kd h v0 = 8 ∧ (((gi h v0 1) ≤ v1 → Q (some (.int (-1))) h) ∧
    (¬ (gi h v0 1) ≤ v1 → nn h v0 0 ∧ kd h (gp h v0 0) = 22 ∧ (((Int32.ofNat (ln h (gp h v0 0))) ≤ v1 → Q (some (.int (-1))) h) ∧
    (¬ (Int32.ofNat (ln h (gp h v0 0))) ≤ v1 → inb v1 (ln h (gp h v0 0)) ∧ Q (some (.int (gi h (gp h v0 0) (ix v1)))) h))))))) :
    Wj X k n Q 0 [(0, .ref v0), (1, .int v1)] [] h := by
  refine w_iload_n (pc := 0) C dX7_at_0 rfl ?_
  refine w_if_lt (pc := 1) C (tgt := 30) dX7_at_1 (by decide) ?_
  obtain ⟨hv1, hv2⟩ := hv
  refine ⟨fun c7 => ?_, fun c7 => ?_⟩
  · have hv := hv1 c7
    refine w_iconst (pc := 30) C (v := (-1)) dX7_at_30 (by decide) ?_
    exact w_iret (pc := 31) C dX7_at_31 hv
  · have hv := hv2 c7
    refine w_iload_n (pc := 4) C dX7_at_4 rfl ?_
    refine w_aload_n (pc := 5) C dX7_at_5 rfl ?_
    obtain ⟨f1, hv⟩ := hv
    refine w_getI (pc := 6) C fl_X7_15 rfl dX7_at_6 f1 ?_
    refine w_icmp_ge (pc := 9) C (tgt := 30) dX7_at_9 (by decide) ?_
    obtain ⟨hv1, hv2⟩ := hv
    refine ⟨fun c6 => ?_, fun c6 => ?_⟩
    · have hv := hv1 c6
      refine w_iconst (pc := 30) C (v := (-1)) dX7_at_30 (by decide) ?_
      exact w_iret (pc := 31) C dX7_at_31 hv
    · have hv := hv2 c6
      refine w_iload_n (pc := 12) C dX7_at_12 rfl ?_
      refine w_aload_n (pc := 13) C dX7_at_13 rfl ?_
      obtain ⟨f2, hv⟩ := hv
      refine w_getR (pc := 14) C fl_X7_9 rfl dX7_at_14 f1 f2 ?_
      obtain ⟨f3, hv⟩ := hv
      refine w_alen (pc := 17) 2 (by decide) C dX7_at_17 f3 ?_
      refine w_icmp_ge (pc := 18) C (tgt := 30) dX7_at_18 (by decide) ?_
      obtain ⟨hv1, hv2⟩ := hv
      refine ⟨fun c5 => ?_, fun c5 => ?_⟩
      · have hv := hv1 c5
        refine w_iconst (pc := 30) C (v := (-1)) dX7_at_30 (by decide) ?_
        exact w_iret (pc := 31) C dX7_at_31 hv
      · have hv := hv2 c5
        refine w_aload_n (pc := 21) C dX7_at_21 rfl ?_
        refine w_getR (pc := 22) C fl_X7_9 rfl dX7_at_22 f1 f2 ?_
        refine w_iload_n (pc := 25) C dX7_at_25 rfl ?_
        obtain ⟨f4, hv⟩ := hv
        refine w_cald (pc := 26) C dX7_at_26 f3 f4 ?_
        refine w_goto (pc := 27) C (tgt := 31) dX7_at_27 (by decide) ?_
        exact w_iret (pc := 31) C dX7_at_31 hv
theorem dX7_isDigit_0 : decode cX7_isDigit 0 = .ok (.aload_n 0, 1) := by decide +kernel
theorem dX7_isDigit_1 : decode cX7_isDigit 1 = .ok (.iload_n 1, 1) := by decide +kernel
theorem dX7_isDigit_2 : decode cX7_isDigit 2 = .ok (.invokevirtual 19, 3) := by decide +kernel
theorem dX7_isDigit_5 : decode cX7_isDigit 5 = .ok (.bipush 48, 2) := by decide +kernel
theorem dX7_isDigit_7 : decode cX7_isDigit 7 = .ok (.if_icmp .lt 17, 3) := by decide +kernel
theorem dX7_isDigit_10 : decode cX7_isDigit 10 = .ok (.aload_n 0, 1) := by decide +kernel
theorem dX7_isDigit_11 : decode cX7_isDigit 11 = .ok (.iload_n 1, 1) := by decide +kernel
theorem dX7_isDigit_12 : decode cX7_isDigit 12 = .ok (.invokevirtual 19, 3) := by decide +kernel
theorem dX7_isDigit_15 : decode cX7_isDigit 15 = .ok (.bipush 57, 2) := by decide +kernel
theorem dX7_isDigit_17 : decode cX7_isDigit 17 = .ok (.if_icmp .gt 7, 3) := by decide +kernel
theorem dX7_isDigit_20 : decode cX7_isDigit 20 = .ok (.iconst 1, 1) := by decide +kernel
theorem dX7_isDigit_21 : decode cX7_isDigit 21 = .ok (.goto 4, 3) := by decide +kernel
theorem dX7_isDigit_24 : decode cX7_isDigit 24 = .ok (.iconst 0, 1) := by decide +kernel
theorem dX7_isDigit_25 : decode cX7_isDigit 25 = .ok (.ireturn, 1) := by decide +kernel
set_option maxRecDepth 20000 in
set_option maxHeartbeats 2000000 in
theorem V_X7_isDigit_0 {X : Ctx} (C : C_X7_isDigit X) {k n : Nat} {Q : Pq} {h : Hp} {v0 : Nat} {v1 : Int32}
    (hv : kd h v0 = 8 ∧ S_X7_at (lX X) (dtX X) 0 0 [.ref v0, .int v1] h (QI fun x3 h2 =>
    ((x3 < 48 → Q (some (.int 0)) h2) ∧
    (¬ x3 < 48 → kd h2 v0 = 8 ∧ S_X7_at (lX X) (dtX X) 0 0 [.ref v0, .int v1] h2 (QI fun x6 h5 =>
    ((57 < x6 → Q (some (.int 0)) h5) ∧
    (¬ 57 < x6 → Q (some (.int 1)) h5))))))) :
    Wj X k n Q 0 [(0, .ref v0), (1, .int v1)] [] h := by
  refine w_aload_n (pc := 0) C dX7_isDigit_0 rfl ?_
  refine w_iload_n (pc := 1) C dX7_isDigit_1 rfl ?_
  obtain ⟨f1, hv⟩ := hv
  refine w_cV0_1 (pc := 2) C cl_X7_19 lv_X7_at (by decide) dX7_isDigit_2 (Nat.le_of_ble_eq_true rfl) (c := 7) rfl f1 (hv.mono (fun v h2 hp => ?_))
  obtain ⟨x3, rfl, hv⟩ := hp
  refine w_bipush (pc := 5) C (v := 48) dX7_isDigit_5 (by decide) ?_
  refine w_icmp_lt (pc := 7) C (tgt := 24) dX7_isDigit_7 (by decide) ?_
  obtain ⟨hv1, hv2⟩ := hv
  refine ⟨fun c8 => ?_, fun c8 => ?_⟩
  · have hv := hv1 c8
    refine w_iconst (pc := 24) C (v := 0) dX7_isDigit_24 (by decide) ?_
    exact w_zret (pc := 25) C dX7_isDigit_25 (by decide) hv
  · have hv := hv2 c8
    refine w_aload_n (pc := 10) C dX7_isDigit_10 rfl ?_
    refine w_iload_n (pc := 11) C dX7_isDigit_11 rfl ?_
    obtain ⟨f4, hv⟩ := hv
    refine w_cV0_1 (pc := 12) C cl_X7_19 lv_X7_at (by decide) dX7_isDigit_12 (Nat.le_of_ble_eq_true rfl) (c := 7) rfl f4 (hv.mono (fun v h5 hp => ?_))
    obtain ⟨x6, rfl, hv⟩ := hp
    refine w_bipush (pc := 15) C (v := 57) dX7_isDigit_15 (by decide) ?_
    refine w_icmp_gt (pc := 17) C (tgt := 24) dX7_isDigit_17 (by decide) ?_
    obtain ⟨hv1, hv2⟩ := hv
    refine ⟨fun c7 => ?_, fun c7 => ?_⟩
    · have hv := hv1 c7
      refine w_iconst (pc := 24) C (v := 0) dX7_isDigit_24 (by decide) ?_
      exact w_zret (pc := 25) C dX7_isDigit_25 (by decide) hv
    · have hv := hv2 c7
      refine w_iconst (pc := 20) C (v := 1) dX7_isDigit_20 (by decide) ?_
      refine w_goto (pc := 21) C (tgt := 25) dX7_isDigit_21 (by decide) ?_
      exact w_zret (pc := 25) C dX7_isDigit_25 (by decide) hv
theorem dX7_firstNoDigit_0 : decode cX7_firstNoDigit 0 = .ok (.iconst 0, 1) := by decide +kernel
theorem dX7_firstNoDigit_1 : decode cX7_firstNoDigit 1 = .ok (.istore_n 3, 1) := by decide +kernel
theorem dX7_firstNoDigit_2 : decode cX7_firstNoDigit 2 = .ok (.iload_n 3, 1) := by decide +kernel
theorem dX7_firstNoDigit_3 : decode cX7_firstNoDigit 3 = .ok (.iload_n 2, 1) := by decide +kernel
theorem dX7_firstNoDigit_4 : decode cX7_firstNoDigit 4 = .ok (.if_icmp .ge 23, 3) := by decide +kernel
theorem dX7_firstNoDigit_7 : decode cX7_firstNoDigit 7 = .ok (.aload_n 0, 1) := by decide +kernel
theorem dX7_firstNoDigit_8 : decode cX7_firstNoDigit 8 = .ok (.iload_n 1, 1) := by decide +kernel
theorem dX7_firstNoDigit_9 : decode cX7_firstNoDigit 9 = .ok (.iload_n 3, 1) := by decide +kernel
theorem dX7_firstNoDigit_10 : decode cX7_firstNoDigit 10 = .ok (.iadd, 1) := by decide +kernel
theorem dX7_firstNoDigit_11 : decode cX7_firstNoDigit 11 = .ok (.invokevirtual 23, 3) := by decide +kernel
theorem dX7_firstNoDigit_14 : decode cX7_firstNoDigit 14 = .ok (.ifCond .ne 7, 3) := by decide +kernel
theorem dX7_firstNoDigit_17 : decode cX7_firstNoDigit 17 = .ok (.iload_n 1, 1) := by decide +kernel
theorem dX7_firstNoDigit_18 : decode cX7_firstNoDigit 18 = .ok (.iload_n 3, 1) := by decide +kernel
theorem dX7_firstNoDigit_19 : decode cX7_firstNoDigit 19 = .ok (.iadd, 1) := by decide +kernel
theorem dX7_firstNoDigit_20 : decode cX7_firstNoDigit 20 = .ok (.ireturn, 1) := by decide +kernel
theorem dX7_firstNoDigit_21 : decode cX7_firstNoDigit 21 = .ok (.iinc 3 1, 3) := by decide +kernel
theorem dX7_firstNoDigit_24 : decode cX7_firstNoDigit 24 = .ok (.goto (-22), 3) := by decide +kernel
theorem dX7_firstNoDigit_27 : decode cX7_firstNoDigit 27 = .ok (.iconst (-1), 1) := by decide +kernel
theorem dX7_firstNoDigit_28 : decode cX7_firstNoDigit 28 = .ok (.ireturn, 1) := by decide +kernel
set_option maxRecDepth 20000 in
set_option maxHeartbeats 2000000 in
theorem V_X7_firstNoDigit_0 {X : Ctx} (C : C_X7_firstNoDigit X) {k n : Nat} {Q : Pq} {h : Hp} {v0 : Nat} {v1 v2 : Int32}
    (hv : Wj X k n Q 2 [(0, .ref v0), (1, .int v1), (2, .int v2), (3, .int 0)] [] h) :
    Wj X k n Q 0 [(0, .ref v0), (1, .int v1), (2, .int v2)] [] h := by
  refine w_iconst (pc := 0) C (v := 0) dX7_firstNoDigit_0 (by decide) ?_
  refine w_istore_n (pc := 1) C dX7_firstNoDigit_1 (by decide) ?_
  refine w_sub ?_ hv
  exact ⟨rfl, rfl, rfl, rfl, trivial⟩
set_option maxRecDepth 20000 in
set_option maxHeartbeats 2000000 in
theorem V_X7_firstNoDigit_2 {X : Ctx} (C : C_X7_firstNoDigit X) {k n : Nat} {Q : Pq} {h : Hp} {v0 : Nat} {v1 v2 v3 : Int32}
    (hv : ((v2 ≤ v3 → Q (some (.int (-1))) h) ∧
    (¬ v2 ≤ v3 → kd h v0 = 8 ∧ S_X7_isDigit (lX X) (dtX X) 0 0 [.ref v0, .int (v1 + v3)] h (QI fun x3 h2 =>
    ((¬ x3 = 0 → Wj X k n Q 2 [(0, .ref v0), (1, .int v1), (2, .int v2), (3, .int (v3 + Int32.ofInt 1))] [] h2) ∧
    (x3 = 0 → Q (some (.int (v1 + v3))) h2)))))) :
    Wj X k n Q 2 [(0, .ref v0), (1, .int v1), (2, .int v2), (3, .int v3)] [] h := by
  refine w_iload_n (pc := 2) C dX7_firstNoDigit_2 rfl ?_
  refine w_iload_n (pc := 3) C dX7_firstNoDigit_3 rfl ?_
  refine w_icmp_ge (pc := 4) C (tgt := 27) dX7_firstNoDigit_4 (by decide) ?_
  obtain ⟨hv1, hv2⟩ := hv
  refine ⟨fun c5 => ?_, fun c5 => ?_⟩
  · have hv := hv1 c5
    refine w_iconst (pc := 27) C (v := (-1)) dX7_firstNoDigit_27 (by decide) ?_
    exact w_iret (pc := 28) C dX7_firstNoDigit_28 hv
  · have hv := hv2 c5
    refine w_aload_n (pc := 7) C dX7_firstNoDigit_7 rfl ?_
    refine w_iload_n (pc := 8) C dX7_firstNoDigit_8 rfl ?_
    refine w_iload_n (pc := 9) C dX7_firstNoDigit_9 rfl ?_
    refine w_iadd (pc := 10) C dX7_firstNoDigit_10 ?_
    obtain ⟨f1, hv⟩ := hv
    refine w_cV0_1 (pc := 11) C cl_X7_23 lv_X7_isDigit (by decide) dX7_firstNoDigit_11 (Nat.le_of_ble_eq_true rfl) (c := 7) rfl f1 (hv.mono (fun v h2 hp => ?_))
    obtain ⟨x3, rfl, hv⟩ := hp
    refine w_if_ne (pc := 14) C (tgt := 21) dX7_firstNoDigit_14 (by decide) ?_
    obtain ⟨hv1, hv2⟩ := hv
    refine ⟨fun c4 => ?_, fun c4 => ?_⟩
    · have hv := hv1 c4
      refine w_iinc (pc := 21) C dX7_firstNoDigit_21 rfl (by decide) ?_
      refine w_goto (pc := 24) C (tgt := 2) dX7_firstNoDigit_24 (by decide) ?_
      refine w_sub ?_ hv
      exact ⟨rfl, rfl, rfl, rfl, trivial⟩
    · have hv := hv2 c4
      refine w_iload_n (pc := 17) C dX7_firstNoDigit_17 rfl ?_
      refine w_iload_n (pc := 18) C dX7_firstNoDigit_18 rfl ?_
      refine w_iadd (pc := 19) C dX7_firstNoDigit_19 ?_
      exact w_iret (pc := 20) C dX7_firstNoDigit_20 hv
theorem dX7_number_0 : decode cX7_number 0 = .ok (.iconst 0, 1) := by decide +kernel
theorem dX7_number_1 : decode cX7_number 1 = .ok (.istore_n 3, 1) := by decide +kernel
theorem dX7_number_2 : decode cX7_number 2 = .ok (.iconst 0, 1) := by decide +kernel
theorem dX7_number_3 : decode cX7_number 3 = .ok (.istore 4, 2) := by decide +kernel
theorem dX7_number_5 : decode cX7_number 5 = .ok (.iload 4, 2) := by decide +kernel
theorem dX7_number_7 : decode cX7_number 7 = .ok (.iload_n 2, 1) := by decide +kernel
theorem dX7_number_8 : decode cX7_number 8 = .ok (.if_icmp .ge 26, 3) := by decide +kernel
theorem dX7_number_11 : decode cX7_number 11 = .ok (.bipush 10, 2) := by decide +kernel
theorem dX7_number_13 : decode cX7_number 13 = .ok (.iload_n 3, 1) := by decide +kernel
theorem dX7_number_14 : decode cX7_number 14 = .ok (.imul, 1) := by decide +kernel
theorem dX7_number_15 : decode cX7_number 15 = .ok (.aload_n 0, 1) := by decide +kernel
theorem dX7_number_16 : decode cX7_number 16 = .ok (.iload_n 1, 1) := by decide +kernel
theorem dX7_number_17 : decode cX7_number 17 = .ok (.iload 4, 2) := by decide +kernel
theorem dX7_number_19 : decode cX7_number 19 = .ok (.iadd, 1) := by decide +kernel
theorem dX7_number_20 : decode cX7_number 20 = .ok (.invokevirtual 19, 3) := by decide +kernel
theorem dX7_number_23 : decode cX7_number 23 = .ok (.iadd, 1) := by decide +kernel
theorem dX7_number_24 : decode cX7_number 24 = .ok (.bipush 48, 2) := by decide +kernel
theorem dX7_number_26 : decode cX7_number 26 = .ok (.isub, 1) := by decide +kernel
theorem dX7_number_27 : decode cX7_number 27 = .ok (.istore_n 3, 1) := by decide +kernel
theorem dX7_number_28 : decode cX7_number 28 = .ok (.iinc 4 1, 3) := by decide +kernel
theorem dX7_number_31 : decode cX7_number 31 = .ok (.goto (-26), 3) := by decide +kernel
theorem dX7_number_34 : decode cX7_number 34 = .ok (.iload_n 3, 1) := by decide +kernel
theorem dX7_number_35 : decode cX7_number 35 = .ok (.ireturn, 1) := by decide +kernel
set_option maxRecDepth 20000 in
set_option maxHeartbeats 2000000 in
theorem V_X7_number_0 {X : Ctx} (C : C_X7_number X) {k n : Nat} {Q : Pq} {h : Hp} {v0 : Nat} {v1 v2 : Int32}
    (hv : Wj X k n Q 5 [(0, .ref v0), (1, .int v1), (2, .int v2), (3, .int 0), (4, .int 0)] [] h) :
    Wj X k n Q 0 [(0, .ref v0), (1, .int v1), (2, .int v2)] [] h := by
  refine w_iconst (pc := 0) C (v := 0) dX7_number_0 (by decide) ?_
  refine w_istore_n (pc := 1) C dX7_number_1 (by decide) ?_
  refine w_iconst (pc := 2) C (v := 0) dX7_number_2 (by decide) ?_
  refine w_istore (pc := 3) C dX7_number_3 (by decide) ?_
  refine w_sub ?_ hv
  exact ⟨rfl, rfl, rfl, rfl, rfl, trivial⟩
set_option maxRecDepth 20000 in
set_option maxHeartbeats 2000000 in
theorem V_X7_number_5 {X : Ctx} (C : C_X7_number X) {k n : Nat} {Q : Pq} {h : Hp} {v0 : Nat} {v1 v2 v3 v4 : Int32}
    (hv : ((v2 ≤ v4 → Q (some (.int v3)) h) ∧
    (¬ v2 ≤ v4 → kd h v0 = 8 ∧ S_X7_at (lX X) (dtX X) 0 0 [.ref v0, .int (v1 + v4)] h (QI fun x3 h2 =>
    Wj X k n Q 5 [(0, .ref v0), (1, .int v1), (2, .int v2), (3, .int (((10 * v3) + x3) - 48)), (4, .int (v4 + Int32.ofInt 1))] [] h2)))) :
    Wj X k n Q 5 [(0, .ref v0), (1, .int v1), (2, .int v2), (3, .int v3), (4, .int v4)] [] h := by
  refine w_iload (pc := 5) C dX7_number_5 rfl ?_
  refine w_iload_n (pc := 7) C dX7_number_7 rfl ?_
  refine w_icmp_ge (pc := 8) C (tgt := 34) dX7_number_8 (by decide) ?_
  obtain ⟨hv1, hv2⟩ := hv
  refine ⟨fun c4 => ?_, fun c4 => ?_⟩
  · have hv := hv1 c4
    refine w_iload_n (pc := 34) C dX7_number_34 rfl ?_
    exact w_iret (pc := 35) C dX7_number_35 hv
  · have hv := hv2 c4
    refine w_bipush (pc := 11) C (v := 10) dX7_number_11 (by decide) ?_
    refine w_iload_n (pc := 13) C dX7_number_13 rfl ?_
    refine w_imul (pc := 14) C dX7_number_14 ?_
    refine w_aload_n (pc := 15) C dX7_number_15 rfl ?_
    refine w_iload_n (pc := 16) C dX7_number_16 rfl ?_
    refine w_iload (pc := 17) C dX7_number_17 rfl ?_
    refine w_iadd (pc := 19) C dX7_number_19 ?_
    obtain ⟨f1, hv⟩ := hv
    refine w_cV0_1 (pc := 20) C cl_X7_19 lv_X7_at (by decide) dX7_number_20 (Nat.le_of_ble_eq_true rfl) (c := 7) rfl f1 (hv.mono (fun v h2 hp => ?_))
    obtain ⟨x3, rfl, hv⟩ := hp
    refine w_iadd (pc := 23) C dX7_number_23 ?_
    refine w_bipush (pc := 24) C (v := 48) dX7_number_24 (by decide) ?_
    refine w_isub (pc := 26) C dX7_number_26 ?_
    refine w_istore_n (pc := 27) C dX7_number_27 (by decide) ?_
    refine w_iinc (pc := 28) C dX7_number_28 rfl (by decide) ?_
    refine w_goto (pc := 31) C (tgt := 5) dX7_number_31 (by decide) ?_
    refine w_sub ?_ hv
    exact ⟨rfl, rfl, rfl, rfl, rfl, trivial⟩
theorem dX8_init_0 : decode cX8_init 0 = .ok (.aload_n 0, 1) := by decide +kernel
theorem dX8_init_1 : decode cX8_init 1 = .ok (.invokespecial 3, 3) := by decide +kernel
theorem dX8_init_4 : decode cX8_init 4 = .ok (.aload_n 0, 1) := by decide +kernel
theorem dX8_init_5 : decode cX8_init 5 = .ok (.bipush 60, 2) := by decide +kernel
theorem dX8_init_7 : decode cX8_init 7 = .ok (.newarray .long, 2) := by decide +kernel
theorem dX8_init_9 : decode cX8_init 9 = .ok (.putfield 9, 3) := by decide +kernel
theorem dX8_init_12 : decode cX8_init 12 = .ok (.aload_n 0, 1) := by decide +kernel
theorem dX8_init_13 : decode cX8_init 13 = .ok (.iconst 0, 1) := by decide +kernel
theorem dX8_init_14 : decode cX8_init 14 = .ok (.putfield 15, 3) := by decide +kernel
theorem dX8_init_17 : decode cX8_init 17 = .ok (.return_, 1) := by decide +kernel
set_option maxRecDepth 20000 in
set_option maxHeartbeats 2000000 in
theorem V_X8_init_0 {X : Ctx} (C : C_X8_init X) {k n : Nat} {Q : Pq} {h : Hp} {v0 : Nat}
    (hv : k + 1 ≤ mcX X ∧ n + 60 ≤ msX X ∧ kd (nw h 21 60) v0 = 9 ∧ Q none (si (sr (nw h 21 60) v0 0 (some (hn h))) v0 1 0)) :
    Wj X k n Q 0 [(0, .ref v0)] [] h := by
  refine w_aload_n (pc := 0) C dX8_init_0 rfl ?_
  refine w_objInit (pc := 1) C oi_X8_3 ow_1 ow_2 dX8_init_1 (by decide) (Nat.le_of_ble_eq_true rfl) ?_
  refine w_aload_n (pc := 4) C dX8_init_4 rfl ?_
  refine w_bipush (pc := 5) C (v := 60) dX8_init_5 (by decide) ?_
  obtain ⟨f1, hv⟩ := hv
  obtain ⟨f2, hv⟩ := hv
  refine w_newa (pc := 7) (atype := .long) 1 (N := 60) C ac_long rfl rfl (by decide) dX8_init_7 (by decide) (by decide) (Nat.le_of_ble_eq_true rfl) f1 f2 ?_
  obtain ⟨f3, hv⟩ := hv
  refine w_putRF (pc := 9) C fl_X8_9 rfl rfl rfl dX8_init_9 f3 ?_
  refine w_aload_n (pc := 12) C dX8_init_12 rfl ?_
  refine w_iconst (pc := 13) C (v := 0) dX8_init_13 (by decide) ?_
  refine w_putI (pc := 14) C fl_X8_15 rfl rfl dX8_init_14 f3 ?_
  exact w_vret (pc := 17) C dX8_init_17 hv
theorem dX8_clear_0 : decode cX8_clear 0 = .ok (.aload_n 0, 1) := by decide +kernel
theorem dX8_clear_1 : decode cX8_clear 1 = .ok (.iconst 0, 1) := by decide +kernel
theorem dX8_clear_2 : decode cX8_clear 2 = .ok (.putfield 15, 3) := by decide +kernel
theorem dX8_clear_5 : decode cX8_clear 5 = .ok (.return_, 1) := by decide +kernel
set_option maxRecDepth 20000 in
set_option maxHeartbeats 2000000 in
theorem V_X8_clear_0 {X : Ctx} (C : C_X8_clear X) {k n : Nat} {Q : Pq} {h : Hp} {v0 : Nat}
    (hv : kd h v0 = 9 ∧ Q none (si h v0 1 0)) :
    Wj X k n Q 0 [(0, .ref v0)] [] h := by
  refine w_aload_n (pc := 0) C dX8_clear_0 rfl ?_
  refine w_iconst (pc := 1) C (v := 0) dX8_clear_1 (by decide) ?_
  obtain ⟨f1, hv⟩ := hv
  refine w_putI (pc := 2) C fl_X8_15 rfl rfl dX8_clear_2 f1 ?_
  exact w_vret (pc := 5) C dX8_clear_5 hv
theorem dX8_add_0 : decode cX8_add 0 = .ok (.aload_n 0, 1) := by decide +kernel
theorem dX8_add_1 : decode cX8_add 1 = .ok (.getfield 15, 3) := by decide +kernel
theorem dX8_add_4 : decode cX8_add 4 = .ok (.ifCond .lt 35, 3) := by decide +kernel
theorem dX8_add_7 : decode cX8_add 7 = .ok (.aload_n 0, 1) := by decide +kernel
theorem dX8_add_8 : decode cX8_add 8 = .ok (.getfield 15, 3) := by decide +kernel
theorem dX8_add_11 : decode cX8_add 11 = .ok (.aload_n 0, 1) := by decide +kernel
theorem dX8_add_12 : decode cX8_add 12 = .ok (.getfield 9, 3) := by decide +kernel
theorem dX8_add_15 : decode cX8_add 15 = .ok (.arraylength, 1) := by decide +kernel
theorem dX8_add_16 : decode cX8_add 16 = .ok (.if_icmp .ge 23, 3) := by decide +kernel
theorem dX8_add_19 : decode cX8_add 19 = .ok (.aload_n 0, 1) := by decide +kernel
theorem dX8_add_20 : decode cX8_add 20 = .ok (.getfield 9, 3) := by decide +kernel
theorem dX8_add_23 : decode cX8_add 23 = .ok (.aload_n 0, 1) := by decide +kernel
theorem dX8_add_24 : decode cX8_add 24 = .ok (.getfield 15, 3) := by decide +kernel
theorem dX8_add_27 : decode cX8_add 27 = .ok (.lload_n 1, 1) := by decide +kernel
theorem dX8_add_28 : decode cX8_add 28 = .ok (.lastore, 1) := by decide +kernel
theorem dX8_add_29 : decode cX8_add 29 = .ok (.aload_n 0, 1) := by decide +kernel
theorem dX8_add_30 : decode cX8_add 30 = .ok (.dup, 1) := by decide +kernel
theorem dX8_add_31 : decode cX8_add 31 = .ok (.getfield 15, 3) := by decide +kernel
theorem dX8_add_34 : decode cX8_add 34 = .ok (.iconst 1, 1) := by decide +kernel
theorem dX8_add_35 : decode cX8_add 35 = .ok (.iadd, 1) := by decide +kernel
theorem dX8_add_36 : decode cX8_add 36 = .ok (.putfield 15, 3) := by decide +kernel
theorem dX8_add_39 : decode cX8_add 39 = .ok (.return_, 1) := by decide +kernel
set_option maxRecDepth 20000 in
set_option maxHeartbeats 2000000 in
theorem V_X8_add_0 {X : Ctx} (C : C_X8_add X) {k n : Nat} {Q : Pq} {h : Hp} {v0 : Nat} {v1 : Int64}
    (hv : kd h v0 = 9 ∧ (((gi h v0 1) < 0 → Q none h) ∧
    (¬ (gi h v0 1) < 0 → nn h v0 0 ∧ kd h (gp h v0 0) = 21 ∧ (((Int32.ofNat (ln h (gp h v0 0))) ≤ (gi h v0 1) → Q none h) ∧
    (¬ (Int32.ofNat (ln h (gp h v0 0))) ≤ (gi h v0 1) → inb (gi h v0 1) (ln h (gp h v0 0)) ∧ Q none (si (sl h (gp h v0 0) (ix (gi h v0 1)) v1) v0 1 ((gi h v0 1) + 1))))))) :
    Wj X k n Q 0 [(0, .ref v0), (1, .long v1)] [] h := by
  refine w_aload_n (pc := 0) C dX8_add_0 rfl ?_
  obtain ⟨f1, hv⟩ := hv
  refine w_getI (pc := 1) C fl_X8_15 rfl dX8_add_1 f1 ?_
  refine w_if_lt (pc := 4) C (tgt := 39) dX8_add_4 (by decide) ?_
  obtain ⟨hv1, hv2⟩ := hv
  refine ⟨fun c6 => ?_, fun c6 => ?_⟩
  · have hv := hv1 c6
    exact w_vret (pc := 39) C dX8_add_39 hv
  · have hv := hv2 c6
    refine w_aload_n (pc := 7) C dX8_add_7 rfl ?_
    refine w_getI (pc := 8) C fl_X8_15 rfl dX8_add_8 f1 ?_
    refine w_aload_n (pc := 11) C dX8_add_11 rfl ?_
    obtain ⟨f2, hv⟩ := hv
    refine w_getR (pc := 12) C fl_X8_9 rfl dX8_add_12 f1 f2 ?_
    obtain ⟨f3, hv⟩ := hv
    refine w_alen (pc := 15) 1 (by decide) C dX8_add_15 f3 ?_
    refine w_icmp_ge (pc := 16) C (tgt := 39) dX8_add_16 (by decide) ?_
    obtain ⟨hv1, hv2⟩ := hv
    refine ⟨fun c5 => ?_, fun c5 => ?_⟩
    · have hv := hv1 c5
      exact w_vret (pc := 39) C dX8_add_39 hv
    · have hv := hv2 c5
      refine w_aload_n (pc := 19) C dX8_add_19 rfl ?_
      refine w_getR (pc := 20) C fl_X8_9 rfl dX8_add_20 f1 f2 ?_
      refine w_aload_n (pc := 23) C dX8_add_23 rfl ?_
      refine w_getI (pc := 24) C fl_X8_15 rfl dX8_add_24 f1 ?_
      refine w_lload_n (pc := 27) C dX8_add_27 rfl ?_
      obtain ⟨f4, hv⟩ := hv
      refine w_last (pc := 28) C dX8_add_28 f3 f4 ?_
      refine w_aload_n (pc := 29) C dX8_add_29 rfl ?_
      refine w_dup (pc := 30) C dX8_add_30 rfl ?_
      refine w_getI (pc := 31) C fl_X8_15 rfl dX8_add_31 f1 ?_
      refine w_iconst (pc := 34) C (v := 1) dX8_add_34 (by decide) ?_
      refine w_iadd (pc := 35) C dX8_add_35 ?_
      refine w_putI (pc := 36) C fl_X8_15 rfl rfl dX8_add_36 f1 ?_
      exact w_vret (pc := 39) C dX8_add_39 hv
theorem dX8_addFraction_0 : decode cX8_addFraction 0 = .ok (.aload_n 0, 1) := by decide +kernel
theorem dX8_addFraction_1 : decode cX8_addFraction 1 = .ok (.aload_n 1, 1) := by decide +kernel
theorem dX8_addFraction_2 : decode cX8_addFraction 2 = .ok (.getfield 19, 3) := by decide +kernel
theorem dX8_addFraction_5 : decode cX8_addFraction 5 = .ok (.invokevirtual 25, 3) := by decide +kernel
theorem dX8_addFraction_8 : decode cX8_addFraction 8 = .ok (.aload_n 0, 1) := by decide +kernel
theorem dX8_addFraction_9 : decode cX8_addFraction 9 = .ok (.aload_n 1, 1) := by decide +kernel
theorem dX8_addFraction_10 : decode cX8_addFraction 10 = .ok (.getfield 29, 3) := by decide +kernel
theorem dX8_addFraction_13 : decode cX8_addFraction 13 = .ok (.invokevirtual 25, 3) := by decide +kernel
theorem dX8_addFraction_16 : decode cX8_addFraction 16 = .ok (.return_, 1) := by decide +kernel
set_option maxRecDepth 20000 in
set_option maxHeartbeats 2000000 in
theorem V_X8_addFraction_0 {X : Ctx} (C : C_X8_addFraction X) {k n : Nat} {Q : Pq} {h : Hp} {v0 v1 : Nat}
    (hv : kd h v1 = 3 ∧ kd h v0 = 9 ∧ S_X8_add (lX X) (dtX X) 0 0 [.ref v0, .long (gl h v1 0)] h (QV fun h3 =>
    kd h3 v1 = 3 ∧ kd h3 v0 = 9 ∧ S_X8_add (lX X) (dtX X) 0 0 [.ref v0, .long (gl h3 v1 1)] h3 (QV fun h6 =>
    Q none h6))) :
    Wj X k n Q 0 [(0, .ref v0), (1, .ref v1)] [] h := by
  refine w_aload_n (pc := 0) C dX8_addFraction_0 rfl ?_
  refine w_aload_n (pc := 1) C dX8_addFraction_1 rfl ?_
  obtain ⟨f1, hv⟩ := hv
  refine w_getL (pc := 2) C fl_X8_19 rfl dX8_addFraction_2 f1 ?_
  obtain ⟨f2, hv⟩ := hv
  refine w_cV0_1 (pc := 5) C cl_X8_25 lv_X8_add (by decide) dX8_addFraction_5 (Nat.le_of_ble_eq_true rfl) (c := 8) rfl f2 (hv.mono (fun v h3 hp => ?_))
  obtain ⟨rfl, hv⟩ := hp
  refine w_aload_n (pc := 8) C dX8_addFraction_8 rfl ?_
  refine w_aload_n (pc := 9) C dX8_addFraction_9 rfl ?_
  obtain ⟨f4, hv⟩ := hv
  refine w_getL (pc := 10) C fl_X8_29 rfl dX8_addFraction_10 f4 ?_
  obtain ⟨f5, hv⟩ := hv
  refine w_cV0_1 (pc := 13) C cl_X8_25 lv_X8_add (by decide) dX8_addFraction_13 (Nat.le_of_ble_eq_true rfl) (c := 8) rfl f5 (hv.mono (fun v h6 hp => ?_))
  obtain ⟨rfl, hv⟩ := hp
  exact w_vret (pc := 16) C dX8_addFraction_16 hv
theorem dX8_number_0 : decode cX8_number 0 = .ok (.iload_n 1, 1) := by decide +kernel
theorem dX8_number_1 : decode cX8_number 1 = .ok (.ifCond .lt 21, 3) := by decide +kernel
theorem dX8_number_4 : decode cX8_number 4 = .ok (.iload_n 1, 1) := by decide +kernel
theorem dX8_number_5 : decode cX8_number 5 = .ok (.aload_n 0, 1) := by decide +kernel
theorem dX8_number_6 : decode cX8_number 6 = .ok (.getfield 9, 3) := by decide +kernel
theorem dX8_number_9 : decode cX8_number 9 = .ok (.arraylength, 1) := by decide +kernel
theorem dX8_number_10 : decode cX8_number 10 = .ok (.if_icmp .ge 12, 3) := by decide +kernel
theorem dX8_number_13 : decode cX8_number 13 = .ok (.aload_n 0, 1) := by decide +kernel
theorem dX8_number_14 : decode cX8_number 14 = .ok (.getfield 9, 3) := by decide +kernel
theorem dX8_number_17 : decode cX8_number 17 = .ok (.iload_n 1, 1) := by decide +kernel
theorem dX8_number_18 : decode cX8_number 18 = .ok (.laload, 1) := by decide +kernel
theorem dX8_number_19 : decode cX8_number 19 = .ok (.goto 4, 3) := by decide +kernel
theorem dX8_number_22 : decode cX8_number 22 = .ok (.lconst 0, 1) := by decide +kernel
theorem dX8_number_23 : decode cX8_number 23 = .ok (.lreturn, 1) := by decide +kernel
set_option maxRecDepth 20000 in
set_option maxHeartbeats 2000000 in
theorem V_X8_number_0 {X : Ctx} (C : C_X8_number X) {k n : Nat} {Q : Pq} {h : Hp} {v0 : Nat} {v1 : Int32}
    (hv : ((v1 < 0 → Q (some (.long 0)) h) ∧
    (¬ v1 < 0 → kd h v0 = 9 ∧ nn h v0 0 ∧ kd h (gp h v0 0) = 21 ∧ (((Int32.ofNat (ln h (gp h v0 0))) ≤ v1 → Q (some (.long 0)) h) ∧
    (¬ (Int32.ofNat (ln h (gp h v0 0))) ≤ v1 → inb v1 (ln h (gp h v0 0)) ∧ Q (some (.long (gl h (gp h v0 0) (ix v1)))) h))))) :
    Wj X k n Q 0 [(0, .ref v0), (1, .int v1)] [] h := by
  refine w_iload_n (pc := 0) C dX8_number_0 rfl ?_
  refine w_if_lt (pc := 1) C (tgt := 22) dX8_number_1 (by decide) ?_
  obtain ⟨hv1, hv2⟩ := hv
  refine ⟨fun c6 => ?_, fun c6 => ?_⟩
  · have hv := hv1 c6
    refine w_lconst (pc := 22) C (v := 0) dX8_number_22 (by decide) ?_
    exact w_lret (pc := 23) C dX8_number_23 hv
  · have hv := hv2 c6
    refine w_iload_n (pc := 4) C dX8_number_4 rfl ?_
    refine w_aload_n (pc := 5) C dX8_number_5 rfl ?_
    obtain ⟨f1, hv⟩ := hv
    obtain ⟨f2, hv⟩ := hv
    refine w_getR (pc := 6) C fl_X8_9 rfl dX8_number_6 f1 f2 ?_
    obtain ⟨f3, hv⟩ := hv
    refine w_alen (pc := 9) 1 (by decide) C dX8_number_9 f3 ?_
    refine w_icmp_ge (pc := 10) C (tgt := 22) dX8_number_10 (by decide) ?_
    obtain ⟨hv1, hv2⟩ := hv
    refine ⟨fun c5 => ?_, fun c5 => ?_⟩
    · have hv := hv1 c5
      refine w_lconst (pc := 22) C (v := 0) dX8_number_22 (by decide) ?_
      exact w_lret (pc := 23) C dX8_number_23 hv
    · have hv := hv2 c5
      refine w_aload_n (pc := 13) C dX8_number_13 rfl ?_
      refine w_getR (pc := 14) C fl_X8_9 rfl dX8_number_14 f1 f2 ?_
      refine w_iload_n (pc := 17) C dX8_number_17 rfl ?_
      obtain ⟨f4, hv⟩ := hv
      refine w_lald (pc := 18) C dX8_number_18 f3 f4 ?_
      refine w_goto (pc := 19) C (tgt := 23) dX8_number_19 (by decide) ?_
      exact w_lret (pc := 23) C dX8_number_23 hv
