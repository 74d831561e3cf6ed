-- the class: trains (by program: gen_parts.py)
theorem dX5_init_0 : decode cX5_init 0 = .ok (.aload_n 0, 1) := by decide +kernel
theorem dX5_init_1 : decode cX5_init 1 = .ok (.invokespecial 3, 3) := by decide +kernel
theorem dX5_init_4 : decode cX5_init 4 = .ok (.aload_n 0, 1) := by decide +kernel
theorem dX5_init_5 : decode cX5_init 5 = .ok (.iconst 0, 1) := by decide +kernel
theorem dX5_init_6 : decode cX5_init 6 = .ok (.putfield 9, 3) := by decide +kernel
theorem dX5_init_9 : decode cX5_init 9 = .ok (.aload_n 0, 1) := by decide +kernel
theorem dX5_init_10 : decode cX5_init 10 = .ok (.iconst 0, 1) := by decide +kernel
theorem dX5_init_11 : decode cX5_init 11 = .ok (.putfield 15, 3) := by decide +kernel
theorem dX5_init_14 : decode cX5_init 14 = .ok (.aload_n 0, 1) := by decide +kernel
theorem dX5_init_15 : decode cX5_init 15 = .ok (.bipush 12, 2) := by decide +kernel
theorem dX5_init_17 : decode cX5_init 17 = .ok (.newarray .int, 2) := by decide +kernel
theorem dX5_init_19 : decode cX5_init 19 = .ok (.putfield 18, 3) := by decide +kernel
theorem dX5_init_22 : decode cX5_init 22 = .ok (.aload_n 0, 1) := by decide +kernel
theorem dX5_init_23 : decode cX5_init 23 = .ok (.sipush 3102, 3) := by decide +kernel
theorem dX5_init_26 : decode cX5_init 26 = .ok (.newarray .int, 2) := by decide +kernel
theorem dX5_init_28 : decode cX5_init 28 = .ok (.putfield 22, 3) := by decide +kernel
theorem dX5_init_31 : decode cX5_init 31 = .ok (.aload_n 0, 1) := by decide +kernel
theorem dX5_init_32 : decode cX5_init 32 = .ok (.sipush 3102, 3) := by decide +kernel
theorem dX5_init_35 : decode cX5_init 35 = .ok (.newarray .int, 2) := by decide +kernel
theorem dX5_init_37 : decode cX5_init 37 = .ok (.putfield 25, 3) := by decide +kernel
theorem dX5_init_40 : decode cX5_init 40 = .ok (.aload_n 0, 1) := by decide +kernel
theorem dX5_init_41 : decode cX5_init 41 = .ok (.sipush 3102, 3) := by decide +kernel
theorem dX5_init_44 : decode cX5_init 44 = .ok (.newarray .int, 2) := by decide +kernel
theorem dX5_init_46 : decode cX5_init 46 = .ok (.putfield 28, 3) := by decide +kernel
theorem dX5_init_49 : decode cX5_init 49 = .ok (.aload_n 0, 1) := by decide +kernel
theorem dX5_init_50 : decode cX5_init 50 = .ok (.sipush 8192, 3) := by decide +kernel
theorem dX5_init_53 : decode cX5_init 53 = .ok (.newarray .int, 2) := by decide +kernel
theorem dX5_init_55 : decode cX5_init 55 = .ok (.putfield 31, 3) := by decide +kernel
theorem dX5_init_58 : decode cX5_init 58 = .ok (.return_, 1) := by decide +kernel
set_option maxRecDepth 20000 in
set_option maxHeartbeats 2000000 in
theorem V_X5_init_0 {X : Ctx} (C : C_X5_init X) {k n : Nat} {Q : Pq} {h : Hp} {v0 : Nat}
    (hv : kd h v0 = 6 ∧ k + 1 ≤ mcX X ∧ n + 12 ≤ msX X ∧ kd (nw h 20 12) v0 = 6 ∧ Wj X (k + 1) (n + 12) Q 22 [(0, .ref v0)] [] (sr (nw (si (si h v0 0 0) v0 1 0) 20 12) v0 2 (some (hn h)))) :
    Wj X k n Q 0 [(0, .ref v0)] [] h := by
  refine w_aload_n (pc := 0) C dX5_init_0 rfl ?_
  refine w_objInit (pc := 1) C oi_X5_3 ow_1 ow_2 dX5_init_1 (by decide) (Nat.le_of_ble_eq_true rfl) ?_
  refine w_aload_n (pc := 4) C dX5_init_4 rfl ?_
  refine w_iconst (pc := 5) C (v := 0) dX5_init_5 (by decide) ?_
  obtain ⟨f1, hv⟩ := hv
  refine w_putI (pc := 6) C fl_X5_9 rfl rfl dX5_init_6 f1 ?_
  refine w_aload_n (pc := 9) C dX5_init_9 rfl ?_
  refine w_iconst (pc := 10) C (v := 0) dX5_init_10 (by decide) ?_
  refine w_putI (pc := 11) C fl_X5_15 rfl rfl dX5_init_11 f1 ?_
  refine w_aload_n (pc := 14) C dX5_init_14 rfl ?_
  refine w_bipush (pc := 15) C (v := 12) dX5_init_15 (by decide) ?_
  obtain ⟨f2, hv⟩ := hv
  obtain ⟨f3, hv⟩ := hv
  refine w_newa (pc := 17) (atype := .int) 0 (N := 12) C ac_int rfl rfl (by decide) dX5_init_17 (by decide) (by decide) (Nat.le_of_ble_eq_true rfl) f2 f3 ?_
  obtain ⟨f4, hv⟩ := hv
  refine w_putRF (pc := 19) C fl_X5_18 rfl rfl rfl dX5_init_19 f4 ?_
  refine w_sub ?_ hv
  exact ⟨rfl, trivial⟩
set_option maxRecDepth 20000 in
set_option maxHeartbeats 2000000 in
theorem V_X5_init_22 {X : Ctx} (C : C_X5_init X) {k n : Nat} {Q : Pq} {h : Hp} {v0 : Nat}
    (hv : k + 1 ≤ mcX X ∧ n + 3102 ≤ msX X ∧ kd (nw h 20 3102) v0 = 6 ∧ k + 1 + 1 ≤ mcX X ∧ n + 3102 + 3102 ≤ msX X ∧ kd (nw (nw h 20 3102) 20 3102) v0 = 6 ∧ k + 1 + 1 + 1 ≤ mcX X ∧ n + 3102 + 3102 + 3102 ≤ msX X ∧ kd (nw (nw (nw h 20 3102) 20 3102) 20 3102) v0 = 6 ∧ Wj X (k + 1 + 1 + 1) (n + 3102 + 3102 + 3102) Q 49 [(0, .ref v0)] [] (sr (nw (sr (nw (sr (nw h 20 3102) v0 3 (some (hn h))) 20 3102) v0 4 (some (hn (nw h 20 3102)))) 20 3102) v0 5 (some (hn (nw (nw h 20 3102) 20 3102))))) :
    Wj X k n Q 22 [(0, .ref v0)] [] h := by
  refine w_aload_n (pc := 22) C dX5_init_22 rfl ?_
  refine w_sipush (pc := 23) C (v := 3102) dX5_init_23 (by decide) ?_
  obtain ⟨f1, hv⟩ := hv
  obtain ⟨f2, hv⟩ := hv
  refine w_newa (pc := 26) (atype := .int) 0 (N := 3102) C ac_int rfl rfl (by decide) dX5_init_26 (by decide) (by decide) (Nat.le_of_ble_eq_true rfl) f1 f2 ?_
  obtain ⟨f3, hv⟩ := hv
  refine w_putRF (pc := 28) C fl_X5_22 rfl rfl rfl dX5_init_28 f3 ?_
  refine w_aload_n (pc := 31) C dX5_init_31 rfl ?_
  refine w_sipush (pc := 32) C (v := 3102) dX5_init_32 (by decide) ?_
  obtain ⟨f4, hv⟩ := hv
  obtain ⟨f5, hv⟩ := hv
  refine w_newa (pc := 35) (atype := .int) 0 (N := 3102) C ac_int rfl rfl (by decide) dX5_init_35 (by decide) (by decide) (Nat.le_of_ble_eq_true rfl) f4 f5 ?_
  obtain ⟨f6, hv⟩ := hv
  refine w_putRF (pc := 37) C fl_X5_25 rfl rfl rfl dX5_init_37 f6 ?_
  refine w_aload_n (pc := 40) C dX5_init_40 rfl ?_
  refine w_sipush (pc := 41) C (v := 3102) dX5_init_41 (by decide) ?_
  obtain ⟨f7, hv⟩ := hv
  obtain ⟨f8, hv⟩ := hv
  refine w_newa (pc := 44) (atype := .int) 0 (N := 3102) C ac_int rfl rfl (by decide) dX5_init_44 (by decide) (by decide) (Nat.le_of_ble_eq_true rfl) f7 f8 ?_
  obtain ⟨f9, hv⟩ := hv
  refine w_putRF (pc := 46) C fl_X5_28 rfl rfl rfl dX5_init_46 f9 ?_
  refine w_sub ?_ hv
  exact ⟨rfl, trivial⟩
set_option maxRecDepth 20000 in
set_option maxHeartbeats 2000000 in
theorem V_X5_init_49 {X : Ctx} (C : C_X5_init X) {k n : Nat} {Q : Pq} {h : Hp} {v0 : Nat}
    (hv : k + 1 ≤ mcX X ∧ n + 8192 ≤ msX X ∧ kd (nw h 20 8192) v0 = 6 ∧ Q none (sr (nw h 20 8192) v0 6 (some (hn h)))) :
    Wj X k n Q 49 [(0, .ref v0)] [] h := by
  refine w_aload_n (pc := 49) C dX5_init_49 rfl ?_
  refine w_sipush (pc := 50) C (v := 8192) dX5_init_50 (by decide) ?_
  obtain ⟨f1, hv⟩ := hv
  obtain ⟨f2, hv⟩ := hv
  refine w_newa (pc := 53) (atype := .int) 0 (N := 8192) C ac_int rfl rfl (by decide) dX5_init_53 (by decide) (by decide) (Nat.le_of_ble_eq_true rfl) f1 f2 ?_
  obtain ⟨f3, hv⟩ := hv
  refine w_putRF (pc := 55) C fl_X5_31 rfl rfl rfl dX5_init_55 f3 ?_
  exact w_vret (pc := 58) C dX5_init_58 hv
theorem dX5_slotOf_0 : decode cX5_slotOf 0 = .ok (.iload_n 1, 1) := by decide +kernel
theorem dX5_slotOf_1 : decode cX5_slotOf 1 = .ok (.ldc 72, 2) := by decide +kernel
theorem dX5_slotOf_3 : decode cX5_slotOf 3 = .ok (.imul, 1) := by decide +kernel
theorem dX5_slotOf_4 : decode cX5_slotOf 4 = .ok (.iload_n 2, 1) := by decide +kernel
theorem dX5_slotOf_5 : decode cX5_slotOf 5 = .ok (.ldc 73, 2) := by decide +kernel
theorem dX5_slotOf_7 : decode cX5_slotOf 7 = .ok (.imul, 1) := by decide +kernel
theorem dX5_slotOf_8 : decode cX5_slotOf 8 = .ok (.iadd, 1) := by decide +kernel
theorem dX5_slotOf_9 : decode cX5_slotOf 9 = .ok (.bipush 19, 2) := by decide +kernel
theorem dX5_slotOf_11 : decode cX5_slotOf 11 = .ok (.iushr, 1) := by decide +kernel
theorem dX5_slotOf_12 : decode cX5_slotOf 12 = .ok (.istore_n 3, 1) := by decide +kernel
theorem dX5_slotOf_13 : decode cX5_slotOf 13 = .ok (.iconst 0, 1) := by decide +kernel
theorem dX5_slotOf_14 : decode cX5_slotOf 14 = .ok (.istore 4, 2) := by decide +kernel
theorem dX5_slotOf_16 : decode cX5_slotOf 16 = .ok (.iload 4, 2) := by decide +kernel
theorem dX5_slotOf_18 : decode cX5_slotOf 18 = .ok (.sipush 8192, 3) := by decide +kernel
theorem dX5_slotOf_21 : decode cX5_slotOf 21 = .ok (.if_icmp .ge 65, 3) := by decide +kernel
theorem dX5_slotOf_24 : decode cX5_slotOf 24 = .ok (.iload_n 3, 1) := by decide +kernel
theorem dX5_slotOf_25 : decode cX5_slotOf 25 = .ok (.sipush 8191, 3) := by decide +kernel
theorem dX5_slotOf_28 : decode cX5_slotOf 28 = .ok (.iand, 1) := by decide +kernel
theorem dX5_slotOf_29 : decode cX5_slotOf 29 = .ok (.istore_n 3, 1) := by decide +kernel
theorem dX5_slotOf_30 : decode cX5_slotOf 30 = .ok (.aload_n 0, 1) := by decide +kernel
theorem dX5_slotOf_31 : decode cX5_slotOf 31 = .ok (.getfield 31, 3) := by decide +kernel
theorem dX5_slotOf_34 : decode cX5_slotOf 34 = .ok (.iload_n 3, 1) := by decide +kernel
theorem dX5_slotOf_35 : decode cX5_slotOf 35 = .ok (.iaload, 1) := by decide +kernel
theorem dX5_slotOf_36 : decode cX5_slotOf 36 = .ok (.iconst 1, 1) := by decide +kernel
theorem dX5_slotOf_37 : decode cX5_slotOf 37 = .ok (.isub, 1) := by decide +kernel
theorem dX5_slotOf_38 : decode cX5_slotOf 38 = .ok (.istore 5, 2) := by decide +kernel
theorem dX5_slotOf_40 : decode cX5_slotOf 40 = .ok (.iload 5, 2) := by decide +kernel
theorem dX5_slotOf_42 : decode cX5_slotOf 42 = .ok (.ifCond .lt 33, 3) := by decide +kernel
theorem dX5_slotOf_45 : decode cX5_slotOf 45 = .ok (.iload 5, 2) := by decide +kernel
theorem dX5_slotOf_47 : decode cX5_slotOf 47 = .ok (.sipush 3102, 3) := by decide +kernel
theorem dX5_slotOf_50 : decode cX5_slotOf 50 = .ok (.if_icmp .ge 27, 3) := by decide +kernel
theorem dX5_slotOf_53 : decode cX5_slotOf 53 = .ok (.aload_n 0, 1) := by decide +kernel
theorem dX5_slotOf_54 : decode cX5_slotOf 54 = .ok (.getfield 22, 3) := by decide +kernel
theorem dX5_slotOf_57 : decode cX5_slotOf 57 = .ok (.iload 5, 2) := by decide +kernel
theorem dX5_slotOf_59 : decode cX5_slotOf 59 = .ok (.iaload, 1) := by decide +kernel
theorem dX5_slotOf_60 : decode cX5_slotOf 60 = .ok (.iload_n 1, 1) := by decide +kernel
theorem dX5_slotOf_61 : decode cX5_slotOf 61 = .ok (.if_icmp .ne 16, 3) := by decide +kernel
theorem dX5_slotOf_64 : decode cX5_slotOf 64 = .ok (.aload_n 0, 1) := by decide +kernel
theorem dX5_slotOf_65 : decode cX5_slotOf 65 = .ok (.getfield 25, 3) := by decide +kernel
theorem dX5_slotOf_68 : decode cX5_slotOf 68 = .ok (.iload 5, 2) := by decide +kernel
theorem dX5_slotOf_70 : decode cX5_slotOf 70 = .ok (.iaload, 1) := by decide +kernel
theorem dX5_slotOf_71 : decode cX5_slotOf 71 = .ok (.iload_n 2, 1) := by decide +kernel
theorem dX5_slotOf_72 : decode cX5_slotOf 72 = .ok (.if_icmp .ne 5, 3) := by decide +kernel
theorem dX5_slotOf_75 : decode cX5_slotOf 75 = .ok (.iload_n 3, 1) := by decide +kernel
theorem dX5_slotOf_76 : decode cX5_slotOf 76 = .ok (.ireturn, 1) := by decide +kernel
theorem dX5_slotOf_77 : decode cX5_slotOf 77 = .ok (.iinc 3 1, 3) := by decide +kernel
theorem dX5_slotOf_80 : decode cX5_slotOf 80 = .ok (.iinc 4 1, 3) := by decide +kernel
theorem dX5_slotOf_83 : decode cX5_slotOf 83 = .ok (.goto (-67), 3) := by decide +kernel
theorem dX5_slotOf_86 : decode cX5_slotOf 86 = .ok (.iconst (-1), 1) := by decide +kernel
theorem dX5_slotOf_87 : decode cX5_slotOf 87 = .ok (.ireturn, 1) := by decide +kernel
set_option maxRecDepth 20000 in
set_option maxHeartbeats 2000000 in
theorem V_X5_slotOf_0 {X : Ctx} (C : C_X5_slotOf X) {k n : Nat} {Q : Pq} {h : Hp} {v0 : Nat} {v1 v2 : Int32}
    (hv : Wj X k n Q 16 [(0, .ref v0), (1, .int v1), (2, .int v2), (3, .int (iushr ((v1 * (-1640531535)) + (v2 * (-2048144789))) 19)), (4, .int 0)] [] h) :
    Wj X k n Q 0 [(0, .ref v0), (1, .int v1), (2, .int v2)] [] h := by
  refine w_iload_n (pc := 0) C dX5_slotOf_0 rfl ?_
  refine w_ldc (pc := 1) C ct_X5_72 dX5_slotOf_1 ?_
  refine w_imul (pc := 3) C dX5_slotOf_3 ?_
  refine w_iload_n (pc := 4) C dX5_slotOf_4 rfl ?_
  refine w_ldc (pc := 5) C ct_X5_73 dX5_slotOf_5 ?_
  refine w_imul (pc := 7) C dX5_slotOf_7 ?_
  refine w_iadd (pc := 8) C dX5_slotOf_8 ?_
  refine w_bipush (pc := 9) C (v := 19) dX5_slotOf_9 (by decide) ?_
  refine w_iushr (pc := 11) C dX5_slotOf_11 ?_
  refine w_istore_n (pc := 12) C dX5_slotOf_12 (by decide) ?_
  refine w_iconst (pc := 13) C (v := 0) dX5_slotOf_13 (by decide) ?_
  refine w_istore (pc := 14) C dX5_slotOf_14 (by decide) ?_
  refine w_sub ?_ hv
  exact ⟨rfl, rfl, rfl, rfl, rfl, trivial⟩
set_option maxRecDepth 20000 in
set_option maxHeartbeats 2000000 in
theorem V_X5_slotOf_16 {X : Ctx} (C : C_X5_slotOf X) {k n : Nat} {Q : Pq} {h : Hp} {v0 : Nat} {v1 v2 v3 v4 : Int32}
    (hv : ((8192 ≤ v4 → Q (some (.int (-1))) h) ∧
    (¬ 8192 ≤ v4 → St5 h v0 ∧ inb (v3 &&& 8191) 8192 ∧ ((((gi h (v0 + 5) (ix (v3 &&& 8191))) - 1) < 0 → Q (some (.int (v3 &&& 8191))) h) ∧
    (¬ ((gi h (v0 + 5) (ix (v3 &&& 8191))) - 1) < 0 → ((3102 ≤ ((gi h (v0 + 5) (ix (v3 &&& 8191))) - 1) → Wj X k n Q 16 [(0, .ref v0), (1, .int v1), (2, .int v2), (3, .int ((v3 &&& 8191) + Int32.ofInt 1)), (4, .int (v4 + Int32.ofInt 1))] [] h) ∧
    (¬ 3102 ≤ ((gi h (v0 + 5) (ix (v3 &&& 8191))) - 1) → inb ((gi h (v0 + 5) (ix (v3 &&& 8191))) - 1) 3102 ∧ ((¬ (gi h (v0 + 2) (ix ((gi h (v0 + 5) (ix (v3 &&& 8191))) - 1))) = v1 → Wj X k n Q 16 [(0, .ref v0), (1, .int v1), (2, .int v2), (3, .int ((v3 &&& 8191) + Int32.ofInt 1)), (4, .int (v4 + Int32.ofInt 1))] [] h) ∧
    ((gi h (v0 + 2) (ix ((gi h (v0 + 5) (ix (v3 &&& 8191))) - 1))) = v1 → ((¬ (gi h (v0 + 3) (ix ((gi h (v0 + 5) (ix (v3 &&& 8191))) - 1))) = v2 → Wj X k n Q 16 [(0, .ref v0), (1, .int v1), (2, .int v2), (3, .int ((v3 &&& 8191) + Int32.ofInt 1)), (4, .int (v4 + Int32.ofInt 1))] [] h) ∧
    ((gi h (v0 + 3) (ix ((gi h (v0 + 5) (ix (v3 &&& 8191))) - 1))) = v2 → Q (some (.int (v3 &&& 8191))) h))))))))))) :
    Wj X k n Q 16 [(0, .ref v0), (1, .int v1), (2, .int v2), (3, .int v3), (4, .int v4)] [] h := by
  refine w_iload (pc := 16) C dX5_slotOf_16 rfl ?_
  refine w_sipush (pc := 18) C (v := 8192) dX5_slotOf_18 (by decide) ?_
  refine w_icmp_ge (pc := 21) C (tgt := 86) dX5_slotOf_21 (by decide) ?_
  obtain ⟨hv1, hv2⟩ := hv
  refine ⟨fun c8 => ?_, fun c8 => ?_⟩
  · have hv := hv1 c8
    refine w_iconst (pc := 86) C (v := (-1)) dX5_slotOf_86 (by decide) ?_
    exact w_iret (pc := 87) C dX5_slotOf_87 hv
  · have hv := hv2 c8
    refine w_iload_n (pc := 24) C dX5_slotOf_24 rfl ?_
    refine w_sipush (pc := 25) C (v := 8191) dX5_slotOf_25 (by decide) ?_
    refine w_iand (pc := 28) C dX5_slotOf_28 ?_
    refine w_istore_n (pc := 29) C dX5_slotOf_29 (by decide) ?_
    refine w_aload_n (pc := 30) C dX5_slotOf_30 rfl ?_
    obtain ⟨f1, hv⟩ := hv
    refine w_getR (pc := 31) C fl_X5_31 rfl dX5_slotOf_31 (St5_k f1) (St5_r6 f1) ?_
    refine w_iload_n (pc := 34) C dX5_slotOf_34 rfl ?_
    obtain ⟨f2, hv⟩ := hv
    refine w_iald (pc := 35) C dX5_slotOf_35 (St5_k6 f1) (inbl (St5_l6 f1) f2) ?_
    refine w_iconst (pc := 36) C (v := 1) dX5_slotOf_36 (by decide) ?_
    refine w_isub (pc := 37) C dX5_slotOf_37 ?_
    refine w_istore (pc := 38) C dX5_slotOf_38 (by decide) ?_
    refine w_iload (pc := 40) C dX5_slotOf_40 rfl ?_
    refine w_if_lt (pc := 42) C (tgt := 75) dX5_slotOf_42 (by decide) ?_
    obtain ⟨hv1, hv2⟩ := hv
    refine ⟨fun c7 => ?_, fun c7 => ?_⟩
    · have hv := hv1 c7
      refine w_iload_n (pc := 75) C dX5_slotOf_75 rfl ?_
      exact w_iret (pc := 76) C dX5_slotOf_76 hv
    · have hv := hv2 c7
      refine w_iload (pc := 45) C dX5_slotOf_45 rfl ?_
      refine w_sipush (pc := 47) C (v := 3102) dX5_slotOf_47 (by decide) ?_
      refine w_icmp_ge (pc := 50) C (tgt := 77) dX5_slotOf_50 (by decide) ?_
      obtain ⟨hv1, hv2⟩ := hv
      refine ⟨fun c6 => ?_, fun c6 => ?_⟩
      · have hv := hv1 c6
        refine w_iinc (pc := 77) C dX5_slotOf_77 rfl (by decide) ?_
        refine w_iinc (pc := 80) C dX5_slotOf_80 rfl (by decide) ?_
        refine w_goto (pc := 83) C (tgt := 16) dX5_slotOf_83 (by decide) ?_
        refine w_sub ?_ hv
        exact ⟨rfl, rfl, rfl, rfl, rfl, trivial⟩
      · have hv := hv2 c6
        refine w_aload_n (pc := 53) C dX5_slotOf_53 rfl ?_
        refine w_getR (pc := 54) C fl_X5_22 rfl dX5_slotOf_54 (St5_k f1) (St5_r3 f1) ?_
        refine w_iload (pc := 57) C dX5_slotOf_57 rfl ?_
        obtain ⟨f3, hv⟩ := hv
        refine w_iald (pc := 59) C dX5_slotOf_59 (St5_k3 f1) (inbl (St5_l3 f1) f3) ?_
        refine w_iload_n (pc := 60) C dX5_slotOf_60 rfl ?_
        refine w_icmp_ne (pc := 61) C (tgt := 77) dX5_slotOf_61 (by decide) ?_
        obtain ⟨hv1, hv2⟩ := hv
        refine ⟨fun c5 => ?_, fun c5 => ?_⟩
        · have hv := hv1 c5
          refine w_iinc (pc := 77) C dX5_slotOf_77 rfl (by decide) ?_
          refine w_iinc (pc := 80) C dX5_slotOf_80 rfl (by decide) ?_
          refine w_goto (pc := 83) C (tgt := 16) dX5_slotOf_83 (by decide) ?_
          refine w_sub ?_ hv
          exact ⟨rfl, rfl, rfl, rfl, rfl, trivial⟩
        · have hv := hv2 c5
          refine w_aload_n (pc := 64) C dX5_slotOf_64 rfl ?_
          refine w_getR (pc := 65) C fl_X5_25 rfl dX5_slotOf_65 (St5_k f1) (St5_r4 f1) ?_
          refine w_iload (pc := 68) C dX5_slotOf_68 rfl ?_
          refine w_iald (pc := 70) C dX5_slotOf_70 (St5_k4 f1) (inbl (St5_l4 f1) f3) ?_
          refine w_iload_n (pc := 71) C dX5_slotOf_71 rfl ?_
          refine w_icmp_ne (pc := 72) C (tgt := 77) dX5_slotOf_72 (by decide) ?_
          obtain ⟨hv1, hv2⟩ := hv
          refine ⟨fun c4 => ?_, fun c4 => ?_⟩
          · have hv := hv1 c4
            refine w_iinc (pc := 77) C dX5_slotOf_77 rfl (by decide) ?_
            refine w_iinc (pc := 80) C dX5_slotOf_80 rfl (by decide) ?_
            refine w_goto (pc := 83) C (tgt := 16) dX5_slotOf_83 (by decide) ?_
            refine w_sub ?_ hv
            exact ⟨rfl, rfl, rfl, rfl, rfl, trivial⟩
          · have hv := hv2 c4
            refine w_iload_n (pc := 75) C dX5_slotOf_75 rfl ?_
            exact w_iret (pc := 76) C dX5_slotOf_76 hv
theorem dX5_add_0 : decode cX5_add 0 = .ok (.iload_n 1, 1) := by decide +kernel
theorem dX5_add_1 : decode cX5_add 1 = .ok (.i2l, 1) := by decide +kernel
theorem dX5_add_2 : decode cX5_add 2 = .ok (.iload_n 2, 1) := by decide +kernel
theorem dX5_add_3 : decode cX5_add 3 = .ok (.i2l, 1) := by decide +kernel
theorem dX5_add_4 : decode cX5_add 4 = .ok (.invokestatic 64, 3) := by decide +kernel
theorem dX5_add_7 : decode cX5_add 7 = .ok (.l2i, 1) := by decide +kernel
theorem dX5_add_8 : decode cX5_add 8 = .ok (.istore 4, 2) := by decide +kernel
theorem dX5_add_10 : decode cX5_add 10 = .ok (.iload 4, 2) := by decide +kernel
theorem dX5_add_12 : decode cX5_add 12 = .ok (.ifCond .le 20, 3) := by decide +kernel
theorem dX5_add_15 : decode cX5_add 15 = .ok (.aload_n 0, 1) := by decide +kernel
theorem dX5_add_16 : decode cX5_add 16 = .ok (.getfield 9, 3) := by decide +kernel
theorem dX5_add_19 : decode cX5_add 19 = .ok (.ifCond .lt 13, 3) := by decide +kernel
theorem dX5_add_22 : decode cX5_add 22 = .ok (.aload_n 0, 1) := by decide +kernel
theorem dX5_add_23 : decode cX5_add 23 = .ok (.getfield 9, 3) := by decide +kernel
theorem dX5_add_26 : decode cX5_add 26 = .ok (.sipush 3102, 3) := by decide +kernel
theorem dX5_add_29 : decode cX5_add 29 = .ok (.if_icmp .lt 4, 3) := by decide +kernel
theorem dX5_add_32 : decode cX5_add 32 = .ok (.return_, 1) := by decide +kernel
theorem dX5_add_33 : decode cX5_add 33 = .ok (.aload_n 0, 1) := by decide +kernel
theorem dX5_add_34 : decode cX5_add 34 = .ok (.iload_n 1, 1) := by decide +kernel
theorem dX5_add_35 : decode cX5_add 35 = .ok (.iload 4, 2) := by decide +kernel
theorem dX5_add_37 : decode cX5_add 37 = .ok (.idiv, 1) := by decide +kernel
theorem dX5_add_38 : decode cX5_add 38 = .ok (.iload_n 2, 1) := by decide +kernel
theorem dX5_add_39 : decode cX5_add 39 = .ok (.iload 4, 2) := by decide +kernel
theorem dX5_add_41 : decode cX5_add 41 = .ok (.idiv, 1) := by decide +kernel
theorem dX5_add_42 : decode cX5_add 42 = .ok (.invokevirtual 68, 3) := by decide +kernel
theorem dX5_add_45 : decode cX5_add 45 = .ok (.istore 5, 2) := by decide +kernel
theorem dX5_add_47 : decode cX5_add 47 = .ok (.iload 5, 2) := by decide +kernel
theorem dX5_add_49 : decode cX5_add 49 = .ok (.ifCond .lt 78, 3) := by decide +kernel
theorem dX5_add_52 : decode cX5_add 52 = .ok (.iload 5, 2) := by decide +kernel
theorem dX5_add_54 : decode cX5_add 54 = .ok (.sipush 8192, 3) := by decide +kernel
theorem dX5_add_57 : decode cX5_add 57 = .ok (.if_icmp .ge 70, 3) := by decide +kernel
theorem dX5_add_60 : decode cX5_add 60 = .ok (.aload_n 0, 1) := by decide +kernel
theorem dX5_add_61 : decode cX5_add 61 = .ok (.getfield 31, 3) := by decide +kernel
theorem dX5_add_64 : decode cX5_add 64 = .ok (.iload 5, 2) := by decide +kernel
theorem dX5_add_66 : decode cX5_add 66 = .ok (.iaload, 1) := by decide +kernel
theorem dX5_add_67 : decode cX5_add 67 = .ok (.ifCond .ne 60, 3) := by decide +kernel
theorem dX5_add_70 : decode cX5_add 70 = .ok (.aload_n 0, 1) := by decide +kernel
theorem dX5_add_71 : decode cX5_add 71 = .ok (.getfield 22, 3) := by decide +kernel
theorem dX5_add_74 : decode cX5_add 74 = .ok (.aload_n 0, 1) := by decide +kernel
theorem dX5_add_75 : decode cX5_add 75 = .ok (.getfield 9, 3) := by decide +kernel
theorem dX5_add_78 : decode cX5_add 78 = .ok (.iload_n 1, 1) := by decide +kernel
theorem dX5_add_79 : decode cX5_add 79 = .ok (.iload 4, 2) := by decide +kernel
theorem dX5_add_81 : decode cX5_add 81 = .ok (.idiv, 1) := by decide +kernel
theorem dX5_add_82 : decode cX5_add 82 = .ok (.iastore, 1) := by decide +kernel
theorem dX5_add_83 : decode cX5_add 83 = .ok (.aload_n 0, 1) := by decide +kernel
theorem dX5_add_84 : decode cX5_add 84 = .ok (.getfield 25, 3) := by decide +kernel
theorem dX5_add_87 : decode cX5_add 87 = .ok (.aload_n 0, 1) := by decide +kernel
theorem dX5_add_88 : decode cX5_add 88 = .ok (.getfield 9, 3) := by decide +kernel
theorem dX5_add_91 : decode cX5_add 91 = .ok (.iload_n 2, 1) := by decide +kernel
theorem dX5_add_92 : decode cX5_add 92 = .ok (.iload 4, 2) := by decide +kernel
theorem dX5_add_94 : decode cX5_add 94 = .ok (.idiv, 1) := by decide +kernel
theorem dX5_add_95 : decode cX5_add 95 = .ok (.iastore, 1) := by decide +kernel
theorem dX5_add_96 : decode cX5_add 96 = .ok (.aload_n 0, 1) := by decide +kernel
theorem dX5_add_97 : decode cX5_add 97 = .ok (.getfield 28, 3) := by decide +kernel
theorem dX5_add_100 : decode cX5_add 100 = .ok (.aload_n 0, 1) := by decide +kernel
theorem dX5_add_101 : decode cX5_add 101 = .ok (.getfield 9, 3) := by decide +kernel
theorem dX5_add_104 : decode cX5_add 104 = .ok (.iload_n 3, 1) := by decide +kernel
theorem dX5_add_105 : decode cX5_add 105 = .ok (.iastore, 1) := by decide +kernel
theorem dX5_add_106 : decode cX5_add 106 = .ok (.aload_n 0, 1) := by decide +kernel
theorem dX5_add_107 : decode cX5_add 107 = .ok (.dup, 1) := by decide +kernel
theorem dX5_add_108 : decode cX5_add 108 = .ok (.getfield 9, 3) := by decide +kernel
theorem dX5_add_111 : decode cX5_add 111 = .ok (.iconst 1, 1) := by decide +kernel
theorem dX5_add_112 : decode cX5_add 112 = .ok (.iadd, 1) := by decide +kernel
theorem dX5_add_113 : decode cX5_add 113 = .ok (.putfield 9, 3) := by decide +kernel
theorem dX5_add_116 : decode cX5_add 116 = .ok (.aload_n 0, 1) := by decide +kernel
theorem dX5_add_117 : decode cX5_add 117 = .ok (.getfield 31, 3) := by decide +kernel
theorem dX5_add_120 : decode cX5_add 120 = .ok (.iload 5, 2) := by decide +kernel
theorem dX5_add_122 : decode cX5_add 122 = .ok (.aload_n 0, 1) := by decide +kernel
theorem dX5_add_123 : decode cX5_add 123 = .ok (.getfield 9, 3) := by decide +kernel
theorem dX5_add_126 : decode cX5_add 126 = .ok (.iastore, 1) := by decide +kernel
theorem dX5_add_127 : decode cX5_add 127 = .ok (.return_, 1) := by decide +kernel
set_option maxRecDepth 20000 in
set_option maxHeartbeats 2000000 in
theorem V_X5_add_0 {X : Ctx} (C : C_X5_add X) {k n : Nat} {Q : Pq} {h : Hp} {v0 : Nat} {v1 v2 v3 : Int32}
    (hv : -9223372036854775807 ≤ (Int64.toInt (Int32.toInt64 v1)) ∧ 0 < (Int64.toInt (Int32.toInt64 v2)) ∧ (((Int64.toInt32 (cm (Int32.toInt64 v1) (Int32.toInt64 v2))) ≤ 0 → Q none h) ∧
    (¬ (Int64.toInt32 (cm (Int32.toInt64 v1) (Int32.toInt64 v2))) ≤ 0 → St5 h v0 ∧ (((gi h v0 0) < 0 → Q none h) ∧
    (¬ (gi h v0 0) < 0 → (((gi h v0 0) < 3102 → ¬ (Int64.toInt32 (cm (Int32.toInt64 v1) (Int32.toInt64 v2))) = 0 ∧ S_X5_slotOf (lX X) (dtX X) 0 0 [.ref v0, .int (v1 / (Int64.toInt32 (cm (Int32.toInt64 v1) (Int32.toInt64 v2)))), .int (v2 / (Int64.toInt32 (cm (Int32.toInt64 v1) (Int32.toInt64 v2))))] h (QI fun x6 h5 =>
    ((x6 < 0 → Q none h5) ∧
    (¬ x6 < 0 → ((8192 ≤ x6 → Q none h5) ∧
    (¬ 8192 ≤ x6 → St5 h5 v0 ∧ inb x6 8192 ∧ ((¬ (gi h5 (v0 + 5) (ix x6)) = 0 → Q none h5) ∧
    ((gi h5 (v0 + 5) (ix x6)) = 0 → ¬ (Int64.toInt32 (cm (Int32.toInt64 v1) (Int32.toInt64 v2))) = 0 ∧ inb (gi h5 v0 0) 3102 ∧ inb (gi (si h5 (v0 + 2) (ix (gi h5 v0 0)) (v1 / (Int64.toInt32 (cm (Int32.toInt64 v1) (Int32.toInt64 v2))))) v0 0) 3102 ∧ inb (gi (si (si h5 (v0 + 2) (ix (gi h5 v0 0)) (v1 / (Int64.toInt32 (cm (Int32.toInt64 v1) (Int32.toInt64 v2))))) (v0 + 3) (ix (gi (si h5 (v0 + 2) (ix (gi h5 v0 0)) (v1 / (Int64.toInt32 (cm (Int32.toInt64 v1) (Int32.toInt64 v2))))) v0 0)) (v2 / (Int64.toInt32 (cm (Int32.toInt64 v1) (Int32.toInt64 v2))))) v0 0) 3102 ∧ Q none (si (si (si (si (si h5 (v0 + 2) (ix (gi h5 v0 0)) (v1 / (Int64.toInt32 (cm (Int32.toInt64 v1) (Int32.toInt64 v2))))) (v0 + 3) (ix (gi (si h5 (v0 + 2) (ix (gi h5 v0 0)) (v1 / (Int64.toInt32 (cm (Int32.toInt64 v1) (Int32.toInt64 v2))))) v0 0)) (v2 / (Int64.toInt32 (cm (Int32.toInt64 v1) (Int32.toInt64 v2))))) (v0 + 4) (ix (gi (si (si h5 (v0 + 2) (ix (gi h5 v0 0)) (v1 / (Int64.toInt32 (cm (Int32.toInt64 v1) (Int32.toInt64 v2))))) (v0 + 3) (ix (gi (si h5 (v0 + 2) (ix (gi h5 v0 0)) (v1 / (Int64.toInt32 (cm (Int32.toInt64 v1) (Int32.toInt64 v2))))) v0 0)) (v2 / (Int64.toInt32 (cm (Int32.toInt64 v1) (Int32.toInt64 v2))))) v0 0)) v3) v0 0 ((gi (si (si (si h5 (v0 + 2) (ix (gi h5 v0 0)) (v1 / (Int64.toInt32 (cm (Int32.toInt64 v1) (Int32.toInt64 v2))))) (v0 + 3) (ix (gi (si h5 (v0 + 2) (ix (gi h5 v0 0)) (v1 / (Int64.toInt32 (cm (Int32.toInt64 v1) (Int32.toInt64 v2))))) v0 0)) (v2 / (Int64.toInt32 (cm (Int32.toInt64 v1) (Int32.toInt64 v2))))) (v0 + 4) (ix (gi (si (si h5 (v0 + 2) (ix (gi h5 v0 0)) (v1 / (Int64.toInt32 (cm (Int32.toInt64 v1) (Int32.toInt64 v2))))) (v0 + 3) (ix (gi (si h5 (v0 + 2) (ix (gi h5 v0 0)) (v1 / (Int64.toInt32 (cm (Int32.toInt64 v1) (Int32.toInt64 v2))))) v0 0)) (v2 / (Int64.toInt32 (cm (Int32.toInt64 v1) (Int32.toInt64 v2))))) v0 0)) v3) v0 0) + 1)) (v0 + 5) (ix x6) (gi (si (si (si (si h5 (v0 + 2) (ix (gi h5 v0 0)) (v1 / (Int64.toInt32 (cm (Int32.toInt64 v1) (Int32.toInt64 v2))))) (v0 + 3) (ix (gi (si h5 (v0 + 2) (ix (gi h5 v0 0)) (v1 / (Int64.toInt32 (cm (Int32.toInt64 v1) (Int32.toInt64 v2))))) v0 0)) (v2 / (Int64.toInt32 (cm (Int32.toInt64 v1) (Int32.toInt64 v2))))) (v0 + 4) (ix (gi (si (si h5 (v0 + 2) (ix (gi h5 v0 0)) (v1 / (Int64.toInt32 (cm (Int32.toInt64 v1) (Int32.toInt64 v2))))) (v0 + 3) (ix (gi (si h5 (v0 + 2) (ix (gi h5 v0 0)) (v1 / (Int64.toInt32 (cm (Int32.toInt64 v1) (Int32.toInt64 v2))))) v0 0)) (v2 / (Int64.toInt32 (cm (Int32.toInt64 v1) (Int32.toInt64 v2))))) v0 0)) v3) v0 0 ((gi (si (si (si h5 (v0 + 2) (ix (gi h5 v0 0)) (v1 / (Int64.toInt32 (cm (Int32.toInt64 v1) (Int32.toInt64 v2))))) (v0 + 3) (ix (gi (si h5 (v0 + 2) (ix (gi h5 v0 0)) (v1 / (Int64.toInt32 (cm (Int32.toInt64 v1) (Int32.toInt64 v2))))) v0 0)) (v2 / (Int64.toInt32 (cm (Int32.toInt64 v1) (Int32.toInt64 v2))))) (v0 + 4) (ix (gi (si (si h5 (v0 + 2) (ix (gi h5 v0 0)) (v1 / (Int64.toInt32 (cm (Int32.toInt64 v1) (Int32.toInt64 v2))))) (v0 + 3) (ix (gi (si h5 (v0 + 2) (ix (gi h5 v0 0)) (v1 / (Int64.toInt32 (cm (Int32.toInt64 v1) (Int32.toInt64 v2))))) v0 0)) (v2 / (Int64.toInt32 (cm (Int32.toInt64 v1) (Int32.toInt64 v2))))) v0 0)) v3) v0 0) + 1)) v0 0)))))))))) ∧
    (¬ (gi h v0 0) < 3102 → Q none h))))))) :
    Wj X k n Q 0 [(0, .ref v0), (1, .int v1), (2, .int v2), (3, .int v3)] [] h := by
  refine w_iload_n (pc := 0) C dX5_add_0 rfl ?_
  refine w_i2l (pc := 1) C dX5_add_1 ?_
  refine w_iload_n (pc := 2) C dX5_add_2 rfl ?_
  refine w_i2l (pc := 3) C dX5_add_3 ?_
  obtain ⟨f1, hv⟩ := hv
  obtain ⟨f2, hv⟩ := hv
  refine w_cSN0_2 (pc := 4) C cl_X5_64 ls_X9_common (by decide) dX5_add_4 (Nat.le_of_ble_eq_true rfl) ((sf_X9_common (h := h) f1 f2).mono (fun v h9 hp => ?_))
  obtain ⟨e1, e2⟩ := hp
  rw [e1, e2]
  refine w_l2i (pc := 7) C dX5_add_7 ?_
  refine w_istore (pc := 8) C dX5_add_8 (by decide) ?_
  refine w_iload (pc := 10) C dX5_add_10 rfl ?_
  refine w_if_le (pc := 12) C (tgt := 32) dX5_add_12 (by decide) ?_
  obtain ⟨hv1, hv2⟩ := hv
  refine ⟨fun c18 => ?_, fun c18 => ?_⟩
  · have hv := hv1 c18
    exact w_vret (pc := 32) C dX5_add_32 hv
  · have hv := hv2 c18
    refine w_aload_n (pc := 15) C dX5_add_15 rfl ?_
    obtain ⟨f3, hv⟩ := hv
    refine w_getI (pc := 16) C fl_X5_9 rfl dX5_add_16 (St5_k f3) ?_
    refine w_if_lt (pc := 19) C (tgt := 32) dX5_add_19 (by decide) ?_
    obtain ⟨hv1, hv2⟩ := hv
    refine ⟨fun c17 => ?_, fun c17 => ?_⟩
    · have hv := hv1 c17
      exact w_vret (pc := 32) C dX5_add_32 hv
    · have hv := hv2 c17
      refine w_aload_n (pc := 22) C dX5_add_22 rfl ?_
      refine w_getI (pc := 23) C fl_X5_9 rfl dX5_add_23 (St5_k f3) ?_
      refine w_sipush (pc := 26) C (v := 3102) dX5_add_26 (by decide) ?_
      refine w_icmp_lt (pc := 29) C (tgt := 33) dX5_add_29 (by decide) ?_
      obtain ⟨hv1, hv2⟩ := hv
      refine ⟨fun c16 => ?_, fun c16 => ?_⟩
      · have hv := hv1 c16
        refine w_aload_n (pc := 33) C dX5_add_33 rfl ?_
        refine w_iload_n (pc := 34) C dX5_add_34 rfl ?_
        refine w_iload (pc := 35) C dX5_add_35 rfl ?_
        obtain ⟨f4, hv⟩ := hv
        refine w_idiv (pc := 37) C dX5_add_37 f4 ?_
        refine w_iload_n (pc := 38) C dX5_add_38 rfl ?_
        refine w_iload (pc := 39) C dX5_add_39 rfl ?_
        refine w_idiv (pc := 41) C dX5_add_41 f4 ?_
        refine w_cV0_2 (pc := 42) C cl_X5_68 lv_X5_slotOf (by decide) dX5_add_42 (Nat.le_of_ble_eq_true rfl) (c := 5) rfl (St5_k f3) (hv.mono (fun v h5 hp => ?_))
        obtain ⟨x6, rfl, hv⟩ := hp
        refine w_istore (pc := 45) C dX5_add_45 (by decide) ?_
        refine w_iload (pc := 47) C dX5_add_47 rfl ?_
        refine w_if_lt (pc := 49) C (tgt := 127) dX5_add_49 (by decide) ?_
        obtain ⟨hv1, hv2⟩ := hv
        refine ⟨fun c15 => ?_, fun c15 => ?_⟩
        · have hv := hv1 c15
          exact w_vret (pc := 127) C dX5_add_127 hv
        · have hv := hv2 c15
          refine w_iload (pc := 52) C dX5_add_52 rfl ?_
          refine w_sipush (pc := 54) C (v := 8192) dX5_add_54 (by decide) ?_
          refine w_icmp_ge (pc := 57) C (tgt := 127) dX5_add_57 (by decide) ?_
          obtain ⟨hv1, hv2⟩ := hv
          refine ⟨fun c14 => ?_, fun c14 => ?_⟩
          · have hv := hv1 c14
            exact w_vret (pc := 127) C dX5_add_127 hv
          · have hv := hv2 c14
            refine w_aload_n (pc := 60) C dX5_add_60 rfl ?_
            obtain ⟨f7, hv⟩ := hv
            refine w_getR (pc := 61) C fl_X5_31 rfl dX5_add_61 (St5_k f7) (St5_r6 f7) ?_
            refine w_iload (pc := 64) C dX5_add_64 rfl ?_
            obtain ⟨f8, hv⟩ := hv
            refine w_iald (pc := 66) C dX5_add_66 (St5_k6 f7) (inbl (St5_l6 f7) f8) ?_
            refine w_if_ne (pc := 67) C (tgt := 127) dX5_add_67 (by decide) ?_
            obtain ⟨hv1, hv2⟩ := hv
            refine ⟨fun c13 => ?_, fun c13 => ?_⟩
            · have hv := hv1 c13
              exact w_vret (pc := 127) C dX5_add_127 hv
            · have hv := hv2 c13
              refine w_aload_n (pc := 70) C dX5_add_70 rfl ?_
              refine w_getR (pc := 71) C fl_X5_22 rfl dX5_add_71 (St5_k f7) (St5_r3 f7) ?_
              refine w_aload_n (pc := 74) C dX5_add_74 rfl ?_
              refine w_getI (pc := 75) C fl_X5_9 rfl dX5_add_75 (St5_k f7) ?_
              refine w_iload_n (pc := 78) C dX5_add_78 rfl ?_
              refine w_iload (pc := 79) C dX5_add_79 rfl ?_
              obtain ⟨f9, hv⟩ := hv
              refine w_idiv (pc := 81) C dX5_add_81 f9 ?_
              obtain ⟨f10, hv⟩ := hv
              refine w_iast (pc := 82) C dX5_add_82 (St5_k3 f7) (inbl (St5_l3 f7) f10) ?_
              refine w_aload_n (pc := 83) C dX5_add_83 rfl ?_
              refine w_getR (pc := 84) C fl_X5_25 rfl dX5_add_84 (St5_k f7) (St5_r4 f7) ?_
              refine w_aload_n (pc := 87) C dX5_add_87 rfl ?_
              refine w_getI (pc := 88) C fl_X5_9 rfl dX5_add_88 (St5_k f7) ?_
              refine w_iload_n (pc := 91) C dX5_add_91 rfl ?_
              refine w_iload (pc := 92) C dX5_add_92 rfl ?_
              refine w_idiv (pc := 94) C dX5_add_94 f9 ?_
              obtain ⟨f11, hv⟩ := hv
              refine w_iast (pc := 95) C dX5_add_95 (St5_k4 f7) (inbl (St5_l4 f7) f11) ?_
              refine w_aload_n (pc := 96) C dX5_add_96 rfl ?_
              refine w_getR (pc := 97) C fl_X5_28 rfl dX5_add_97 (St5_k f7) (St5_r5 f7) ?_
              refine w_aload_n (pc := 100) C dX5_add_100 rfl ?_
              refine w_getI (pc := 101) C fl_X5_9 rfl dX5_add_101 (St5_k f7) ?_
              refine w_iload_n (pc := 104) C dX5_add_104 rfl ?_
              obtain ⟨f12, hv⟩ := hv
              refine w_iast (pc := 105) C dX5_add_105 (St5_k5 f7) (inbl (St5_l5 f7) f12) ?_
              refine w_aload_n (pc := 106) C dX5_add_106 rfl ?_
              refine w_dup (pc := 107) C dX5_add_107 rfl ?_
              refine w_getI (pc := 108) C fl_X5_9 rfl dX5_add_108 (St5_k f7) ?_
              refine w_iconst (pc := 111) C (v := 1) dX5_add_111 (by decide) ?_
              refine w_iadd (pc := 112) C dX5_add_112 ?_
              refine w_putI (pc := 113) C fl_X5_9 rfl rfl dX5_add_113 (St5_k f7) ?_
              refine w_aload_n (pc := 116) C dX5_add_116 rfl ?_
              refine w_getR (pc := 117) C fl_X5_31 rfl dX5_add_117 (St5_k f7) (St5_r6 f7) ?_
              refine w_iload (pc := 120) C dX5_add_120 rfl ?_
              refine w_aload_n (pc := 122) C dX5_add_122 rfl ?_
              refine w_getI (pc := 123) C fl_X5_9 rfl dX5_add_123 (St5_k f7) ?_
              refine w_iast (pc := 126) C dX5_add_126 (St5_k6 f7) (inbl (St5_l6 f7) f8) ?_
              exact w_vret (pc := 127) C dX5_add_127 hv
      · have hv := hv2 c16
        exact w_vret (pc := 32) C dX5_add_32 hv
theorem dX5_addTwos_0 : decode cX5_addTwos 0 = .ok (.iconst 0, 1) := by decide +kernel
theorem dX5_addTwos_1 : decode cX5_addTwos 1 = .ok (.istore_n 1, 1) := by decide +kernel
theorem dX5_addTwos_2 : decode cX5_addTwos 2 = .ok (.iload_n 1, 1) := by decide +kernel
theorem dX5_addTwos_3 : decode cX5_addTwos 3 = .ok (.aload_n 0, 1) := by decide +kernel
theorem dX5_addTwos_4 : decode cX5_addTwos 4 = .ok (.getfield 15, 3) := by decide +kernel
theorem dX5_addTwos_7 : decode cX5_addTwos 7 = .ok (.if_icmp .ge 53, 3) := by decide +kernel
theorem dX5_addTwos_10 : decode cX5_addTwos 10 = .ok (.iconst 0, 1) := by decide +kernel
theorem dX5_addTwos_11 : decode cX5_addTwos 11 = .ok (.istore_n 2, 1) := by decide +kernel
theorem dX5_addTwos_12 : decode cX5_addTwos 12 = .ok (.iload_n 2, 1) := by decide +kernel
theorem dX5_addTwos_13 : decode cX5_addTwos 13 = .ok (.aload_n 0, 1) := by decide +kernel
theorem dX5_addTwos_14 : decode cX5_addTwos 14 = .ok (.getfield 15, 3) := by decide +kernel
theorem dX5_addTwos_17 : decode cX5_addTwos 17 = .ok (.if_icmp .ge 37, 3) := by decide +kernel
theorem dX5_addTwos_20 : decode cX5_addTwos 20 = .ok (.iload_n 1, 1) := by decide +kernel
theorem dX5_addTwos_21 : decode cX5_addTwos 21 = .ok (.iload_n 2, 1) := by decide +kernel
theorem dX5_addTwos_22 : decode cX5_addTwos 22 = .ok (.if_icmp .eq 26, 3) := by decide +kernel
theorem dX5_addTwos_25 : decode cX5_addTwos 25 = .ok (.aload_n 0, 1) := by decide +kernel
theorem dX5_addTwos_26 : decode cX5_addTwos 26 = .ok (.aload_n 0, 1) := by decide +kernel
theorem dX5_addTwos_27 : decode cX5_addTwos 27 = .ok (.iload_n 1, 1) := by decide +kernel
theorem dX5_addTwos_28 : decode cX5_addTwos 28 = .ok (.invokevirtual 53, 3) := by decide +kernel
theorem dX5_addTwos_31 : decode cX5_addTwos 31 = .ok (.aload_n 0, 1) := by decide +kernel
theorem dX5_addTwos_32 : decode cX5_addTwos 32 = .ok (.iload_n 2, 1) := by decide +kernel
theorem dX5_addTwos_33 : decode cX5_addTwos 33 = .ok (.invokevirtual 53, 3) := by decide +kernel
theorem dX5_addTwos_36 : decode cX5_addTwos 36 = .ok (.iload_n 1, 1) := by decide +kernel
theorem dX5_addTwos_37 : decode cX5_addTwos 37 = .ok (.iload_n 2, 1) := by decide +kernel
theorem dX5_addTwos_38 : decode cX5_addTwos 38 = .ok (.bipush 15, 2) := by decide +kernel
theorem dX5_addTwos_40 : decode cX5_addTwos 40 = .ok (.bipush 15, 2) := by decide +kernel
theorem dX5_addTwos_42 : decode cX5_addTwos 42 = .ok (.invokestatic 56, 3) := by decide +kernel
theorem dX5_addTwos_45 : decode cX5_addTwos 45 = .ok (.invokevirtual 60, 3) := by decide +kernel
theorem dX5_addTwos_48 : decode cX5_addTwos 48 = .ok (.iinc 2 1, 3) := by decide +kernel
theorem dX5_addTwos_51 : decode cX5_addTwos 51 = .ok (.goto (-39), 3) := by decide +kernel
theorem dX5_addTwos_54 : decode cX5_addTwos 54 = .ok (.iinc 1 1, 3) := by decide +kernel
theorem dX5_addTwos_57 : decode cX5_addTwos 57 = .ok (.goto (-55), 3) := by decide +kernel
theorem dX5_addTwos_60 : decode cX5_addTwos 60 = .ok (.return_, 1) := by decide +kernel
set_option maxRecDepth 20000 in
set_option maxHeartbeats 2000000 in
theorem V_X5_addTwos_0 {X : Ctx} (C : C_X5_addTwos X) {k n : Nat} {Q : Pq} {h : Hp} {v0 : Nat}
    (hv : Wj X k n Q 2 [(0, .ref v0), (1, .int 0)] [] h) :
    Wj X k n Q 0 [(0, .ref v0)] [] h := by
  refine w_iconst (pc := 0) C (v := 0) dX5_addTwos_0 (by decide) ?_
  refine w_istore_n (pc := 1) C dX5_addTwos_1 (by decide) ?_
  refine w_sub ?_ hv
  exact ⟨rfl, rfl, trivial⟩
set_option maxRecDepth 20000 in
set_option maxHeartbeats 2000000 in
theorem V_X5_addTwos_2 {X : Ctx} (C : C_X5_addTwos X) {k n : Nat} {Q : Pq} {h : Hp} {v0 : Nat} {v1 : Int32}
    (hv : St5 h v0 ∧ (((gi h v0 1) ≤ v1 → Q none h) ∧
    (¬ (gi h v0 1) ≤ v1 → Wj X k n Q 12 [(0, .ref v0), (1, .int v1), (2, .int 0)] [] h))) :
    Wj X k n Q 2 [(0, .ref v0), (1, .int v1)] [] h := by
  refine w_iload_n (pc := 2) C dX5_addTwos_2 rfl ?_
  refine w_aload_n (pc := 3) C dX5_addTwos_3 rfl ?_
  obtain ⟨f1, hv⟩ := hv
  refine w_getI (pc := 4) C fl_X5_15 rfl dX5_addTwos_4 (St5_k f1) ?_
  refine w_icmp_ge (pc := 7) C (tgt := 60) dX5_addTwos_7 (by decide) ?_
  obtain ⟨hv1, hv2⟩ := hv
  refine ⟨fun c2 => ?_, fun c2 => ?_⟩
  · have hv := hv1 c2
    exact w_vret (pc := 60) C dX5_addTwos_60 hv
  · have hv := hv2 c2
    refine w_iconst (pc := 10) C (v := 0) dX5_addTwos_10 (by decide) ?_
    refine w_istore_n (pc := 11) C dX5_addTwos_11 (by decide) ?_
    refine w_sub ?_ hv
    exact ⟨rfl, rfl, rfl, trivial⟩
set_option maxRecDepth 20000 in
set_option maxHeartbeats 2000000 in
theorem V_X5_addTwos_12 {X : Ctx} (C : C_X5_addTwos X) {k n : Nat} {Q : Pq} {h : Hp} {v0 : Nat} {v1 v2 : Int32}
    (hv : St5 h v0 ∧ (((gi h v0 1) ≤ v2 → Wj X k n Q 2 [(0, .ref v0), (1, .int (v1 + Int32.ofInt 1))] [] h) ∧
    (¬ (gi h v0 1) ≤ v2 → ((v1 = v2 → Wj X k n Q 12 [(0, .ref v0), (1, .int v1), (2, .int (v2 + Int32.ofInt 1))] [] h) ∧
    (¬ v1 = v2 → S_X5_add (lX X) (dtX X) 0 0 [.ref v0, .int (sTo h v0 v1), .int (sTo h v0 v2), .int (sPk v1 v2 15 15)] h (QV fun h2 =>
    Wj X k n Q 12 [(0, .ref v0), (1, .int v1), (2, .int (v2 + Int32.ofInt 1))] [] h2)))))) :
    Wj X k n Q 12 [(0, .ref v0), (1, .int v1), (2, .int v2)] [] h := by
  refine w_iload_n (pc := 12) C dX5_addTwos_12 rfl ?_
  refine w_aload_n (pc := 13) C dX5_addTwos_13 rfl ?_
  obtain ⟨f1, hv⟩ := hv
  refine w_getI (pc := 14) C fl_X5_15 rfl dX5_addTwos_14 (St5_k f1) ?_
  refine w_icmp_ge (pc := 17) C (tgt := 54) dX5_addTwos_17 (by decide) ?_
  obtain ⟨hv1, hv2⟩ := hv
  refine ⟨fun c4 => ?_, fun c4 => ?_⟩
  · have hv := hv1 c4
    refine w_iinc (pc := 54) C dX5_addTwos_54 rfl (by decide) ?_
    refine w_goto (pc := 57) C (tgt := 2) dX5_addTwos_57 (by decide) ?_
    refine w_sub ?_ hv
    exact ⟨rfl, rfl, trivial⟩
  · have hv := hv2 c4
    refine w_iload_n (pc := 20) C dX5_addTwos_20 rfl ?_
    refine w_iload_n (pc := 21) C dX5_addTwos_21 rfl ?_
    refine w_icmp_eq (pc := 22) C (tgt := 48) dX5_addTwos_22 (by decide) ?_
    obtain ⟨hv1, hv2⟩ := hv
    refine ⟨fun c3 => ?_, fun c3 => ?_⟩
    · have hv := hv1 c3
      refine w_iinc (pc := 48) C dX5_addTwos_48 rfl (by decide) ?_
      refine w_goto (pc := 51) C (tgt := 12) dX5_addTwos_51 (by decide) ?_
      refine w_sub ?_ hv
      exact ⟨rfl, rfl, rfl, trivial⟩
    · have hv := hv2 c3
      refine w_aload_n (pc := 25) C dX5_addTwos_25 rfl ?_
      refine w_aload_n (pc := 26) C dX5_addTwos_26 rfl ?_
      refine w_iload_n (pc := 27) C dX5_addTwos_27 rfl ?_
      refine w_cV0_1 (pc := 28) C cl_X5_53 lv_X5_tooth (by decide) dX5_addTwos_28 (Nat.le_of_ble_eq_true rfl) (c := 5) rfl (St5_k f1) ((sf_X5_tooth (h := h) f1).mono (fun v h9 hp => ?_))
      obtain ⟨e1, e2⟩ := hp
      rw [e1, e2]
      refine w_aload_n (pc := 31) C dX5_addTwos_31 rfl ?_
      refine w_iload_n (pc := 32) C dX5_addTwos_32 rfl ?_
      refine w_cV0_1 (pc := 33) C cl_X5_53 lv_X5_tooth (by decide) dX5_addTwos_33 (Nat.le_of_ble_eq_true rfl) (c := 5) rfl (St5_k f1) ((sf_X5_tooth (h := h) f1).mono (fun v h9 hp => ?_))
      obtain ⟨e1, e2⟩ := hp
      rw [e1, e2]
      refine w_iload_n (pc := 36) C dX5_addTwos_36 rfl ?_
      refine w_iload_n (pc := 37) C dX5_addTwos_37 rfl ?_
      refine w_bipush (pc := 38) C (v := 15) dX5_addTwos_38 (by decide) ?_
      refine w_bipush (pc := 40) C (v := 15) dX5_addTwos_40 (by decide) ?_
      refine w_cS0_4 (pc := 42) C cl_X5_56 ls_X5_pack (by decide) dX5_addTwos_42 (Nat.le_of_ble_eq_true rfl) ((sf_X5_pack (h := h) ).mono (fun v h9 hp => ?_))
      obtain ⟨e1, e2⟩ := hp
      rw [e1, e2]
      refine w_cV0_3 (pc := 45) C cl_X5_60 lv_X5_add (by decide) dX5_addTwos_45 (Nat.le_of_ble_eq_true rfl) (c := 5) rfl (St5_k f1) (hv.mono (fun v h2 hp => ?_))
      obtain ⟨rfl, hv⟩ := hp
      refine w_iinc (pc := 48) C dX5_addTwos_48 rfl (by decide) ?_
      refine w_goto (pc := 51) C (tgt := 12) dX5_addTwos_51 (by decide) ?_
      refine w_sub ?_ hv
      exact ⟨rfl, rfl, rfl, trivial⟩
theorem dX5_addFours_0 : decode cX5_addFours 0 = .ok (.iconst 0, 1) := by decide +kernel
theorem dX5_addFours_1 : decode cX5_addFours 1 = .ok (.istore_n 1, 1) := by decide +kernel
theorem dX5_addFours_2 : decode cX5_addFours 2 = .ok (.iload_n 1, 1) := by decide +kernel
theorem dX5_addFours_3 : decode cX5_addFours 3 = .ok (.aload_n 0, 1) := by decide +kernel
theorem dX5_addFours_4 : decode cX5_addFours 4 = .ok (.getfield 15, 3) := by decide +kernel
theorem dX5_addFours_7 : decode cX5_addFours 7 = .ok (.if_icmp .ge 120, 3) := by decide +kernel
theorem dX5_addFours_10 : decode cX5_addFours 10 = .ok (.iconst 0, 1) := by decide +kernel
theorem dX5_addFours_11 : decode cX5_addFours 11 = .ok (.istore_n 2, 1) := by decide +kernel
theorem dX5_addFours_12 : decode cX5_addFours 12 = .ok (.iload_n 2, 1) := by decide +kernel
theorem dX5_addFours_13 : decode cX5_addFours 13 = .ok (.aload_n 0, 1) := by decide +kernel
theorem dX5_addFours_14 : decode cX5_addFours 14 = .ok (.getfield 15, 3) := by decide +kernel
theorem dX5_addFours_17 : decode cX5_addFours 17 = .ok (.if_icmp .ge 104, 3) := by decide +kernel
theorem dX5_addFours_20 : decode cX5_addFours 20 = .ok (.iload_n 1, 1) := by decide +kernel
theorem dX5_addFours_21 : decode cX5_addFours 21 = .ok (.iconst 1, 1) := by decide +kernel
theorem dX5_addFours_22 : decode cX5_addFours 22 = .ok (.iadd, 1) := by decide +kernel
theorem dX5_addFours_23 : decode cX5_addFours 23 = .ok (.istore_n 3, 1) := by decide +kernel
theorem dX5_addFours_24 : decode cX5_addFours 24 = .ok (.iload_n 1, 1) := by decide +kernel
theorem dX5_addFours_25 : decode cX5_addFours 25 = .ok (.iload_n 2, 1) := by decide +kernel
theorem dX5_addFours_26 : decode cX5_addFours 26 = .ok (.if_icmp .eq 89, 3) := by decide +kernel
theorem dX5_addFours_29 : decode cX5_addFours 29 = .ok (.iload_n 3, 1) := by decide +kernel
theorem dX5_addFours_30 : decode cX5_addFours 30 = .ok (.aload_n 0, 1) := by decide +kernel
theorem dX5_addFours_31 : decode cX5_addFours 31 = .ok (.getfield 15, 3) := by decide +kernel
theorem dX5_addFours_34 : decode cX5_addFours 34 = .ok (.if_icmp .ge 81, 3) := by decide +kernel
theorem dX5_addFours_37 : decode cX5_addFours 37 = .ok (.iload_n 2, 1) := by decide +kernel
theorem dX5_addFours_38 : decode cX5_addFours 38 = .ok (.iconst 1, 1) := by decide +kernel
theorem dX5_addFours_39 : decode cX5_addFours 39 = .ok (.iadd, 1) := by decide +kernel
theorem dX5_addFours_40 : decode cX5_addFours 40 = .ok (.istore 4, 2) := by decide +kernel
theorem dX5_addFours_42 : decode cX5_addFours 42 = .ok (.iload_n 3, 1) := by decide +kernel
theorem dX5_addFours_43 : decode cX5_addFours 43 = .ok (.iload_n 2, 1) := by decide +kernel
theorem dX5_addFours_44 : decode cX5_addFours 44 = .ok (.if_icmp .eq 65, 3) := by decide +kernel
theorem dX5_addFours_47 : decode cX5_addFours 47 = .ok (.iload 4, 2) := by decide +kernel
theorem dX5_addFours_49 : decode cX5_addFours 49 = .ok (.aload_n 0, 1) := by decide +kernel
theorem dX5_addFours_50 : decode cX5_addFours 50 = .ok (.getfield 15, 3) := by decide +kernel
theorem dX5_addFours_53 : decode cX5_addFours 53 = .ok (.if_icmp .ge 56, 3) := by decide +kernel
theorem dX5_addFours_56 : decode cX5_addFours 56 = .ok (.iload 4, 2) := by decide +kernel
theorem dX5_addFours_58 : decode cX5_addFours 58 = .ok (.iload_n 1, 1) := by decide +kernel
theorem dX5_addFours_59 : decode cX5_addFours 59 = .ok (.if_icmp .eq 44, 3) := by decide +kernel
theorem dX5_addFours_62 : decode cX5_addFours 62 = .ok (.iload 4, 2) := by decide +kernel
theorem dX5_addFours_64 : decode cX5_addFours 64 = .ok (.iload_n 3, 1) := by decide +kernel
theorem dX5_addFours_65 : decode cX5_addFours 65 = .ok (.if_icmp .eq 38, 3) := by decide +kernel
theorem dX5_addFours_68 : decode cX5_addFours 68 = .ok (.aload_n 0, 1) := by decide +kernel
theorem dX5_addFours_69 : decode cX5_addFours 69 = .ok (.aload_n 0, 1) := by decide +kernel
theorem dX5_addFours_70 : decode cX5_addFours 70 = .ok (.iload_n 1, 1) := by decide +kernel
theorem dX5_addFours_71 : decode cX5_addFours 71 = .ok (.invokevirtual 53, 3) := by decide +kernel
theorem dX5_addFours_74 : decode cX5_addFours 74 = .ok (.aload_n 0, 1) := by decide +kernel
theorem dX5_addFours_75 : decode cX5_addFours 75 = .ok (.iload_n 3, 1) := by decide +kernel
theorem dX5_addFours_76 : decode cX5_addFours 76 = .ok (.invokevirtual 53, 3) := by decide +kernel
theorem dX5_addFours_79 : decode cX5_addFours 79 = .ok (.imul, 1) := by decide +kernel
theorem dX5_addFours_80 : decode cX5_addFours 80 = .ok (.aload_n 0, 1) := by decide +kernel
theorem dX5_addFours_81 : decode cX5_addFours 81 = .ok (.iload_n 2, 1) := by decide +kernel
theorem dX5_addFours_82 : decode cX5_addFours 82 = .ok (.invokevirtual 53, 3) := by decide +kernel
theorem dX5_addFours_85 : decode cX5_addFours 85 = .ok (.aload_n 0, 1) := by decide +kernel
theorem dX5_addFours_86 : decode cX5_addFours 86 = .ok (.iload 4, 2) := by decide +kernel
theorem dX5_addFours_88 : decode cX5_addFours 88 = .ok (.invokevirtual 53, 3) := by decide +kernel
theorem dX5_addFours_91 : decode cX5_addFours 91 = .ok (.imul, 1) := by decide +kernel
theorem dX5_addFours_92 : decode cX5_addFours 92 = .ok (.iload_n 1, 1) := by decide +kernel
theorem dX5_addFours_93 : decode cX5_addFours 93 = .ok (.iload_n 2, 1) := by decide +kernel
theorem dX5_addFours_94 : decode cX5_addFours 94 = .ok (.iload_n 3, 1) := by decide +kernel
theorem dX5_addFours_95 : decode cX5_addFours 95 = .ok (.iload 4, 2) := by decide +kernel
theorem dX5_addFours_97 : decode cX5_addFours 97 = .ok (.invokestatic 56, 3) := by decide +kernel
theorem dX5_addFours_100 : decode cX5_addFours 100 = .ok (.invokevirtual 60, 3) := by decide +kernel
theorem dX5_addFours_103 : decode cX5_addFours 103 = .ok (.iinc 4 1, 3) := by decide +kernel
theorem dX5_addFours_106 : decode cX5_addFours 106 = .ok (.goto (-64), 3) := by decide +kernel
theorem dX5_addFours_109 : decode cX5_addFours 109 = .ok (.iinc 3 1, 3) := by decide +kernel
theorem dX5_addFours_112 : decode cX5_addFours 112 = .ok (.goto (-88), 3) := by decide +kernel
theorem dX5_addFours_115 : decode cX5_addFours 115 = .ok (.iinc 2 1, 3) := by decide +kernel
theorem dX5_addFours_118 : decode cX5_addFours 118 = .ok (.goto (-106), 3) := by decide +kernel
theorem dX5_addFours_121 : decode cX5_addFours 121 = .ok (.iinc 1 1, 3) := by decide +kernel
theorem dX5_addFours_124 : decode cX5_addFours 124 = .ok (.goto (-122), 3) := by decide +kernel
theorem dX5_addFours_127 : decode cX5_addFours 127 = .ok (.return_, 1) := by decide +kernel
set_option maxRecDepth 20000 in
set_option maxHeartbeats 2000000 in
theorem V_X5_addFours_0 {X : Ctx} (C : C_X5_addFours X) {k n : Nat} {Q : Pq} {h : Hp} {v0 : Nat}
    (hv : Wj X k n Q 2 [(0, .ref v0), (1, .int 0)] [] h) :
    Wj X k n Q 0 [(0, .ref v0)] [] h := by
  refine w_iconst (pc := 0) C (v := 0) dX5_addFours_0 (by decide) ?_
  refine w_istore_n (pc := 1) C dX5_addFours_1 (by decide) ?_
  refine w_sub ?_ hv
  exact ⟨rfl, rfl, trivial⟩
set_option maxRecDepth 20000 in
set_option maxHeartbeats 2000000 in
theorem V_X5_addFours_2 {X : Ctx} (C : C_X5_addFours X) {k n : Nat} {Q : Pq} {h : Hp} {v0 : Nat} {v1 : Int32}
    (hv : St5 h v0 ∧ (((gi h v0 1) ≤ v1 → Q none h) ∧
    (¬ (gi h v0 1) ≤ v1 → Wj X k n Q 12 [(0, .ref v0), (1, .int v1), (2, .int 0)] [] h))) :
    Wj X k n Q 2 [(0, .ref v0), (1, .int v1)] [] h := by
  refine w_iload_n (pc := 2) C dX5_addFours_2 rfl ?_
  refine w_aload_n (pc := 3) C dX5_addFours_3 rfl ?_
  obtain ⟨f1, hv⟩ := hv
  refine w_getI (pc := 4) C fl_X5_15 rfl dX5_addFours_4 (St5_k f1) ?_
  refine w_icmp_ge (pc := 7) C (tgt := 127) dX5_addFours_7 (by decide) ?_
  obtain ⟨hv1, hv2⟩ := hv
  refine ⟨fun c2 => ?_, fun c2 => ?_⟩
  · have hv := hv1 c2
    exact w_vret (pc := 127) C dX5_addFours_127 hv
  · have hv := hv2 c2
    refine w_iconst (pc := 10) C (v := 0) dX5_addFours_10 (by decide) ?_
    refine w_istore_n (pc := 11) C dX5_addFours_11 (by decide) ?_
    refine w_sub ?_ hv
    exact ⟨rfl, rfl, rfl, trivial⟩
set_option maxRecDepth 20000 in
set_option maxHeartbeats 2000000 in
theorem V_X5_addFours_12 {X : Ctx} (C : C_X5_addFours X) {k n : Nat} {Q : Pq} {h : Hp} {v0 : Nat} {v1 v2 : Int32}
    (hv : St5 h v0 ∧ (((gi h v0 1) ≤ v2 → Wj X k n Q 2 [(0, .ref v0), (1, .int (v1 + Int32.ofInt 1))] [] h) ∧
    (¬ (gi h v0 1) ≤ v2 → Wj X k n Q 24 [(0, .ref v0), (1, .int v1), (2, .int v2), (3, .int (v1 + 1))] [] h))) :
    Wj X k n Q 12 [(0, .ref v0), (1, .int v1), (2, .int v2)] [] h := by
  refine w_iload_n (pc := 12) C dX5_addFours_12 rfl ?_
  refine w_aload_n (pc := 13) C dX5_addFours_13 rfl ?_
  obtain ⟨f1, hv⟩ := hv
  refine w_getI (pc := 14) C fl_X5_15 rfl dX5_addFours_14 (St5_k f1) ?_
  refine w_icmp_ge (pc := 17) C (tgt := 121) dX5_addFours_17 (by decide) ?_
  obtain ⟨hv1, hv2⟩ := hv
  refine ⟨fun c2 => ?_, fun c2 => ?_⟩
  · have hv := hv1 c2
    refine w_iinc (pc := 121) C dX5_addFours_121 rfl (by decide) ?_
    refine w_goto (pc := 124) C (tgt := 2) dX5_addFours_124 (by decide) ?_
    refine w_sub ?_ hv
    exact ⟨rfl, rfl, trivial⟩
  · have hv := hv2 c2
    refine w_iload_n (pc := 20) C dX5_addFours_20 rfl ?_
    refine w_iconst (pc := 21) C (v := 1) dX5_addFours_21 (by decide) ?_
    refine w_iadd (pc := 22) C dX5_addFours_22 ?_
    refine w_istore_n (pc := 23) C dX5_addFours_23 (by decide) ?_
    refine w_sub ?_ hv
    exact ⟨rfl, rfl, rfl, rfl, trivial⟩
set_option maxRecDepth 20000 in
set_option maxHeartbeats 2000000 in
theorem V_X5_addFours_24 {X : Ctx} (C : C_X5_addFours X) {k n : Nat} {Q : Pq} {h : Hp} {v0 : Nat} {v1 v2 v3 : Int32}
    (hv : ((v1 = v2 → Wj X k n Q 12 [(0, .ref v0), (1, .int v1), (2, .int (v2 + Int32.ofInt 1))] [] h) ∧
    (¬ v1 = v2 → St5 h v0 ∧ (((gi h v0 1) ≤ v3 → Wj X k n Q 12 [(0, .ref v0), (1, .int v1), (2, .int (v2 + Int32.ofInt 1))] [] h) ∧
    (¬ (gi h v0 1) ≤ v3 → Wj X k n Q 42 [(0, .ref v0), (1, .int v1), (2, .int v2), (3, .int v3), (4, .int (v2 + 1))] [] h))))) :
    Wj X k n Q 24 [(0, .ref v0), (1, .int v1), (2, .int v2), (3, .int v3)] [] h := by
  refine w_iload_n (pc := 24) C dX5_addFours_24 rfl ?_
  refine w_iload_n (pc := 25) C dX5_addFours_25 rfl ?_
  refine w_icmp_eq (pc := 26) C (tgt := 115) dX5_addFours_26 (by decide) ?_
  obtain ⟨hv1, hv2⟩ := hv
  refine ⟨fun c3 => ?_, fun c3 => ?_⟩
  · have hv := hv1 c3
    refine w_iinc (pc := 115) C dX5_addFours_115 rfl (by decide) ?_
    refine w_goto (pc := 118) C (tgt := 12) dX5_addFours_118 (by decide) ?_
    refine w_sub ?_ hv
    exact ⟨rfl, rfl, rfl, trivial⟩
  · have hv := hv2 c3
    refine w_iload_n (pc := 29) C dX5_addFours_29 rfl ?_
    refine w_aload_n (pc := 30) C dX5_addFours_30 rfl ?_
    obtain ⟨f1, hv⟩ := hv
    refine w_getI (pc := 31) C fl_X5_15 rfl dX5_addFours_31 (St5_k f1) ?_
    refine w_icmp_ge (pc := 34) C (tgt := 115) dX5_addFours_34 (by decide) ?_
    obtain ⟨hv1, hv2⟩ := hv
    refine ⟨fun c2 => ?_, fun c2 => ?_⟩
    · have hv := hv1 c2
      refine w_iinc (pc := 115) C dX5_addFours_115 rfl (by decide) ?_
      refine w_goto (pc := 118) C (tgt := 12) dX5_addFours_118 (by decide) ?_
      refine w_sub ?_ hv
      exact ⟨rfl, rfl, rfl, trivial⟩
    · have hv := hv2 c2
      refine w_iload_n (pc := 37) C dX5_addFours_37 rfl ?_
      refine w_iconst (pc := 38) C (v := 1) dX5_addFours_38 (by decide) ?_
      refine w_iadd (pc := 39) C dX5_addFours_39 ?_
      refine w_istore (pc := 40) C dX5_addFours_40 (by decide) ?_
      refine w_sub ?_ hv
      exact ⟨rfl, rfl, rfl, rfl, rfl, trivial⟩
set_option maxRecDepth 20000 in
set_option maxHeartbeats 2000000 in
theorem V_X5_addFours_42 {X : Ctx} (C : C_X5_addFours X) {k n : Nat} {Q : Pq} {h : Hp} {v0 : Nat} {v1 v2 v3 v4 : Int32}
    (hv : ((v3 = v2 → Wj X k n Q 24 [(0, .ref v0), (1, .int v1), (2, .int v2), (3, .int (v3 + Int32.ofInt 1))] [] h) ∧
    (¬ v3 = v2 → St5 h v0 ∧ (((gi h v0 1) ≤ v4 → Wj X k n Q 24 [(0, .ref v0), (1, .int v1), (2, .int v2), (3, .int (v3 + Int32.ofInt 1))] [] h) ∧
    (¬ (gi h v0 1) ≤ v4 → ((v4 = v1 → Wj X k n Q 42 [(0, .ref v0), (1, .int v1), (2, .int v2), (3, .int v3), (4, .int (v4 + Int32.ofInt 1))] [] h) ∧
    (¬ v4 = v1 → ((v4 = v3 → Wj X k n Q 42 [(0, .ref v0), (1, .int v1), (2, .int v2), (3, .int v3), (4, .int (v4 + Int32.ofInt 1))] [] h) ∧
    (¬ v4 = v3 → S_X5_add (lX X) (dtX X) 0 0 [.ref v0, .int ((sTo h v0 v1) * (sTo h v0 v3)), .int ((sTo h v0 v2) * (sTo h v0 v4)), .int (sPk v1 v2 v3 v4)] h (QV fun h2 =>
    Wj X k n Q 42 [(0, .ref v0), (1, .int v1), (2, .int v2), (3, .int v3), (4, .int (v4 + Int32.ofInt 1))] [] h2)))))))))) :
    Wj X k n Q 42 [(0, .ref v0), (1, .int v1), (2, .int v2), (3, .int v3), (4, .int v4)] [] h := by
  refine w_iload_n (pc := 42) C dX5_addFours_42 rfl ?_
  refine w_iload_n (pc := 43) C dX5_addFours_43 rfl ?_
  refine w_icmp_eq (pc := 44) C (tgt := 109) dX5_addFours_44 (by decide) ?_
  obtain ⟨hv1, hv2⟩ := hv
  refine ⟨fun c6 => ?_, fun c6 => ?_⟩
  · have hv := hv1 c6
    refine w_iinc (pc := 109) C dX5_addFours_109 rfl (by decide) ?_
    refine w_goto (pc := 112) C (tgt := 24) dX5_addFours_112 (by decide) ?_
    refine w_sub ?_ hv
    exact ⟨rfl, rfl, rfl, rfl, trivial⟩
  · have hv := hv2 c6
    refine w_iload (pc := 47) C dX5_addFours_47 rfl ?_
    refine w_aload_n (pc := 49) C dX5_addFours_49 rfl ?_
    obtain ⟨f1, hv⟩ := hv
    refine w_getI (pc := 50) C fl_X5_15 rfl dX5_addFours_50 (St5_k f1) ?_
    refine w_icmp_ge (pc := 53) C (tgt := 109) dX5_addFours_53 (by decide) ?_
    obtain ⟨hv1, hv2⟩ := hv
    refine ⟨fun c5 => ?_, fun c5 => ?_⟩
    · have hv := hv1 c5
      refine w_iinc (pc := 109) C dX5_addFours_109 rfl (by decide) ?_
      refine w_goto (pc := 112) C (tgt := 24) dX5_addFours_112 (by decide) ?_
      refine w_sub ?_ hv
      exact ⟨rfl, rfl, rfl, rfl, trivial⟩
    · have hv := hv2 c5
      refine w_iload (pc := 56) C dX5_addFours_56 rfl ?_
      refine w_iload_n (pc := 58) C dX5_addFours_58 rfl ?_
      refine w_icmp_eq (pc := 59) C (tgt := 103) dX5_addFours_59 (by decide) ?_
      obtain ⟨hv1, hv2⟩ := hv
      refine ⟨fun c4 => ?_, fun c4 => ?_⟩
      · have hv := hv1 c4
        refine w_iinc (pc := 103) C dX5_addFours_103 rfl (by decide) ?_
        refine w_goto (pc := 106) C (tgt := 42) dX5_addFours_106 (by decide) ?_
        refine w_sub ?_ hv
        exact ⟨rfl, rfl, rfl, rfl, rfl, trivial⟩
      · have hv := hv2 c4
        refine w_iload (pc := 62) C dX5_addFours_62 rfl ?_
        refine w_iload_n (pc := 64) C dX5_addFours_64 rfl ?_
        refine w_icmp_eq (pc := 65) C (tgt := 103) dX5_addFours_65 (by decide) ?_
        obtain ⟨hv1, hv2⟩ := hv
        refine ⟨fun c3 => ?_, fun c3 => ?_⟩
        · have hv := hv1 c3
          refine w_iinc (pc := 103) C dX5_addFours_103 rfl (by decide) ?_
          refine w_goto (pc := 106) C (tgt := 42) dX5_addFours_106 (by decide) ?_
          refine w_sub ?_ hv
          exact ⟨rfl, rfl, rfl, rfl, rfl, trivial⟩
        · have hv := hv2 c3
          refine w_aload_n (pc := 68) C dX5_addFours_68 rfl ?_
          refine w_aload_n (pc := 69) C dX5_addFours_69 rfl ?_
          refine w_iload_n (pc := 70) C dX5_addFours_70 rfl ?_
          refine w_cV0_1 (pc := 71) C cl_X5_53 lv_X5_tooth (by decide) dX5_addFours_71 (Nat.le_of_ble_eq_true rfl) (c := 5) rfl (St5_k f1) ((sf_X5_tooth (h := h) f1).mono (fun v h9 hp => ?_))
          obtain ⟨e1, e2⟩ := hp
          rw [e1, e2]
          refine w_aload_n (pc := 74) C dX5_addFours_74 rfl ?_
          refine w_iload_n (pc := 75) C dX5_addFours_75 rfl ?_
          refine w_cV0_1 (pc := 76) C cl_X5_53 lv_X5_tooth (by decide) dX5_addFours_76 (Nat.le_of_ble_eq_true rfl) (c := 5) rfl (St5_k f1) ((sf_X5_tooth (h := h) f1).mono (fun v h9 hp => ?_))
          obtain ⟨e1, e2⟩ := hp
          rw [e1, e2]
          refine w_imul (pc := 79) C dX5_addFours_79 ?_
          refine w_aload_n (pc := 80) C dX5_addFours_80 rfl ?_
          refine w_iload_n (pc := 81) C dX5_addFours_81 rfl ?_
          refine w_cV0_1 (pc := 82) C cl_X5_53 lv_X5_tooth (by decide) dX5_addFours_82 (Nat.le_of_ble_eq_true rfl) (c := 5) rfl (St5_k f1) ((sf_X5_tooth (h := h) f1).mono (fun v h9 hp => ?_))
          obtain ⟨e1, e2⟩ := hp
          rw [e1, e2]
          refine w_aload_n (pc := 85) C dX5_addFours_85 rfl ?_
          refine w_iload (pc := 86) C dX5_addFours_86 rfl ?_
          refine w_cV0_1 (pc := 88) C cl_X5_53 lv_X5_tooth (by decide) dX5_addFours_88 (Nat.le_of_ble_eq_true rfl) (c := 5) rfl (St5_k f1) ((sf_X5_tooth (h := h) f1).mono (fun v h9 hp => ?_))
          obtain ⟨e1, e2⟩ := hp
          rw [e1, e2]
          refine w_imul (pc := 91) C dX5_addFours_91 ?_
          refine w_iload_n (pc := 92) C dX5_addFours_92 rfl ?_
          refine w_iload_n (pc := 93) C dX5_addFours_93 rfl ?_
          refine w_iload_n (pc := 94) C dX5_addFours_94 rfl ?_
          refine w_iload (pc := 95) C dX5_addFours_95 rfl ?_
          refine w_cS0_4 (pc := 97) C cl_X5_56 ls_X5_pack (by decide) dX5_addFours_97 (Nat.le_of_ble_eq_true rfl) ((sf_X5_pack (h := h) ).mono (fun v h9 hp => ?_))
          obtain ⟨e1, e2⟩ := hp
          rw [e1, e2]
          refine w_cV0_3 (pc := 100) C cl_X5_60 lv_X5_add (by decide) dX5_addFours_100 (Nat.le_of_ble_eq_true rfl) (c := 5) rfl (St5_k f1) (hv.mono (fun v h2 hp => ?_))
          obtain ⟨rfl, hv⟩ := hp
          refine w_iinc (pc := 103) C dX5_addFours_103 rfl (by decide) ?_
          refine w_goto (pc := 106) C (tgt := 42) dX5_addFours_106 (by decide) ?_
          refine w_sub ?_ hv
          exact ⟨rfl, rfl, rfl, rfl, rfl, trivial⟩
theorem dX5_fit_0 : decode cX5_fit 0 = .ok (.aload_n 0, 1) := by decide +kernel
theorem dX5_fit_1 : decode cX5_fit 1 = .ok (.getfield 15, 3) := by decide +kernel
theorem dX5_fit_4 : decode cX5_fit 4 = .ok (.aload_n 1, 1) := by decide +kernel
theorem dX5_fit_5 : decode cX5_fit 5 = .ok (.getfield 34, 3) := by decide +kernel
theorem dX5_fit_8 : decode cX5_fit 8 = .ok (.if_icmp .ne 7, 3) := by decide +kernel
theorem dX5_fit_11 : decode cX5_fit 11 = .ok (.iconst 1, 1) := by decide +kernel
theorem dX5_fit_12 : decode cX5_fit 12 = .ok (.goto 4, 3) := by decide +kernel
theorem dX5_fit_15 : decode cX5_fit 15 = .ok (.iconst 0, 1) := by decide +kernel
theorem dX5_fit_16 : decode cX5_fit 16 = .ok (.istore_n 2, 1) := by decide +kernel
theorem dX5_fit_17 : decode cX5_fit 17 = .ok (.iconst 0, 1) := by decide +kernel
theorem dX5_fit_18 : decode cX5_fit 18 = .ok (.istore_n 3, 1) := by decide +kernel
theorem dX5_fit_19 : decode cX5_fit 19 = .ok (.iload_n 3, 1) := by decide +kernel
theorem dX5_fit_20 : decode cX5_fit 20 = .ok (.bipush 12, 2) := by decide +kernel
theorem dX5_fit_22 : decode cX5_fit 22 = .ok (.if_icmp .ge 44, 3) := by decide +kernel
theorem dX5_fit_25 : decode cX5_fit 25 = .ok (.iload_n 2, 1) := by decide +kernel
theorem dX5_fit_26 : decode cX5_fit 26 = .ok (.ifCond .eq 21, 3) := by decide +kernel
theorem dX5_fit_29 : decode cX5_fit 29 = .ok (.aload_n 0, 1) := by decide +kernel
theorem dX5_fit_30 : decode cX5_fit 30 = .ok (.getfield 18, 3) := by decide +kernel
theorem dX5_fit_33 : decode cX5_fit 33 = .ok (.iload_n 3, 1) := by decide +kernel
theorem dX5_fit_34 : decode cX5_fit 34 = .ok (.iaload, 1) := by decide +kernel
theorem dX5_fit_35 : decode cX5_fit 35 = .ok (.aload_n 1, 1) := by decide +kernel
theorem dX5_fit_36 : decode cX5_fit 36 = .ok (.iload_n 3, 1) := by decide +kernel
theorem dX5_fit_37 : decode cX5_fit 37 = .ok (.invokevirtual 37, 3) := by decide +kernel
theorem dX5_fit_40 : decode cX5_fit 40 = .ok (.if_icmp .ne 7, 3) := by decide +kernel
theorem dX5_fit_43 : decode cX5_fit 43 = .ok (.iconst 1, 1) := by decide +kernel
theorem dX5_fit_44 : decode cX5_fit 44 = .ok (.goto 4, 3) := by decide +kernel
theorem dX5_fit_47 : decode cX5_fit 47 = .ok (.iconst 0, 1) := by decide +kernel
theorem dX5_fit_48 : decode cX5_fit 48 = .ok (.istore_n 2, 1) := by decide +kernel
theorem dX5_fit_49 : decode cX5_fit 49 = .ok (.aload_n 0, 1) := by decide +kernel
theorem dX5_fit_50 : decode cX5_fit 50 = .ok (.getfield 18, 3) := by decide +kernel
theorem dX5_fit_53 : decode cX5_fit 53 = .ok (.iload_n 3, 1) := by decide +kernel
theorem dX5_fit_54 : decode cX5_fit 54 = .ok (.aload_n 1, 1) := by decide +kernel
theorem dX5_fit_55 : decode cX5_fit 55 = .ok (.iload_n 3, 1) := by decide +kernel
theorem dX5_fit_56 : decode cX5_fit 56 = .ok (.invokevirtual 37, 3) := by decide +kernel
theorem dX5_fit_59 : decode cX5_fit 59 = .ok (.iastore, 1) := by decide +kernel
theorem dX5_fit_60 : decode cX5_fit 60 = .ok (.iinc 3 1, 3) := by decide +kernel
theorem dX5_fit_63 : decode cX5_fit 63 = .ok (.goto (-44), 3) := by decide +kernel
theorem dX5_fit_66 : decode cX5_fit 66 = .ok (.aload_n 0, 1) := by decide +kernel
theorem dX5_fit_67 : decode cX5_fit 67 = .ok (.aload_n 1, 1) := by decide +kernel
theorem dX5_fit_68 : decode cX5_fit 68 = .ok (.getfield 34, 3) := by decide +kernel
theorem dX5_fit_71 : decode cX5_fit 71 = .ok (.putfield 15, 3) := by decide +kernel
theorem dX5_fit_74 : decode cX5_fit 74 = .ok (.iload_n 2, 1) := by decide +kernel
theorem dX5_fit_75 : decode cX5_fit 75 = .ok (.ifCond .ne 24, 3) := by decide +kernel
theorem dX5_fit_78 : decode cX5_fit 78 = .ok (.aload_n 0, 1) := by decide +kernel
theorem dX5_fit_79 : decode cX5_fit 79 = .ok (.iconst 0, 1) := by decide +kernel
theorem dX5_fit_80 : decode cX5_fit 80 = .ok (.putfield 9, 3) := by decide +kernel
theorem dX5_fit_83 : decode cX5_fit 83 = .ok (.aload_n 0, 1) := by decide +kernel
theorem dX5_fit_84 : decode cX5_fit 84 = .ok (.getfield 31, 3) := by decide +kernel
theorem dX5_fit_87 : decode cX5_fit 87 = .ok (.iconst 0, 1) := by decide +kernel
theorem dX5_fit_88 : decode cX5_fit 88 = .ok (.invokestatic 41, 3) := by decide +kernel
theorem dX5_fit_91 : decode cX5_fit 91 = .ok (.aload_n 0, 1) := by decide +kernel
theorem dX5_fit_92 : decode cX5_fit 92 = .ok (.invokevirtual 47, 3) := by decide +kernel
theorem dX5_fit_95 : decode cX5_fit 95 = .ok (.aload_n 0, 1) := by decide +kernel
theorem dX5_fit_96 : decode cX5_fit 96 = .ok (.invokevirtual 50, 3) := by decide +kernel
theorem dX5_fit_99 : decode cX5_fit 99 = .ok (.return_, 1) := by decide +kernel
set_option maxRecDepth 20000 in
set_option maxHeartbeats 2000000 in
theorem V_X5_fit_0 {X : Ctx} (C : C_X5_fit X) {k n : Nat} {Q : Pq} {h : Hp} {v0 v1 : Nat}
    (hv : St5 h v0 ∧ St4 h v1 ∧ ((¬ (gi h v0 1) = (gi h v1 4) → Wj X k n Q 19 [(0, .ref v0), (1, .ref v1), (2, .int 0), (3, .int 0)] [] h) ∧
    ((gi h v0 1) = (gi h v1 4) → Wj X k n Q 19 [(0, .ref v0), (1, .ref v1), (2, .int 1), (3, .int 0)] [] h))) :
    Wj X k n Q 0 [(0, .ref v0), (1, .ref v1)] [] h := by
  refine w_aload_n (pc := 0) C dX5_fit_0 rfl ?_
  obtain ⟨f1, hv⟩ := hv
  refine w_getI (pc := 1) C fl_X5_15 rfl dX5_fit_1 (St5_k f1) ?_
  refine w_aload_n (pc := 4) C dX5_fit_4 rfl ?_
  obtain ⟨f2, hv⟩ := hv
  refine w_getI (pc := 5) C fl_X5_34 rfl dX5_fit_5 (St4_k f2) ?_
  refine w_icmp_ne (pc := 8) C (tgt := 15) dX5_fit_8 (by decide) ?_
  obtain ⟨hv1, hv2⟩ := hv
  refine ⟨fun c3 => ?_, fun c3 => ?_⟩
  · have hv := hv1 c3
    refine w_iconst (pc := 15) C (v := 0) dX5_fit_15 (by decide) ?_
    refine w_istore_n (pc := 16) C dX5_fit_16 (by decide) ?_
    refine w_iconst (pc := 17) C (v := 0) dX5_fit_17 (by decide) ?_
    refine w_istore_n (pc := 18) C dX5_fit_18 (by decide) ?_
    refine w_sub ?_ hv
    exact ⟨rfl, rfl, rfl, rfl, trivial⟩
  · have hv := hv2 c3
    refine w_iconst (pc := 11) C (v := 1) dX5_fit_11 (by decide) ?_
    refine w_goto (pc := 12) C (tgt := 16) dX5_fit_12 (by decide) ?_
    refine w_istore_n (pc := 16) C dX5_fit_16 (by decide) ?_
    refine w_iconst (pc := 17) C (v := 0) dX5_fit_17 (by decide) ?_
    refine w_istore_n (pc := 18) C dX5_fit_18 (by decide) ?_
    refine w_sub ?_ hv
    exact ⟨rfl, rfl, rfl, rfl, trivial⟩
set_option maxRecDepth 20000 in
set_option maxHeartbeats 2000000 in
theorem V_X5_fit_19 {X : Ctx} (C : C_X5_fit X) {k n : Nat} {Q : Pq} {h : Hp} {v0 v1 : Nat} {v2 v3 : Int32}
    (hv : ((12 ≤ v3 → St4 h v1 ∧ St5 h v0 ∧ ((¬ v2 = 0 → Q none (si h v0 1 (gi h v1 4))) ∧
    (v2 = 0 → S_J7_fill_53178 (lX X) (dtX X) 0 0 [.ref (v0 + 5), .int 0] (si (si h v0 1 (gi h v1 4)) v0 0 0) (QV fun h3 =>
    St5 h3 v0 ∧ S_X5_addTwos (lX X) (dtX X) 0 0 [.ref v0] h3 (QV fun h5 =>
    St5 h5 v0 ∧ S_X5_addFours (lX X) (dtX X) 0 0 [.ref v0] h5 (QV fun h7 =>
    Q none h7)))))) ∧
    (¬ 12 ≤ v3 → ((v2 = 0 → Wj X k n Q 48 [(0, .ref v0), (1, .ref v1), (3, .int v3)] [.int 0] h) ∧
    (¬ v2 = 0 → St5 h v0 ∧ inb v3 12 ∧ St4 h v1 ∧ ((¬ (gi h (v0 + 1) (ix v3)) = (hTe h v1 v3) → Wj X k n Q 48 [(0, .ref v0), (1, .ref v1), (3, .int v3)] [.int 0] h) ∧
    ((gi h (v0 + 1) (ix v3)) = (hTe h v1 v3) → Wj X k n Q 48 [(0, .ref v0), (1, .ref v1), (3, .int v3)] [.int 1] h))))))) :
    Wj X k n Q 19 [(0, .ref v0), (1, .ref v1), (2, .int v2), (3, .int v3)] [] h := by
  refine w_iload_n (pc := 19) C dX5_fit_19 rfl ?_
  refine w_bipush (pc := 20) C (v := 12) dX5_fit_20 (by decide) ?_
  refine w_icmp_ge (pc := 22) C (tgt := 66) dX5_fit_22 (by decide) ?_
  obtain ⟨hv1, hv2⟩ := hv
  refine ⟨fun c14 => ?_, fun c14 => ?_⟩
  · have hv := hv1 c14
    refine w_aload_n (pc := 66) C dX5_fit_66 rfl ?_
    refine w_aload_n (pc := 67) C dX5_fit_67 rfl ?_
    obtain ⟨f1, hv⟩ := hv
    refine w_getI (pc := 68) C fl_X5_34 rfl dX5_fit_68 (St4_k f1) ?_
    obtain ⟨f2, hv⟩ := hv
    refine w_putI (pc := 71) C fl_X5_15 rfl rfl dX5_fit_71 (St5_k f2) ?_
    refine w_iload_n (pc := 74) C dX5_fit_74 rfl ?_
    refine w_if_ne (pc := 75) C (tgt := 99) dX5_fit_75 (by decide) ?_
    obtain ⟨hv1, hv2⟩ := hv
    refine ⟨fun c8 => ?_, fun c8 => ?_⟩
    · have hv := hv1 c8
      exact w_vret (pc := 99) C dX5_fit_99 hv
    · have hv := hv2 c8
      refine w_aload_n (pc := 78) C dX5_fit_78 rfl ?_
      refine w_iconst (pc := 79) C (v := 0) dX5_fit_79 (by decide) ?_
      refine w_putI (pc := 80) C fl_X5_9 rfl rfl dX5_fit_80 (St5_k f2) ?_
      refine w_aload_n (pc := 83) C dX5_fit_83 rfl ?_
      refine w_getR (pc := 84) C fl_X5_31 rfl dX5_fit_84 (St5_k f2) (St5_r6 f2) ?_
      refine w_iconst (pc := 87) C (v := 0) dX5_fit_87 (by decide) ?_
      refine w_cS0_2 (pc := 88) C cl_X5_41 ls_J7_fill_53178 (by decide) dX5_fit_88 (Nat.le_of_ble_eq_true rfl) (hv.mono (fun v h3 hp => ?_))
      obtain ⟨rfl, hv⟩ := hp
      refine w_aload_n (pc := 91) C dX5_fit_91 rfl ?_
      obtain ⟨f4, hv⟩ := hv
      refine w_cV0_0 (pc := 92) C cl_X5_47 lv_X5_addTwos (by decide) dX5_fit_92 (Nat.le_of_ble_eq_true rfl) (c := 5) rfl (St5_k f4) (hv.mono (fun v h5 hp => ?_))
      obtain ⟨rfl, hv⟩ := hp
      refine w_aload_n (pc := 95) C dX5_fit_95 rfl ?_
      obtain ⟨f6, hv⟩ := hv
      refine w_cV0_0 (pc := 96) C cl_X5_50 lv_X5_addFours (by decide) dX5_fit_96 (Nat.le_of_ble_eq_true rfl) (c := 5) rfl (St5_k f6) (hv.mono (fun v h7 hp => ?_))
      obtain ⟨rfl, hv⟩ := hp
      exact w_vret (pc := 99) C dX5_fit_99 hv
  · have hv := hv2 c14
    refine w_iload_n (pc := 25) C dX5_fit_25 rfl ?_
    refine w_if_eq (pc := 26) C (tgt := 47) dX5_fit_26 (by decide) ?_
    obtain ⟨hv1, hv2⟩ := hv
    refine ⟨fun c13 => ?_, fun c13 => ?_⟩
    · have hv := hv1 c13
      refine w_iconst (pc := 47) C (v := 0) dX5_fit_47 (by decide) ?_
      refine w_sub ?_ hv
      exact ⟨rfl, rfl, rfl, trivial⟩
    · have hv := hv2 c13
      refine w_aload_n (pc := 29) C dX5_fit_29 rfl ?_
      obtain ⟨f9, hv⟩ := hv
      refine w_getR (pc := 30) C fl_X5_18 rfl dX5_fit_30 (St5_k f9) (St5_r2 f9) ?_
      refine w_iload_n (pc := 33) C dX5_fit_33 rfl ?_
      obtain ⟨f10, hv⟩ := hv
      refine w_iald (pc := 34) C dX5_fit_34 (St5_k2 f9) (inbl (St5_l2 f9) f10) ?_
      refine w_aload_n (pc := 35) C dX5_fit_35 rfl ?_
      refine w_iload_n (pc := 36) C dX5_fit_36 rfl ?_
      obtain ⟨f11, hv⟩ := hv
      refine w_cV0_1 (pc := 37) C cl_X5_37 lv_X4_teethOf (by decide) dX5_fit_37 (Nat.le_of_ble_eq_true rfl) (c := 4) rfl (St4_k f11) ((sf_X4_teethOf (h := h) f11).mono (fun v h9 hp => ?_))
      obtain ⟨e1, e2⟩ := hp
      rw [e1, e2]
      refine w_icmp_ne (pc := 40) C (tgt := 47) dX5_fit_40 (by decide) ?_
      obtain ⟨hv1, hv2⟩ := hv
      refine ⟨fun c12 => ?_, fun c12 => ?_⟩
      · have hv := hv1 c12
        refine w_iconst (pc := 47) C (v := 0) dX5_fit_47 (by decide) ?_
        refine w_sub ?_ hv
        exact ⟨rfl, rfl, rfl, trivial⟩
      · have hv := hv2 c12
        refine w_iconst (pc := 43) C (v := 1) dX5_fit_43 (by decide) ?_
        refine w_goto (pc := 44) C (tgt := 48) dX5_fit_44 (by decide) ?_
        refine w_sub ?_ hv
        exact ⟨rfl, rfl, rfl, trivial⟩
set_option maxRecDepth 20000 in
set_option maxHeartbeats 2000000 in
theorem V_X5_fit_48 {X : Ctx} (C : C_X5_fit X) {k n : Nat} {Q : Pq} {h : Hp} {v0 v1 : Nat} {v3 s0 : Int32}
    (hv : St5 h v0 ∧ St4 h v1 ∧ inb v3 12 ∧ Wj X k n Q 19 [(0, .ref v0), (1, .ref v1), (2, .int s0), (3, .int (v3 + Int32.ofInt 1))] [] (si h (v0 + 1) (ix v3) (hTe h v1 v3))) :
    Wj X k n Q 48 [(0, .ref v0), (1, .ref v1), (3, .int v3)] [.int s0] h := by
  refine w_istore_n (pc := 48) C dX5_fit_48 (by decide) ?_
  refine w_aload_n (pc := 49) C dX5_fit_49 rfl ?_
  obtain ⟨f1, hv⟩ := hv
  refine w_getR (pc := 50) C fl_X5_18 rfl dX5_fit_50 (St5_k f1) (St5_r2 f1) ?_
  refine w_iload_n (pc := 53) C dX5_fit_53 rfl ?_
  refine w_aload_n (pc := 54) C dX5_fit_54 rfl ?_
  refine w_iload_n (pc := 55) C dX5_fit_55 rfl ?_
  obtain ⟨f2, hv⟩ := hv
  refine w_cV0_1 (pc := 56) C cl_X5_37 lv_X4_teethOf (by decide) dX5_fit_56 (Nat.le_of_ble_eq_true rfl) (c := 4) rfl (St4_k f2) ((sf_X4_teethOf (h := h) f2).mono (fun v h9 hp => ?_))
  obtain ⟨e1, e2⟩ := hp
  rw [e1, e2]
  obtain ⟨f3, hv⟩ := hv
  refine w_iast (pc := 59) C dX5_fit_59 (St5_k2 f1) (inbl (St5_l2 f1) f3) ?_
  refine w_iinc (pc := 60) C dX5_fit_60 rfl (by decide) ?_
  refine w_goto (pc := 63) C (tgt := 19) dX5_fit_63 (by decide) ?_
  refine w_sub ?_ hv
  exact ⟨rfl, rfl, rfl, rfl, trivial⟩
theorem dX5_find_0 : decode cX5_find 0 = .ok (.lload_n 1, 1) := by decide +kernel
theorem dX5_find_1 : decode cX5_find 1 = .ok (.lload_n 3, 1) := by decide +kernel
theorem dX5_find_2 : decode cX5_find 2 = .ok (.invokestatic 64, 3) := by decide +kernel
theorem dX5_find_5 : decode cX5_find 5 = .ok (.lstore 5, 2) := by decide +kernel
theorem dX5_find_7 : decode cX5_find 7 = .ok (.lload 5, 2) := by decide +kernel
theorem dX5_find_9 : decode cX5_find 9 = .ok (.lconst 0, 1) := by decide +kernel
theorem dX5_find_10 : decode cX5_find 10 = .ok (.lcmp, 1) := by decide +kernel
theorem dX5_find_11 : decode cX5_find 11 = .ok (.ifCond .gt 5, 3) := by decide +kernel
theorem dX5_find_14 : decode cX5_find 14 = .ok (.iconst (-1), 1) := by decide +kernel
theorem dX5_find_15 : decode cX5_find 15 = .ok (.ireturn, 1) := by decide +kernel
theorem dX5_find_16 : decode cX5_find 16 = .ok (.aload_n 0, 1) := by decide +kernel
theorem dX5_find_17 : decode cX5_find 17 = .ok (.lload_n 1, 1) := by decide +kernel
theorem dX5_find_18 : decode cX5_find 18 = .ok (.lload 5, 2) := by decide +kernel
theorem dX5_find_20 : decode cX5_find 20 = .ok (.ldiv, 1) := by decide +kernel
theorem dX5_find_21 : decode cX5_find 21 = .ok (.l2i, 1) := by decide +kernel
theorem dX5_find_22 : decode cX5_find 22 = .ok (.lload_n 3, 1) := by decide +kernel
theorem dX5_find_23 : decode cX5_find 23 = .ok (.lload 5, 2) := by decide +kernel
theorem dX5_find_25 : decode cX5_find 25 = .ok (.ldiv, 1) := by decide +kernel
theorem dX5_find_26 : decode cX5_find 26 = .ok (.l2i, 1) := by decide +kernel
theorem dX5_find_27 : decode cX5_find 27 = .ok (.invokevirtual 68, 3) := by decide +kernel
theorem dX5_find_30 : decode cX5_find 30 = .ok (.istore 7, 2) := by decide +kernel
theorem dX5_find_32 : decode cX5_find 32 = .ok (.iload 7, 2) := by decide +kernel
theorem dX5_find_34 : decode cX5_find 34 = .ok (.ifCond .lt 23, 3) := by decide +kernel
theorem dX5_find_37 : decode cX5_find 37 = .ok (.iload 7, 2) := by decide +kernel
theorem dX5_find_39 : decode cX5_find 39 = .ok (.sipush 8192, 3) := by decide +kernel
theorem dX5_find_42 : decode cX5_find 42 = .ok (.if_icmp .ge 15, 3) := by decide +kernel
theorem dX5_find_45 : decode cX5_find 45 = .ok (.aload_n 0, 1) := by decide +kernel
theorem dX5_find_46 : decode cX5_find 46 = .ok (.getfield 31, 3) := by decide +kernel
theorem dX5_find_49 : decode cX5_find 49 = .ok (.iload 7, 2) := by decide +kernel
theorem dX5_find_51 : decode cX5_find 51 = .ok (.iaload, 1) := by decide +kernel
theorem dX5_find_52 : decode cX5_find 52 = .ok (.iconst 1, 1) := by decide +kernel
theorem dX5_find_53 : decode cX5_find 53 = .ok (.isub, 1) := by decide +kernel
theorem dX5_find_54 : decode cX5_find 54 = .ok (.goto 4, 3) := by decide +kernel
theorem dX5_find_57 : decode cX5_find 57 = .ok (.iconst (-1), 1) := by decide +kernel
theorem dX5_find_58 : decode cX5_find 58 = .ok (.ireturn, 1) := by decide +kernel
set_option maxRecDepth 20000 in
set_option maxHeartbeats 2000000 in
theorem V_X5_find_0 {X : Ctx} (C : C_X5_find X) {k n : Nat} {Q : Pq} {h : Hp} {v0 : Nat} {v1 v3 : Int64}
    (hv : -9223372036854775807 ≤ (Int64.toInt v1) ∧ 0 < (Int64.toInt v3) ∧ ((0 < (cm v1 v3) → ¬ (cm v1 v3) = 0 ∧ St5 h v0 ∧ S_X5_slotOf (lX X) (dtX X) 0 0 [.ref v0, .int (Int64.toInt32 (v1 / (cm v1 v3))), .int (Int64.toInt32 (v3 / (cm v1 v3)))] h (QI fun x6 h5 =>
    ((x6 < 0 → Q (some (.int (-1))) h5) ∧
    (¬ x6 < 0 → ((8192 ≤ x6 → Q (some (.int (-1))) h5) ∧
    (¬ 8192 ≤ x6 → St5 h5 v0 ∧ inb x6 8192 ∧ Q (some (.int ((gi h5 (v0 + 5) (ix x6)) - 1))) h5)))))) ∧
    (¬ 0 < (cm v1 v3) → Q (some (.int (-1))) h))) :
    Wj X k n Q 0 [(0, .ref v0), (1, .long v1), (3, .long v3)] [] h := by
  refine w_lload_n (pc := 0) C dX5_find_0 rfl ?_
  refine w_lload_n (pc := 1) C dX5_find_1 rfl ?_
  obtain ⟨f1, hv⟩ := hv
  obtain ⟨f2, hv⟩ := hv
  refine w_cSN0_2 (pc := 2) C cl_X5_64 ls_X9_common (by decide) dX5_find_2 (Nat.le_of_ble_eq_true rfl) ((sf_X9_common (h := h) f1 f2).mono (fun v h9 hp => ?_))
  obtain ⟨e1, e2⟩ := hp
  rw [e1, e2]
  refine w_lstore (pc := 5) C dX5_find_5 (by decide) ?_
  refine w_lload (pc := 7) C dX5_find_7 rfl ?_
  refine w_lconst (pc := 9) C (v := 0) dX5_find_9 (by decide) ?_
  refine w_lcmp_gt (pc := 10) C (tgt := 16) dX5_find_10 dX5_find_11 (by decide) ?_
  obtain ⟨hv1, hv2⟩ := hv
  refine ⟨fun c11 => ?_, fun c11 => ?_⟩
  · have hv := hv1 c11
    refine w_aload_n (pc := 16) C dX5_find_16 rfl ?_
    refine w_lload_n (pc := 17) C dX5_find_17 rfl ?_
    refine w_lload (pc := 18) C dX5_find_18 rfl ?_
    obtain ⟨f3, hv⟩ := hv
    refine w_ldiv (pc := 20) C dX5_find_20 f3 ?_
    refine w_l2i (pc := 21) C dX5_find_21 ?_
    refine w_lload_n (pc := 22) C dX5_find_22 rfl ?_
    refine w_lload (pc := 23) C dX5_find_23 rfl ?_
    refine w_ldiv (pc := 25) C dX5_find_25 f3 ?_
    refine w_l2i (pc := 26) C dX5_find_26 ?_
    obtain ⟨f4, hv⟩ := hv
    refine w_cV0_2 (pc := 27) C cl_X5_68 lv_X5_slotOf (by decide) dX5_find_27 (Nat.le_of_ble_eq_true rfl) (c := 5) rfl (St5_k f4) (hv.mono (fun v h5 hp => ?_))
    obtain ⟨x6, rfl, hv⟩ := hp
    refine w_istore (pc := 30) C dX5_find_30 (by decide) ?_
    refine w_iload (pc := 32) C dX5_find_32 rfl ?_
    refine w_if_lt (pc := 34) C (tgt := 57) dX5_find_34 (by decide) ?_
    obtain ⟨hv1, hv2⟩ := hv
    refine ⟨fun c10 => ?_, fun c10 => ?_⟩
    · have hv := hv1 c10
      refine w_iconst (pc := 57) C (v := (-1)) dX5_find_57 (by decide) ?_
      exact w_iret (pc := 58) C dX5_find_58 hv
    · have hv := hv2 c10
      refine w_iload (pc := 37) C dX5_find_37 rfl ?_
      refine w_sipush (pc := 39) C (v := 8192) dX5_find_39 (by decide) ?_
      refine w_icmp_ge (pc := 42) C (tgt := 57) dX5_find_42 (by decide) ?_
      obtain ⟨hv1, hv2⟩ := hv
      refine ⟨fun c9 => ?_, fun c9 => ?_⟩
      · have hv := hv1 c9
        refine w_iconst (pc := 57) C (v := (-1)) dX5_find_57 (by decide) ?_
        exact w_iret (pc := 58) C dX5_find_58 hv
      · have hv := hv2 c9
        refine w_aload_n (pc := 45) C dX5_find_45 rfl ?_
        obtain ⟨f7, hv⟩ := hv
        refine w_getR (pc := 46) C fl_X5_31 rfl dX5_find_46 (St5_k f7) (St5_r6 f7) ?_
        refine w_iload (pc := 49) C dX5_find_49 rfl ?_
        obtain ⟨f8, hv⟩ := hv
        refine w_iald (pc := 51) C dX5_find_51 (St5_k6 f7) (inbl (St5_l6 f7) f8) ?_
        refine w_iconst (pc := 52) C (v := 1) dX5_find_52 (by decide) ?_
        refine w_isub (pc := 53) C dX5_find_53 ?_
        refine w_goto (pc := 54) C (tgt := 58) dX5_find_54 (by decide) ?_
        exact w_iret (pc := 58) C dX5_find_58 hv
  · have hv := hv2 c11
    refine w_iconst (pc := 14) C (v := (-1)) dX5_find_14 (by decide) ?_
    exact w_iret (pc := 15) C dX5_find_15 hv
theorem dX5_upper_0 : decode cX5_upper 0 = .ok (.lload_n 1, 1) := by decide +kernel
theorem dX5_upper_1 : decode cX5_upper 1 = .ok (.lconst 0, 1) := by decide +kernel
theorem dX5_upper_2 : decode cX5_upper 2 = .ok (.lcmp, 1) := by decide +kernel
theorem dX5_upper_3 : decode cX5_upper 3 = .ok (.ifCond .le 14, 3) := by decide +kernel
theorem dX5_upper_6 : decode cX5_upper 6 = .ok (.lload_n 1, 1) := by decide +kernel
theorem dX5_upper_7 : decode cX5_upper 7 = .ok (.aload_n 0, 1) := by decide +kernel
theorem dX5_upper_8 : decode cX5_upper 8 = .ok (.iload_n 3, 1) := by decide +kernel
theorem dX5_upper_9 : decode cX5_upper 9 = .ok (.invokevirtual 77, 3) := by decide +kernel
theorem dX5_upper_12 : decode cX5_upper 12 = .ok (.i2l, 1) := by decide +kernel
theorem dX5_upper_13 : decode cX5_upper 13 = .ok (.lmul, 1) := by decide +kernel
theorem dX5_upper_14 : decode cX5_upper 14 = .ok (.goto 9, 3) := by decide +kernel
theorem dX5_upper_17 : decode cX5_upper 17 = .ok (.aload_n 0, 1) := by decide +kernel
theorem dX5_upper_18 : decode cX5_upper 18 = .ok (.iload_n 3, 1) := by decide +kernel
theorem dX5_upper_19 : decode cX5_upper 19 = .ok (.invokevirtual 80, 3) := by decide +kernel
theorem dX5_upper_22 : decode cX5_upper 22 = .ok (.i2l, 1) := by decide +kernel
theorem dX5_upper_23 : decode cX5_upper 23 = .ok (.lreturn, 1) := by decide +kernel
set_option maxRecDepth 20000 in
set_option maxHeartbeats 2000000 in
theorem V_X5_upper_0 {X : Ctx} (C : C_X5_upper X) {k n : Nat} {Q : Pq} {h : Hp} {v0 : Nat} {v1 : Int64} {v3 : Int32}
    (hv : ((v1 ≤ 0 → St5 h v0 ∧ Q (some (.long (Int32.toInt64 (sUp h v0 v3)))) h) ∧
    (¬ v1 ≤ 0 → St5 h v0 ∧ Q (some (.long (v1 * (Int32.toInt64 (sLo h v0 v3))))) h))) :
    Wj X k n Q 0 [(0, .ref v0), (1, .long v1), (3, .int v3)] [] h := by
  refine w_lload_n (pc := 0) C dX5_upper_0 rfl ?_
  refine w_lconst (pc := 1) C (v := 0) dX5_upper_1 (by decide) ?_
  refine w_lcmp_le (pc := 2) C (tgt := 17) dX5_upper_2 dX5_upper_3 (by decide) ?_
  obtain ⟨hv1, hv2⟩ := hv
  refine ⟨fun c3 => ?_, fun c3 => ?_⟩
  · have hv := hv1 c3
    refine w_aload_n (pc := 17) C dX5_upper_17 rfl ?_
    refine w_iload_n (pc := 18) C dX5_upper_18 rfl ?_
    obtain ⟨f1, hv⟩ := hv
    refine w_cV0_1 (pc := 19) C cl_X5_80 lv_X5_up (by decide) dX5_upper_19 (Nat.le_of_ble_eq_true rfl) (c := 5) rfl (St5_k f1) ((sf_X5_up (h := h) f1).mono (fun v h9 hp => ?_))
    obtain ⟨e1, e2⟩ := hp
    rw [e1, e2]
    refine w_i2l (pc := 22) C dX5_upper_22 ?_
    exact w_lret (pc := 23) C dX5_upper_23 hv
  · have hv := hv2 c3
    refine w_lload_n (pc := 6) C dX5_upper_6 rfl ?_
    refine w_aload_n (pc := 7) C dX5_upper_7 rfl ?_
    refine w_iload_n (pc := 8) C dX5_upper_8 rfl ?_
    obtain ⟨f2, hv⟩ := hv
    refine w_cV0_1 (pc := 9) C cl_X5_77 lv_X5_low (by decide) dX5_upper_9 (Nat.le_of_ble_eq_true rfl) (c := 5) rfl (St5_k f2) ((sf_X5_low (h := h) f2).mono (fun v h9 hp => ?_))
    obtain ⟨e1, e2⟩ := hp
    rw [e1, e2]
    refine w_i2l (pc := 12) C dX5_upper_12 ?_
    refine w_lmul (pc := 13) C dX5_upper_13 ?_
    refine w_goto (pc := 14) C (tgt := 23) dX5_upper_14 (by decide) ?_
    exact w_lret (pc := 23) C dX5_upper_23 hv
theorem dX5_lower_0 : decode cX5_lower 0 = .ok (.lload_n 1, 1) := by decide +kernel
theorem dX5_lower_1 : decode cX5_lower 1 = .ok (.lconst 0, 1) := by decide +kernel
theorem dX5_lower_2 : decode cX5_lower 2 = .ok (.lcmp, 1) := by decide +kernel
theorem dX5_lower_3 : decode cX5_lower 3 = .ok (.ifCond .le 12, 3) := by decide +kernel
theorem dX5_lower_6 : decode cX5_lower 6 = .ok (.aload_n 0, 1) := by decide +kernel
theorem dX5_lower_7 : decode cX5_lower 7 = .ok (.iload_n 3, 1) := by decide +kernel
theorem dX5_lower_8 : decode cX5_lower 8 = .ok (.invokevirtual 80, 3) := by decide +kernel
theorem dX5_lower_11 : decode cX5_lower 11 = .ok (.i2l, 1) := by decide +kernel
theorem dX5_lower_12 : decode cX5_lower 12 = .ok (.goto 9, 3) := by decide +kernel
theorem dX5_lower_15 : decode cX5_lower 15 = .ok (.aload_n 0, 1) := by decide +kernel
theorem dX5_lower_16 : decode cX5_lower 16 = .ok (.iload_n 3, 1) := by decide +kernel
theorem dX5_lower_17 : decode cX5_lower 17 = .ok (.invokevirtual 77, 3) := by decide +kernel
theorem dX5_lower_20 : decode cX5_lower 20 = .ok (.i2l, 1) := by decide +kernel
theorem dX5_lower_21 : decode cX5_lower 21 = .ok (.lreturn, 1) := by decide +kernel
set_option maxRecDepth 20000 in
set_option maxHeartbeats 2000000 in
theorem V_X5_lower_0 {X : Ctx} (C : C_X5_lower X) {k n : Nat} {Q : Pq} {h : Hp} {v0 : Nat} {v1 : Int64} {v3 : Int32}
    (hv : ((v1 ≤ 0 → St5 h v0 ∧ Q (some (.long (Int32.toInt64 (sLo h v0 v3)))) h) ∧
    (¬ v1 ≤ 0 → St5 h v0 ∧ Q (some (.long (Int32.toInt64 (sUp h v0 v3)))) h))) :
    Wj X k n Q 0 [(0, .ref v0), (1, .long v1), (3, .int v3)] [] h := by
  refine w_lload_n (pc := 0) C dX5_lower_0 rfl ?_
  refine w_lconst (pc := 1) C (v := 0) dX5_lower_1 (by decide) ?_
  refine w_lcmp_le (pc := 2) C (tgt := 15) dX5_lower_2 dX5_lower_3 (by decide) ?_
  obtain ⟨hv1, hv2⟩ := hv
  refine ⟨fun c3 => ?_, fun c3 => ?_⟩
  · have hv := hv1 c3
    refine w_aload_n (pc := 15) C dX5_lower_15 rfl ?_
    refine w_iload_n (pc := 16) C dX5_lower_16 rfl ?_
    obtain ⟨f1, hv⟩ := hv
    refine w_cV0_1 (pc := 17) C cl_X5_77 lv_X5_low (by decide) dX5_lower_17 (Nat.le_of_ble_eq_true rfl) (c := 5) rfl (St5_k f1) ((sf_X5_low (h := h) f1).mono (fun v h9 hp => ?_))
    obtain ⟨e1, e2⟩ := hp
    rw [e1, e2]
    refine w_i2l (pc := 20) C dX5_lower_20 ?_
    exact w_lret (pc := 21) C dX5_lower_21 hv
  · have hv := hv2 c3
    refine w_aload_n (pc := 6) C dX5_lower_6 rfl ?_
    refine w_iload_n (pc := 7) C dX5_lower_7 rfl ?_
    obtain ⟨f2, hv⟩ := hv
    refine w_cV0_1 (pc := 8) C cl_X5_80 lv_X5_up (by decide) dX5_lower_8 (Nat.le_of_ble_eq_true rfl) (c := 5) rfl (St5_k f2) ((sf_X5_up (h := h) f2).mono (fun v h9 hp => ?_))
    obtain ⟨e1, e2⟩ := hp
    rw [e1, e2]
    refine w_i2l (pc := 11) C dX5_lower_11 ?_
    refine w_goto (pc := 12) C (tgt := 21) dX5_lower_12 (by decide) ?_
    exact w_lret (pc := 21) C dX5_lower_21 hv
theorem dX5_closest_0 : decode cX5_closest 0 = .ok (.iconst 0, 1) := by decide +kernel
theorem dX5_closest_1 : decode cX5_closest 1 = .ok (.istore 7, 2) := by decide +kernel
theorem dX5_closest_3 : decode cX5_closest 3 = .ok (.aload_n 0, 1) := by decide +kernel
theorem dX5_closest_4 : decode cX5_closest 4 = .ok (.lload_n 1, 1) := by decide +kernel
theorem dX5_closest_5 : decode cX5_closest 5 = .ok (.iconst 0, 1) := by decide +kernel
theorem dX5_closest_6 : decode cX5_closest 6 = .ok (.invokevirtual 83, 3) := by decide +kernel
theorem dX5_closest_9 : decode cX5_closest 9 = .ok (.lstore 8, 2) := by decide +kernel
theorem dX5_closest_11 : decode cX5_closest 11 = .ok (.aload_n 0, 1) := by decide +kernel
theorem dX5_closest_12 : decode cX5_closest 12 = .ok (.lload_n 1, 1) := by decide +kernel
theorem dX5_closest_13 : decode cX5_closest 13 = .ok (.iconst 0, 1) := by decide +kernel
theorem dX5_closest_14 : decode cX5_closest 14 = .ok (.invokevirtual 87, 3) := by decide +kernel
theorem dX5_closest_17 : decode cX5_closest 17 = .ok (.lstore 10, 2) := by decide +kernel
theorem dX5_closest_19 : decode cX5_closest 19 = .ok (.lload 8, 2) := by decide +kernel
theorem dX5_closest_21 : decode cX5_closest 21 = .ok (.lload 5, 2) := by decide +kernel
theorem dX5_closest_23 : decode cX5_closest 23 = .ok (.lmul, 1) := by decide +kernel
theorem dX5_closest_24 : decode cX5_closest 24 = .ok (.lload_n 3, 1) := by decide +kernel
theorem dX5_closest_25 : decode cX5_closest 25 = .ok (.lload 10, 2) := by decide +kernel
theorem dX5_closest_27 : decode cX5_closest 27 = .ok (.lmul, 1) := by decide +kernel
theorem dX5_closest_28 : decode cX5_closest 28 = .ok (.lsub, 1) := by decide +kernel
theorem dX5_closest_29 : decode cX5_closest 29 = .ok (.invokestatic 90, 3) := by decide +kernel
theorem dX5_closest_32 : decode cX5_closest 32 = .ok (.lstore 12, 2) := by decide +kernel
theorem dX5_closest_34 : decode cX5_closest 34 = .ok (.iconst 1, 1) := by decide +kernel
theorem dX5_closest_35 : decode cX5_closest 35 = .ok (.istore 14, 2) := by decide +kernel
theorem dX5_closest_37 : decode cX5_closest 37 = .ok (.iload 14, 2) := by decide +kernel
theorem dX5_closest_39 : decode cX5_closest 39 = .ok (.aload_n 0, 1) := by decide +kernel
theorem dX5_closest_40 : decode cX5_closest 40 = .ok (.getfield 9, 3) := by decide +kernel
theorem dX5_closest_43 : decode cX5_closest 43 = .ok (.if_icmp .ge 99, 3) := by decide +kernel
theorem dX5_closest_46 : decode cX5_closest 46 = .ok (.aload_n 0, 1) := by decide +kernel
theorem dX5_closest_47 : decode cX5_closest 47 = .ok (.lload_n 1, 1) := by decide +kernel
theorem dX5_closest_48 : decode cX5_closest 48 = .ok (.iload 14, 2) := by decide +kernel
theorem dX5_closest_50 : decode cX5_closest 50 = .ok (.invokevirtual 83, 3) := by decide +kernel
theorem dX5_closest_53 : decode cX5_closest 53 = .ok (.lstore 15, 2) := by decide +kernel
theorem dX5_closest_55 : decode cX5_closest 55 = .ok (.aload_n 0, 1) := by decide +kernel
theorem dX5_closest_56 : decode cX5_closest 56 = .ok (.lload_n 1, 1) := by decide +kernel
theorem dX5_closest_57 : decode cX5_closest 57 = .ok (.iload 14, 2) := by decide +kernel
theorem dX5_closest_59 : decode cX5_closest 59 = .ok (.invokevirtual 87, 3) := by decide +kernel
theorem dX5_closest_62 : decode cX5_closest 62 = .ok (.lstore 17, 2) := by decide +kernel
theorem dX5_closest_64 : decode cX5_closest 64 = .ok (.lload 15, 2) := by decide +kernel
theorem dX5_closest_66 : decode cX5_closest 66 = .ok (.lload 5, 2) := by decide +kernel
theorem dX5_closest_68 : decode cX5_closest 68 = .ok (.lmul, 1) := by decide +kernel
theorem dX5_closest_69 : decode cX5_closest 69 = .ok (.lload_n 3, 1) := by decide +kernel
theorem dX5_closest_70 : decode cX5_closest 70 = .ok (.lload 17, 2) := by decide +kernel
theorem dX5_closest_72 : decode cX5_closest 72 = .ok (.lmul, 1) := by decide +kernel
theorem dX5_closest_73 : decode cX5_closest 73 = .ok (.lsub, 1) := by decide +kernel
theorem dX5_closest_74 : decode cX5_closest 74 = .ok (.invokestatic 90, 3) := by decide +kernel
theorem dX5_closest_77 : decode cX5_closest 77 = .ok (.lstore 19, 2) := by decide +kernel
theorem dX5_closest_79 : decode cX5_closest 79 = .ok (.lload 19, 2) := by decide +kernel
theorem dX5_closest_81 : decode cX5_closest 81 = .ok (.lload 10, 2) := by decide +kernel
theorem dX5_closest_83 : decode cX5_closest 83 = .ok (.lmul, 1) := by decide +kernel
theorem dX5_closest_84 : decode cX5_closest 84 = .ok (.lload 12, 2) := by decide +kernel
theorem dX5_closest_86 : decode cX5_closest 86 = .ok (.lload 17, 2) := by decide +kernel
theorem dX5_closest_88 : decode cX5_closest 88 = .ok (.lmul, 1) := by decide +kernel
theorem dX5_closest_89 : decode cX5_closest 89 = .ok (.lsub, 1) := by decide +kernel
theorem dX5_closest_90 : decode cX5_closest 90 = .ok (.lstore 21, 2) := by decide +kernel
theorem dX5_closest_92 : decode cX5_closest 92 = .ok (.lload 21, 2) := by decide +kernel
theorem dX5_closest_94 : decode cX5_closest 94 = .ok (.lconst 0, 1) := by decide +kernel
theorem dX5_closest_95 : decode cX5_closest 95 = .ok (.lcmp, 1) := by decide +kernel
theorem dX5_closest_96 : decode cX5_closest 96 = .ok (.ifCond .lt 24, 3) := by decide +kernel
theorem dX5_closest_99 : decode cX5_closest 99 = .ok (.lload 21, 2) := by decide +kernel
theorem dX5_closest_101 : decode cX5_closest 101 = .ok (.lconst 0, 1) := by decide +kernel
theorem dX5_closest_102 : decode cX5_closest 102 = .ok (.lcmp, 1) := by decide +kernel
theorem dX5_closest_103 : decode cX5_closest 103 = .ok (.ifCond .ne 33, 3) := by decide +kernel
theorem dX5_closest_106 : decode cX5_closest 106 = .ok (.lload 15, 2) := by decide +kernel
theorem dX5_closest_108 : decode cX5_closest 108 = .ok (.lload 10, 2) := by decide +kernel
theorem dX5_closest_110 : decode cX5_closest 110 = .ok (.lmul, 1) := by decide +kernel
theorem dX5_closest_111 : decode cX5_closest 111 = .ok (.lload 8, 2) := by decide +kernel
theorem dX5_closest_113 : decode cX5_closest 113 = .ok (.lload 17, 2) := by decide +kernel
theorem dX5_closest_115 : decode cX5_closest 115 = .ok (.lmul, 1) := by decide +kernel
theorem dX5_closest_116 : decode cX5_closest 116 = .ok (.lcmp, 1) := by decide +kernel
theorem dX5_closest_117 : decode cX5_closest 117 = .ok (.ifCond .ge 19, 3) := by decide +kernel
theorem dX5_closest_120 : decode cX5_closest 120 = .ok (.iload 14, 2) := by decide +kernel
theorem dX5_closest_122 : decode cX5_closest 122 = .ok (.istore 7, 2) := by decide +kernel
theorem dX5_closest_124 : decode cX5_closest 124 = .ok (.lload 15, 2) := by decide +kernel
theorem dX5_closest_126 : decode cX5_closest 126 = .ok (.lstore 8, 2) := by decide +kernel
theorem dX5_closest_128 : decode cX5_closest 128 = .ok (.lload 17, 2) := by decide +kernel
theorem dX5_closest_130 : decode cX5_closest 130 = .ok (.lstore 10, 2) := by decide +kernel
theorem dX5_closest_132 : decode cX5_closest 132 = .ok (.lload 19, 2) := by decide +kernel
theorem dX5_closest_134 : decode cX5_closest 134 = .ok (.lstore 12, 2) := by decide +kernel
theorem dX5_closest_136 : decode cX5_closest 136 = .ok (.iinc 14 1, 3) := by decide +kernel
theorem dX5_closest_139 : decode cX5_closest 139 = .ok (.goto (-102), 3) := by decide +kernel
theorem dX5_closest_142 : decode cX5_closest 142 = .ok (.iload 7, 2) := by decide +kernel
theorem dX5_closest_144 : decode cX5_closest 144 = .ok (.ireturn, 1) := by decide +kernel
set_option maxRecDepth 20000 in
set_option maxHeartbeats 2000000 in
theorem V_X5_closest_0 {X : Ctx} (C : C_X5_closest X) {k n : Nat} {Q : Pq} {h : Hp} {v0 : Nat} {v1 v3 v5 : Int64}
    (hv : St5 h v0 ∧ S_X5_upper (lX X) (dtX X) 0 0 [.ref v0, .long v1, .int 0] h (QL fun x3 h2 =>
    St5 h2 v0 ∧ S_X5_lower (lX X) (dtX X) 0 0 [.ref v0, .long v1, .int 0] h2 (QL fun x6 h5 =>
    Wj X k n Q 37 [(0, .ref v0), (1, .long v1), (3, .long v3), (5, .long v5), (7, .int 0), (8, .long x3), (10, .long x6), (12, .long (abL ((x3 * v5) - (v3 * x6)))), (14, .int 1)] [] h5))) :
    Wj X k n Q 0 [(0, .ref v0), (1, .long v1), (3, .long v3), (5, .long v5)] [] h := by
  refine w_iconst (pc := 0) C (v := 0) dX5_closest_0 (by decide) ?_
  refine w_istore (pc := 1) C dX5_closest_1 (by decide) ?_
  refine w_aload_n (pc := 3) C dX5_closest_3 rfl ?_
  refine w_lload_n (pc := 4) C dX5_closest_4 rfl ?_
  refine w_iconst (pc := 5) C (v := 0) dX5_closest_5 (by decide) ?_
  obtain ⟨f1, hv⟩ := hv
  refine w_cV0_2 (pc := 6) C cl_X5_83 lv_X5_upper (by decide) dX5_closest_6 (Nat.le_of_ble_eq_true rfl) (c := 5) rfl (St5_k f1) (hv.mono (fun v h2 hp => ?_))
  obtain ⟨x3, rfl, hv⟩ := hp
  refine w_lstore (pc := 9) C dX5_closest_9 (by decide) ?_
  refine w_aload_n (pc := 11) C dX5_closest_11 rfl ?_
  refine w_lload_n (pc := 12) C dX5_closest_12 rfl ?_
  refine w_iconst (pc := 13) C (v := 0) dX5_closest_13 (by decide) ?_
  obtain ⟨f4, hv⟩ := hv
  refine w_cV0_2 (pc := 14) C cl_X5_87 lv_X5_lower (by decide) dX5_closest_14 (Nat.le_of_ble_eq_true rfl) (c := 5) rfl (St5_k f4) (hv.mono (fun v h5 hp => ?_))
  obtain ⟨x6, rfl, hv⟩ := hp
  refine w_lstore (pc := 17) C dX5_closest_17 (by decide) ?_
  refine w_lload (pc := 19) C dX5_closest_19 rfl ?_
  refine w_lload (pc := 21) C dX5_closest_21 rfl ?_
  refine w_lmul (pc := 23) C dX5_closest_23 ?_
  refine w_lload_n (pc := 24) C dX5_closest_24 rfl ?_
  refine w_lload (pc := 25) C dX5_closest_25 rfl ?_
  refine w_lmul (pc := 27) C dX5_closest_27 ?_
  refine w_lsub (pc := 28) C dX5_closest_28 ?_
  refine w_cS0_1 (pc := 29) C cl_X5_90 ls_J9_abs_067f4 (by decide) dX5_closest_29 (Nat.le_of_ble_eq_true rfl) ((sf_J9_abs_067f4 (h := h5) ).mono (fun v h9 hp => ?_))
  obtain ⟨e1, e2⟩ := hp
  rw [e1, e2]
  refine w_lstore (pc := 32) C dX5_closest_32 (by decide) ?_
  refine w_iconst (pc := 34) C (v := 1) dX5_closest_34 (by decide) ?_
  refine w_istore (pc := 35) C dX5_closest_35 (by decide) ?_
  refine w_sub ?_ hv
  exact ⟨rfl, rfl, rfl, rfl, rfl, rfl, rfl, rfl, rfl, trivial⟩
set_option maxRecDepth 20000 in
set_option maxHeartbeats 2000000 in
theorem V_X5_closest_37 {X : Ctx} (C : C_X5_closest X) {k n : Nat} {Q : Pq} {h : Hp} {v0 : Nat} {v1 v3 v5 v8 v10 v12 : Int64} {v7 v14 : Int32}
    (hv : St5 h v0 ∧ (((gi h v0 0) ≤ v14 → Q (some (.int v7)) h) ∧
    (¬ (gi h v0 0) ≤ v14 → S_X5_upper (lX X) (dtX X) 0 0 [.ref v0, .long v1, .int v14] h (QL fun x3 h2 =>
    St5 h2 v0 ∧ S_X5_lower (lX X) (dtX X) 0 0 [.ref v0, .long v1, .int v14] h2 (QL fun x6 h5 =>
    (((((abL ((x3 * v5) - (v3 * x6))) * v10) - (v12 * x6)) < 0 → Wj X k n Q 120 [(0, .ref v0), (1, .long v1), (3, .long v3), (5, .long v5), (14, .int v14), (15, .long x3), (17, .long x6), (19, .long (abL ((x3 * v5) - (v3 * x6))))] [] h5) ∧
    (¬ (((abL ((x3 * v5) - (v3 * x6))) * v10) - (v12 * x6)) < 0 → ((¬ (((abL ((x3 * v5) - (v3 * x6))) * v10) - (v12 * x6)) = 0 → Wj X k n Q 37 [(0, .ref v0), (1, .long v1), (3, .long v3), (5, .long v5), (7, .int v7), (8, .long v8), (10, .long v10), (12, .long v12), (14, .int (v14 + Int32.ofInt 1))] [] h5) ∧
    ((((abL ((x3 * v5) - (v3 * x6))) * v10) - (v12 * x6)) = 0 → (((v8 * x6) ≤ (x3 * v10) → Wj X k n Q 37 [(0, .ref v0), (1, .long v1), (3, .long v3), (5, .long v5), (7, .int v7), (8, .long v8), (10, .long v10), (12, .long v12), (14, .int (v14 + Int32.ofInt 1))] [] h5) ∧
    (¬ (v8 * x6) ≤ (x3 * v10) → Wj X k n Q 120 [(0, .ref v0), (1, .long v1), (3, .long v3), (5, .long v5), (14, .int v14), (15, .long x3), (17, .long x6), (19, .long (abL ((x3 * v5) - (v3 * x6))))] [] h5))))))))))) :
    Wj X k n Q 37 [(0, .ref v0), (1, .long v1), (3, .long v3), (5, .long v5), (7, .int v7), (8, .long v8), (10, .long v10), (12, .long v12), (14, .int v14)] [] h := by
  refine w_iload (pc := 37) C dX5_closest_37 rfl ?_
  refine w_aload_n (pc := 39) C dX5_closest_39 rfl ?_
  obtain ⟨f1, hv⟩ := hv
  refine w_getI (pc := 40) C fl_X5_9 rfl dX5_closest_40 (St5_k f1) ?_
  refine w_icmp_ge (pc := 43) C (tgt := 142) dX5_closest_43 (by decide) ?_
  obtain ⟨hv1, hv2⟩ := hv
  refine ⟨fun c10 => ?_, fun c10 => ?_⟩
  · have hv := hv1 c10
    refine w_iload (pc := 142) C dX5_closest_142 rfl ?_
    exact w_iret (pc := 144) C dX5_closest_144 hv
  · have hv := hv2 c10
    refine w_aload_n (pc := 46) C dX5_closest_46 rfl ?_
    refine w_lload_n (pc := 47) C dX5_closest_47 rfl ?_
    refine w_iload (pc := 48) C dX5_closest_48 rfl ?_
    refine w_cV0_2 (pc := 50) C cl_X5_83 lv_X5_upper (by decide) dX5_closest_50 (Nat.le_of_ble_eq_true rfl) (c := 5) rfl (St5_k f1) (hv.mono (fun v h2 hp => ?_))
    obtain ⟨x3, rfl, hv⟩ := hp
    refine w_lstore (pc := 53) C dX5_closest_53 (by decide) ?_
    refine w_aload_n (pc := 55) C dX5_closest_55 rfl ?_
    refine w_lload_n (pc := 56) C dX5_closest_56 rfl ?_
    refine w_iload (pc := 57) C dX5_closest_57 rfl ?_
    obtain ⟨f4, hv⟩ := hv
    refine w_cV0_2 (pc := 59) C cl_X5_87 lv_X5_lower (by decide) dX5_closest_59 (Nat.le_of_ble_eq_true rfl) (c := 5) rfl (St5_k f4) (hv.mono (fun v h5 hp => ?_))
    obtain ⟨x6, rfl, hv⟩ := hp
    refine w_lstore (pc := 62) C dX5_closest_62 (by decide) ?_
    refine w_lload (pc := 64) C dX5_closest_64 rfl ?_
    refine w_lload (pc := 66) C dX5_closest_66 rfl ?_
    refine w_lmul (pc := 68) C dX5_closest_68 ?_
    refine w_lload_n (pc := 69) C dX5_closest_69 rfl ?_
    refine w_lload (pc := 70) C dX5_closest_70 rfl ?_
    refine w_lmul (pc := 72) C dX5_closest_72 ?_
    refine w_lsub (pc := 73) C dX5_closest_73 ?_
    refine w_cS0_1 (pc := 74) C cl_X5_90 ls_J9_abs_067f4 (by decide) dX5_closest_74 (Nat.le_of_ble_eq_true rfl) ((sf_J9_abs_067f4 (h := h5) ).mono (fun v h9 hp => ?_))
    obtain ⟨e1, e2⟩ := hp
    rw [e1, e2]
    refine w_lstore (pc := 77) C dX5_closest_77 (by decide) ?_
    refine w_lload (pc := 79) C dX5_closest_79 rfl ?_
    refine w_lload (pc := 81) C dX5_closest_81 rfl ?_
    refine w_lmul (pc := 83) C dX5_closest_83 ?_
    refine w_lload (pc := 84) C dX5_closest_84 rfl ?_
    refine w_lload (pc := 86) C dX5_closest_86 rfl ?_
    refine w_lmul (pc := 88) C dX5_closest_88 ?_
    refine w_lsub (pc := 89) C dX5_closest_89 ?_
    refine w_lstore (pc := 90) C dX5_closest_90 (by decide) ?_
    refine w_lload (pc := 92) C dX5_closest_92 rfl ?_
    refine w_lconst (pc := 94) C (v := 0) dX5_closest_94 (by decide) ?_
    refine w_lcmp_lt (pc := 95) C (tgt := 120) dX5_closest_95 dX5_closest_96 (by decide) ?_
    obtain ⟨hv1, hv2⟩ := hv
    refine ⟨fun c9 => ?_, fun c9 => ?_⟩
    · have hv := hv1 c9
      refine w_sub ?_ hv
      exact ⟨rfl, rfl, rfl, rfl, rfl, rfl, rfl, rfl, trivial⟩
    · have hv := hv2 c9
      refine w_lload (pc := 99) C dX5_closest_99 rfl ?_
      refine w_lconst (pc := 101) C (v := 0) dX5_closest_101 (by decide) ?_
      refine w_lcmp_ne (pc := 102) C (tgt := 136) dX5_closest_102 dX5_closest_103 (by decide) ?_
      obtain ⟨hv1, hv2⟩ := hv
      refine ⟨fun c8 => ?_, fun c8 => ?_⟩
      · have hv := hv1 c8
        refine w_iinc (pc := 136) C dX5_closest_136 rfl (by decide) ?_
        refine w_goto (pc := 139) C (tgt := 37) dX5_closest_139 (by decide) ?_
        refine w_sub ?_ hv
        exact ⟨rfl, rfl, rfl, rfl, rfl, rfl, rfl, rfl, rfl, trivial⟩
      · have hv := hv2 c8
        refine w_lload (pc := 106) C dX5_closest_106 rfl ?_
        refine w_lload (pc := 108) C dX5_closest_108 rfl ?_
        refine w_lmul (pc := 110) C dX5_closest_110 ?_
        refine w_lload (pc := 111) C dX5_closest_111 rfl ?_
        refine w_lload (pc := 113) C dX5_closest_113 rfl ?_
        refine w_lmul (pc := 115) C dX5_closest_115 ?_
        refine w_lcmp_ge (pc := 116) C (tgt := 136) dX5_closest_116 dX5_closest_117 (by decide) ?_
        obtain ⟨hv1, hv2⟩ := hv
        refine ⟨fun c7 => ?_, fun c7 => ?_⟩
        · have hv := hv1 c7
          refine w_iinc (pc := 136) C dX5_closest_136 rfl (by decide) ?_
          refine w_goto (pc := 139) C (tgt := 37) dX5_closest_139 (by decide) ?_
          refine w_sub ?_ hv
          exact ⟨rfl, rfl, rfl, rfl, rfl, rfl, rfl, rfl, rfl, trivial⟩
        · have hv := hv2 c7
          refine w_sub ?_ hv
          exact ⟨rfl, rfl, rfl, rfl, rfl, rfl, rfl, rfl, trivial⟩
set_option maxRecDepth 20000 in
set_option maxHeartbeats 2000000 in
theorem V_X5_closest_120 {X : Ctx} (C : C_X5_closest X) {k n : Nat} {Q : Pq} {h : Hp} {v0 : Nat} {v1 v3 v5 v15 v17 v19 : Int64} {v14 : Int32}
    (hv : Wj X k n Q 37 [(0, .ref v0), (1, .long v1), (3, .long v3), (5, .long v5), (7, .int v14), (8, .long v15), (10, .long v17), (12, .long v19), (14, .int (v14 + Int32.ofInt 1))] [] h) :
    Wj X k n Q 120 [(0, .ref v0), (1, .long v1), (3, .long v3), (5, .long v5), (14, .int v14), (15, .long v15), (17, .long v17), (19, .long v19)] [] h := by
  refine w_iload (pc := 120) C dX5_closest_120 rfl ?_
  refine w_istore (pc := 122) C dX5_closest_122 (by decide) ?_
  refine w_lload (pc := 124) C dX5_closest_124 rfl ?_
  refine w_lstore (pc := 126) C dX5_closest_126 (by decide) ?_
  refine w_lload (pc := 128) C dX5_closest_128 rfl ?_
  refine w_lstore (pc := 130) C dX5_closest_130 (by decide) ?_
  refine w_lload (pc := 132) C dX5_closest_132 rfl ?_
  refine w_lstore (pc := 134) C dX5_closest_134 (by decide) ?_
  refine w_iinc (pc := 136) C dX5_closest_136 rfl (by decide) ?_
  refine w_goto (pc := 139) C (tgt := 37) dX5_closest_139 (by decide) ?_
  refine w_sub ?_ hv
  exact ⟨rfl, rfl, rfl, rfl, rfl, rfl, rfl, rfl, rfl, trivial⟩
theorem dX5_extreme_0 : decode cX5_extreme 0 = .ok (.iconst 0, 1) := by decide +kernel
theorem dX5_extreme_1 : decode cX5_extreme 1 = .ok (.istore_n 2, 1) := by decide +kernel
theorem dX5_extreme_2 : decode cX5_extreme 2 = .ok (.iconst 1, 1) := by decide +kernel
theorem dX5_extreme_3 : decode cX5_extreme 3 = .ok (.istore_n 3, 1) := by decide +kernel
theorem dX5_extreme_4 : decode cX5_extreme 4 = .ok (.iload_n 3, 1) := by decide +kernel
theorem dX5_extreme_5 : decode cX5_extreme 5 = .ok (.aload_n 0, 1) := by decide +kernel
theorem dX5_extreme_6 : decode cX5_extreme 6 = .ok (.getfield 9, 3) := by decide +kernel
theorem dX5_extreme_9 : decode cX5_extreme 9 = .ok (.if_icmp .ge 43, 3) := by decide +kernel
theorem dX5_extreme_12 : decode cX5_extreme 12 = .ok (.aload_n 0, 1) := by decide +kernel
theorem dX5_extreme_13 : decode cX5_extreme 13 = .ok (.iload_n 3, 1) := by decide +kernel
theorem dX5_extreme_14 : decode cX5_extreme 14 = .ok (.invokevirtual 80, 3) := by decide +kernel
theorem dX5_extreme_17 : decode cX5_extreme 17 = .ok (.aload_n 0, 1) := by decide +kernel
theorem dX5_extreme_18 : decode cX5_extreme 18 = .ok (.iload_n 2, 1) := by decide +kernel
theorem dX5_extreme_19 : decode cX5_extreme 19 = .ok (.invokevirtual 77, 3) := by decide +kernel
theorem dX5_extreme_22 : decode cX5_extreme 22 = .ok (.imul, 1) := by decide +kernel
theorem dX5_extreme_23 : decode cX5_extreme 23 = .ok (.aload_n 0, 1) := by decide +kernel
theorem dX5_extreme_24 : decode cX5_extreme 24 = .ok (.iload_n 2, 1) := by decide +kernel
theorem dX5_extreme_25 : decode cX5_extreme 25 = .ok (.invokevirtual 80, 3) := by decide +kernel
theorem dX5_extreme_28 : decode cX5_extreme 28 = .ok (.aload_n 0, 1) := by decide +kernel
theorem dX5_extreme_29 : decode cX5_extreme 29 = .ok (.iload_n 3, 1) := by decide +kernel
theorem dX5_extreme_30 : decode cX5_extreme 30 = .ok (.invokevirtual 77, 3) := by decide +kernel
theorem dX5_extreme_33 : decode cX5_extreme 33 = .ok (.imul, 1) := by decide +kernel
theorem dX5_extreme_34 : decode cX5_extreme 34 = .ok (.isub, 1) := by decide +kernel
theorem dX5_extreme_35 : decode cX5_extreme 35 = .ok (.istore 4, 2) := by decide +kernel
theorem dX5_extreme_37 : decode cX5_extreme 37 = .ok (.iload 4, 2) := by decide +kernel
theorem dX5_extreme_39 : decode cX5_extreme 39 = .ok (.iload_n 1, 1) := by decide +kernel
theorem dX5_extreme_40 : decode cX5_extreme 40 = .ok (.imul, 1) := by decide +kernel
theorem dX5_extreme_41 : decode cX5_extreme 41 = .ok (.ifCond .le 5, 3) := by decide +kernel
theorem dX5_extreme_44 : decode cX5_extreme 44 = .ok (.iload_n 3, 1) := by decide +kernel
theorem dX5_extreme_45 : decode cX5_extreme 45 = .ok (.istore_n 2, 1) := by decide +kernel
theorem dX5_extreme_46 : decode cX5_extreme 46 = .ok (.iinc 3 1, 3) := by decide +kernel
theorem dX5_extreme_49 : decode cX5_extreme 49 = .ok (.goto (-45), 3) := by decide +kernel
theorem dX5_extreme_52 : decode cX5_extreme 52 = .ok (.iload_n 2, 1) := by decide +kernel
theorem dX5_extreme_53 : decode cX5_extreme 53 = .ok (.ireturn, 1) := by decide +kernel
set_option maxRecDepth 20000 in
set_option maxHeartbeats 2000000 in
theorem V_X5_extreme_0 {X : Ctx} (C : C_X5_extreme X) {k n : Nat} {Q : Pq} {h : Hp} {v0 : Nat} {v1 : Int32}
    (hv : Wj X k n Q 4 [(0, .ref v0), (1, .int v1), (2, .int 0), (3, .int 1)] [] h) :
    Wj X k n Q 0 [(0, .ref v0), (1, .int v1)] [] h := by
  refine w_iconst (pc := 0) C (v := 0) dX5_extreme_0 (by decide) ?_
  refine w_istore_n (pc := 1) C dX5_extreme_1 (by decide) ?_
  refine w_iconst (pc := 2) C (v := 1) dX5_extreme_2 (by decide) ?_
  refine w_istore_n (pc := 3) C dX5_extreme_3 (by decide) ?_
  refine w_sub ?_ hv
  exact ⟨rfl, rfl, rfl, rfl, trivial⟩
set_option maxRecDepth 20000 in
set_option maxHeartbeats 2000000 in
theorem V_X5_extreme_4 {X : Ctx} (C : C_X5_extreme X) {k n : Nat} {Q : Pq} {h : Hp} {v0 : Nat} {v1 v2 v3 : Int32}
    (hv : St5 h v0 ∧ (((gi h v0 0) ≤ v3 → Q (some (.int v2)) h) ∧
    (¬ (gi h v0 0) ≤ v3 → (∀ z2 : Int32, z2 = (((sUp h v0 v3) * (sLo h v0 v2)) - ((sUp h v0 v2) * (sLo h v0 v3))) →
    (((z2 * v1) ≤ 0 → Wj X k n Q 4 [(0, .ref v0), (1, .int v1), (2, .int v2), (3, .int (v3 + Int32.ofInt 1))] [] h) ∧
    (¬ (z2 * v1) ≤ 0 → Wj X k n Q 4 [(0, .ref v0), (1, .int v1), (2, .int v3), (3, .int (v3 + Int32.ofInt 1))] [] h)))))) :
    Wj X k n Q 4 [(0, .ref v0), (1, .int v1), (2, .int v2), (3, .int v3)] [] h := by
  refine w_iload_n (pc := 4) C dX5_extreme_4 rfl ?_
  refine w_aload_n (pc := 5) C dX5_extreme_5 rfl ?_
  obtain ⟨f1, hv⟩ := hv
  refine w_getI (pc := 6) C fl_X5_9 rfl dX5_extreme_6 (St5_k f1) ?_
  refine w_icmp_ge (pc := 9) C (tgt := 52) dX5_extreme_9 (by decide) ?_
  obtain ⟨hv1, hv2⟩ := hv
  refine ⟨fun c4 => ?_, fun c4 => ?_⟩
  · have hv := hv1 c4
    refine w_iload_n (pc := 52) C dX5_extreme_52 rfl ?_
    exact w_iret (pc := 53) C dX5_extreme_53 hv
  · have hv := hv2 c4
    refine w_aload_n (pc := 12) C dX5_extreme_12 rfl ?_
    refine w_iload_n (pc := 13) C dX5_extreme_13 rfl ?_
    refine w_cV0_1 (pc := 14) C cl_X5_80 lv_X5_up (by decide) dX5_extreme_14 (Nat.le_of_ble_eq_true rfl) (c := 5) rfl (St5_k f1) ((sf_X5_up (h := h) f1).mono (fun v h9 hp => ?_))
    obtain ⟨e1, e2⟩ := hp
    rw [e1, e2]
    refine w_aload_n (pc := 17) C dX5_extreme_17 rfl ?_
    refine w_iload_n (pc := 18) C dX5_extreme_18 rfl ?_
    refine w_cV0_1 (pc := 19) C cl_X5_77 lv_X5_low (by decide) dX5_extreme_19 (Nat.le_of_ble_eq_true rfl) (c := 5) rfl (St5_k f1) ((sf_X5_low (h := h) f1).mono (fun v h9 hp => ?_))
    obtain ⟨e1, e2⟩ := hp
    rw [e1, e2]
    refine w_imul (pc := 22) C dX5_extreme_22 ?_
    refine w_aload_n (pc := 23) C dX5_extreme_23 rfl ?_
    refine w_iload_n (pc := 24) C dX5_extreme_24 rfl ?_
    refine w_cV0_1 (pc := 25) C cl_X5_80 lv_X5_up (by decide) dX5_extreme_25 (Nat.le_of_ble_eq_true rfl) (c := 5) rfl (St5_k f1) ((sf_X5_up (h := h) f1).mono (fun v h9 hp => ?_))
    obtain ⟨e1, e2⟩ := hp
    rw [e1, e2]
    refine w_aload_n (pc := 28) C dX5_extreme_28 rfl ?_
    refine w_iload_n (pc := 29) C dX5_extreme_29 rfl ?_
    refine w_cV0_1 (pc := 30) C cl_X5_77 lv_X5_low (by decide) dX5_extreme_30 (Nat.le_of_ble_eq_true rfl) (c := 5) rfl (St5_k f1) ((sf_X5_low (h := h) f1).mono (fun v h9 hp => ?_))
    obtain ⟨e1, e2⟩ := hp
    rw [e1, e2]
    refine w_imul (pc := 33) C dX5_extreme_33 ?_
    refine w_isub (pc := 34) C dX5_extreme_34 ?_
    obtain ⟨z2, ez2⟩ : ∃ z : Int32, z = (((sUp h v0 v3) * (sLo h v0 v2)) - ((sUp h v0 v2) * (sLo h v0 v3))) := ⟨_, rfl⟩
    have hv := hv z2 ez2
    rw [← ez2]
    refine w_istore (pc := 35) C dX5_extreme_35 (by decide) ?_
    refine w_iload (pc := 37) C dX5_extreme_37 rfl ?_
    refine w_iload_n (pc := 39) C dX5_extreme_39 rfl ?_
    refine w_imul (pc := 40) C dX5_extreme_40 ?_
    refine w_if_le (pc := 41) C (tgt := 46) dX5_extreme_41 (by decide) ?_
    obtain ⟨hv1, hv2⟩ := hv
    refine ⟨fun c3 => ?_, fun c3 => ?_⟩
    · have hv := hv1 c3
      refine w_iinc (pc := 46) C dX5_extreme_46 rfl (by decide) ?_
      refine w_goto (pc := 49) C (tgt := 4) dX5_extreme_49 (by decide) ?_
      refine w_sub ?_ hv
      exact ⟨rfl, rfl, rfl, rfl, trivial⟩
    · have hv := hv2 c3
      refine w_iload_n (pc := 44) C dX5_extreme_44 rfl ?_
      refine w_istore_n (pc := 45) C dX5_extreme_45 (by decide) ?_
      refine w_iinc (pc := 46) C dX5_extreme_46 rfl (by decide) ?_
      refine w_goto (pc := 49) C (tgt := 4) dX5_extreme_49 (by decide) ?_
      refine w_sub ?_ hv
      exact ⟨rfl, rfl, rfl, rfl, trivial⟩
theorem dX9_fittedShelf_0 : decode cX9_fittedShelf 0 = .ok (.aload_n 0, 1) := by decide +kernel
theorem dX9_fittedShelf_1 : decode cX9_fittedShelf 1 = .ok (.getfield 85, 3) := by decide +kernel
theorem dX9_fittedShelf_4 : decode cX9_fittedShelf 4 = .ok (.ifnonnull 14, 3) := by decide +kernel
theorem dX9_fittedShelf_7 : decode cX9_fittedShelf 7 = .ok (.aload_n 0, 1) := by decide +kernel
theorem dX9_fittedShelf_8 : decode cX9_fittedShelf 8 = .ok (.new 227, 3) := by decide +kernel
theorem dX9_fittedShelf_11 : decode cX9_fittedShelf 11 = .ok (.dup, 1) := by decide +kernel
theorem dX9_fittedShelf_12 : decode cX9_fittedShelf 12 = .ok (.invokespecial 243, 3) := by decide +kernel
theorem dX9_fittedShelf_15 : decode cX9_fittedShelf 15 = .ok (.putfield 85, 3) := by decide +kernel
theorem dX9_fittedShelf_18 : decode cX9_fittedShelf 18 = .ok (.aload_n 0, 1) := by decide +kernel
theorem dX9_fittedShelf_19 : decode cX9_fittedShelf 19 = .ok (.getfield 85, 3) := by decide +kernel
theorem dX9_fittedShelf_22 : decode cX9_fittedShelf 22 = .ok (.aload_n 0, 1) := by decide +kernel
theorem dX9_fittedShelf_23 : decode cX9_fittedShelf 23 = .ok (.getfield 78, 3) := by decide +kernel
theorem dX9_fittedShelf_26 : decode cX9_fittedShelf 26 = .ok (.invokevirtual 244, 3) := by decide +kernel
theorem dX9_fittedShelf_29 : decode cX9_fittedShelf 29 = .ok (.aload_n 0, 1) := by decide +kernel
theorem dX9_fittedShelf_30 : decode cX9_fittedShelf 30 = .ok (.getfield 85, 3) := by decide +kernel
theorem dX9_fittedShelf_33 : decode cX9_fittedShelf 33 = .ok (.areturn, 1) := by decide +kernel
set_option maxRecDepth 20000 in
set_option maxHeartbeats 2000000 in
theorem V_X9_fittedShelf_0 {X : Ctx} (C : C_X9_fittedShelf X) {k n : Nat} {Q : Pq} {h : Hp} {v0 : Nat}
    (hv : St9 h v0 ∧ ((gr h v0 14 = none → k + 1 ≤ mcX X ∧ n + 7 ≤ msX X ∧ (∃ k7 n8, k + 1 + k7 ≤ mcX X ∧ n + 7 + n8 ≤ msX X ∧ S_X5_init (lX X) (dtX X) k7 n8 [.ref (hn h)] (nw h 6 0) (QV fun h6 =>
    St9 h6 v0 ∧ Wj X (k + 1 + k7) (n + 7 + n8) Q 18 [(0, .ref v0)] [] (sr h6 v0 14 (some (hn h)))))) ∧
    (∀ b2, gr h v0 14 = some b2 → Wj X k n Q 18 [(0, .ref v0)] [] h))) :
    Wj X k n Q 0 [(0, .ref v0)] [] h := by
  refine w_aload_n (pc := 0) C dX9_fittedShelf_0 rfl ?_
  obtain ⟨f1, hv⟩ := hv
  refine w_getQ (pc := 1) C fl_X9_85 rfl dX9_fittedShelf_1 (St9_k f1) ?_
  obtain ⟨hv1, hv2⟩ := hv
  refine ⟨fun c3 => ?_, fun b2 c3 => ?_⟩
  · have hv := hv1 c3
    refine w_ifnonnullN (pc := 4) C dX9_fittedShelf_4 ?_
    refine w_aload_n (pc := 7) C dX9_fittedShelf_7 rfl ?_
    obtain ⟨f4, hv⟩ := hv
    obtain ⟨f5, hv⟩ := hv
    refine w_new (pc := 8) C nl_X9_227 (N := 7) rfl dX9_fittedShelf_8 f4 f5 ?_
    refine w_dup (pc := 11) C dX9_fittedShelf_11 rfl ?_
    obtain ⟨k7, n8, hm1, hm2, hv⟩ := hv
    refine w_cIN1_0 (pc := 12) C cl_X9_243 li_X5_init (by decide) dX9_fittedShelf_12 (Nat.le_of_ble_eq_true rfl) hm1 hm2 (hv.mono (fun v h6 hp => ?_))
    obtain ⟨rfl, hv⟩ := hp
    obtain ⟨f9, hv⟩ := hv
    refine w_putR (pc := 15) C fl_X9_85 rfl rfl dX9_fittedShelf_15 (St9_k f9) ?_
    refine w_sub ?_ hv
    exact ⟨rfl, trivial⟩
  · have hv := hv2 b2 c3
    refine w_ifnonnull (pc := 4) C (tgt := 18) dX9_fittedShelf_4 (by decide) ?_
    refine w_sub ?_ hv
    exact ⟨rfl, trivial⟩
set_option maxRecDepth 20000 in
set_option maxHeartbeats 2000000 in
theorem V_X9_fittedShelf_18 {X : Ctx} (C : C_X9_fittedShelf X) {k n : Nat} {Q : Pq} {h : Hp} {v0 : Nat}
    (hv : St9 h v0 ∧ nn h v0 14 ∧ nn h v0 12 ∧ St5 h (gp h v0 14) ∧ S_X5_fit (lX X) (dtX X) 0 0 [.ref (gp h v0 14), .ref (gp h v0 12)] h (QV fun h5 =>
    St9 h5 v0 ∧ nn h5 v0 14 ∧ Q (some (.ref (gp h5 v0 14))) h5)) :
    Wj X k n Q 18 [(0, .ref v0)] [] h := by
  refine w_aload_n (pc := 18) C dX9_fittedShelf_18 rfl ?_
  obtain ⟨f1, hv⟩ := hv
  obtain ⟨f2, hv⟩ := hv
  refine w_getR (pc := 19) C fl_X9_85 rfl dX9_fittedShelf_19 (St9_k f1) f2 ?_
  refine w_aload_n (pc := 22) C dX9_fittedShelf_22 rfl ?_
  obtain ⟨f3, hv⟩ := hv
  refine w_getR (pc := 23) C fl_X9_78 rfl dX9_fittedShelf_23 (St9_k f1) f3 ?_
  obtain ⟨f4, hv⟩ := hv
  refine w_cV0_1 (pc := 26) C cl_X9_244 lv_X5_fit (by decide) dX9_fittedShelf_26 (Nat.le_of_ble_eq_true rfl) (c := 5) rfl (St5_k f4) (hv.mono (fun v h5 hp => ?_))
  obtain ⟨rfl, hv⟩ := hp
  refine w_aload_n (pc := 29) C dX9_fittedShelf_29 rfl ?_
  obtain ⟨f6, hv⟩ := hv
  obtain ⟨f7, hv⟩ := hv
  refine w_getR (pc := 30) C fl_X9_85 rfl dX9_fittedShelf_30 (St9_k f6) f7 ?_
  exact w_aret (pc := 33) C dX9_fittedShelf_33 hv
theorem dX9_tellWheels_0 : decode cX9_tellWheels 0 = .ok (.aload_n 1, 1) := by decide +kernel
theorem dX9_tellWheels_1 : decode cX9_tellWheels 1 = .ok (.iload_n 2, 1) := by decide +kernel
theorem dX9_tellWheels_2 : decode cX9_tellWheels 2 = .ok (.invokevirtual 308, 3) := by decide +kernel
theorem dX9_tellWheels_5 : decode cX9_tellWheels 5 = .ok (.istore_n 3, 1) := by decide +kernel
theorem dX9_tellWheels_6 : decode cX9_tellWheels 6 = .ok (.iconst 0, 1) := by decide +kernel
theorem dX9_tellWheels_7 : decode cX9_tellWheels 7 = .ok (.istore 4, 2) := by decide +kernel
theorem dX9_tellWheels_9 : decode cX9_tellWheels 9 = .ok (.iload 4, 2) := by decide +kernel
theorem dX9_tellWheels_11 : decode cX9_tellWheels 11 = .ok (.iload_n 3, 1) := by decide +kernel
theorem dX9_tellWheels_12 : decode cX9_tellWheels 12 = .ok (.if_icmp .ge 24, 3) := by decide +kernel
theorem dX9_tellWheels_15 : decode cX9_tellWheels 15 = .ok (.aload_n 0, 1) := by decide +kernel
theorem dX9_tellWheels_16 : decode cX9_tellWheels 16 = .ok (.getfield 19, 3) := by decide +kernel
theorem dX9_tellWheels_19 : decode cX9_tellWheels 19 = .ok (.aload_n 1, 1) := by decide +kernel
theorem dX9_tellWheels_20 : decode cX9_tellWheels 20 = .ok (.iload_n 2, 1) := by decide +kernel
theorem dX9_tellWheels_21 : decode cX9_tellWheels 21 = .ok (.iload 4, 2) := by decide +kernel
theorem dX9_tellWheels_23 : decode cX9_tellWheels 23 = .ok (.invokevirtual 226, 3) := by decide +kernel
theorem dX9_tellWheels_26 : decode cX9_tellWheels 26 = .ok (.i2l, 1) := by decide +kernel
theorem dX9_tellWheels_27 : decode cX9_tellWheels 27 = .ok (.invokevirtual 164, 3) := by decide +kernel
theorem dX9_tellWheels_30 : decode cX9_tellWheels 30 = .ok (.iinc 4 1, 3) := by decide +kernel
theorem dX9_tellWheels_33 : decode cX9_tellWheels 33 = .ok (.goto (-24), 3) := by decide +kernel
theorem dX9_tellWheels_36 : decode cX9_tellWheels 36 = .ok (.iload_n 3, 1) := by decide +kernel
theorem dX9_tellWheels_37 : decode cX9_tellWheels 37 = .ok (.ireturn, 1) := by decide +kernel
set_option maxRecDepth 20000 in
set_option maxHeartbeats 2000000 in
theorem V_X9_tellWheels_0 {X : Ctx} (C : C_X9_tellWheels X) {k n : Nat} {Q : Pq} {h : Hp} {v0 v1 : Nat} {v2 : Int32}
    (hv : St5 h v1 ∧ Wj X k n Q 9 [(0, .ref v0), (1, .ref v1), (2, .int v2), (3, .int (sWt h v1 v2)), (4, .int 0)] [] h) :
    Wj X k n Q 0 [(0, .ref v0), (1, .ref v1), (2, .int v2)] [] h := by
  refine w_aload_n (pc := 0) C dX9_tellWheels_0 rfl ?_
  refine w_iload_n (pc := 1) C dX9_tellWheels_1 rfl ?_
  obtain ⟨f1, hv⟩ := hv
  refine w_cV0_1 (pc := 2) C cl_X9_308 lv_X5_wheelTotal (by decide) dX9_tellWheels_2 (Nat.le_of_ble_eq_true rfl) (c := 5) rfl (St5_k f1) ((sf_X5_wheelTotal (h := h) f1).mono (fun v h9 hp => ?_))
  obtain ⟨e1, e2⟩ := hp
  rw [e1, e2]
  refine w_istore_n (pc := 5) C dX9_tellWheels_5 (by decide) ?_
  refine w_iconst (pc := 6) C (v := 0) dX9_tellWheels_6 (by decide) ?_
  refine w_istore (pc := 7) C dX9_tellWheels_7 (by decide) ?_
  refine w_sub ?_ hv
  exact ⟨rfl, rfl, rfl, rfl, rfl, trivial⟩
set_option maxRecDepth 20000 in
set_option maxHeartbeats 2000000 in
theorem V_X9_tellWheels_9 {X : Ctx} (C : C_X9_tellWheels X) {k n : Nat} {Q : Pq} {h : Hp} {v0 v1 : Nat} {v2 v3 v4 : Int32}
    (hv : ((v3 ≤ v4 → Q (some (.int v3)) h) ∧
    (¬ v3 ≤ v4 → St9 h v0 ∧ St5 h v1 ∧ S_X8_add (lX X) (dtX X) 0 0 [.ref (v0 + 3), .long (Int32.toInt64 (sWh h v1 v2 v4))] h (QV fun h3 =>
    Wj X k n Q 9 [(0, .ref v0), (1, .ref v1), (2, .int v2), (3, .int v3), (4, .int (v4 + Int32.ofInt 1))] [] h3)))) :
    Wj X k n Q 9 [(0, .ref v0), (1, .ref v1), (2, .int v2), (3, .int v3), (4, .int v4)] [] h := by
  refine w_iload (pc := 9) C dX9_tellWheels_9 rfl ?_
  refine w_iload_n (pc := 11) C dX9_tellWheels_11 rfl ?_
  refine w_icmp_ge (pc := 12) C (tgt := 36) dX9_tellWheels_12 (by decide) ?_
  obtain ⟨hv1, hv2⟩ := hv
  refine ⟨fun c4 => ?_, fun c4 => ?_⟩
  · have hv := hv1 c4
    refine w_iload_n (pc := 36) C dX9_tellWheels_36 rfl ?_
    exact w_iret (pc := 37) C dX9_tellWheels_37 hv
  · have hv := hv2 c4
    refine w_aload_n (pc := 15) C dX9_tellWheels_15 rfl ?_
    obtain ⟨f1, hv⟩ := hv
    refine w_getR (pc := 16) C fl_X9_19 rfl dX9_tellWheels_16 (St9_k f1) (St9_r1 f1) ?_
    refine w_aload_n (pc := 19) C dX9_tellWheels_19 rfl ?_
    refine w_iload_n (pc := 20) C dX9_tellWheels_20 rfl ?_
    refine w_iload (pc := 21) C dX9_tellWheels_21 rfl ?_
    obtain ⟨f2, hv⟩ := hv
    refine w_cV0_2 (pc := 23) C cl_X9_226 lv_X5_wheel (by decide) dX9_tellWheels_23 (Nat.le_of_ble_eq_true rfl) (c := 5) rfl (St5_k f2) ((sf_X5_wheel (h := h) f2).mono (fun v h9 hp => ?_))
    obtain ⟨e1, e2⟩ := hp
    rw [e1, e2]
    refine w_i2l (pc := 26) C dX9_tellWheels_26 ?_
    refine w_cV0_1 (pc := 27) C cl_X9_164 lv_X8_add (by decide) dX9_tellWheels_27 (Nat.le_of_ble_eq_true rfl) (c := 8) rfl (St8_k (St9_s1 f1)) (hv.mono (fun v h3 hp => ?_))
    obtain ⟨rfl, hv⟩ := hp
    refine w_iinc (pc := 30) C dX9_tellWheels_30 rfl (by decide) ?_
    refine w_goto (pc := 33) C (tgt := 9) dX9_tellWheels_33 (by decide) ?_
    refine w_sub ?_ hv
    exact ⟨rfl, rfl, rfl, rfl, rfl, trivial⟩
theorem dX9_train_0 : decode cX9_train 0 = .ok (.iload_n 1, 1) := by decide +kernel
theorem dX9_train_1 : decode cX9_train 1 = .ok (.iconst 1, 1) := by decide +kernel
theorem dX9_train_2 : decode cX9_train 2 = .ok (.sipush 400, 3) := by decide +kernel
theorem dX9_train_5 : decode cX9_train 5 = .ok (.invokestatic 247, 3) := by decide +kernel
theorem dX9_train_8 : decode cX9_train 8 = .ok (.ifCond .eq 14, 3) := by decide +kernel
theorem dX9_train_11 : decode cX9_train 11 = .ok (.iload_n 2, 1) := by decide +kernel
theorem dX9_train_12 : decode cX9_train 12 = .ok (.iconst 1, 1) := by decide +kernel
theorem dX9_train_13 : decode cX9_train 13 = .ok (.sipush 400, 3) := by decide +kernel
theorem dX9_train_16 : decode cX9_train 16 = .ok (.invokestatic 247, 3) := by decide +kernel
theorem dX9_train_19 : decode cX9_train 19 = .ok (.ifCond .ne 5, 3) := by decide +kernel
theorem dX9_train_22 : decode cX9_train 22 = .ok (.iconst (-1), 1) := by decide +kernel
theorem dX9_train_23 : decode cX9_train 23 = .ok (.ireturn, 1) := by decide +kernel
theorem dX9_train_24 : decode cX9_train 24 = .ok (.aload_n 0, 1) := by decide +kernel
theorem dX9_train_25 : decode cX9_train 25 = .ok (.invokevirtual 211, 3) := by decide +kernel
theorem dX9_train_28 : decode cX9_train 28 = .ok (.astore_n 3, 1) := by decide +kernel
theorem dX9_train_29 : decode cX9_train 29 = .ok (.aload_n 3, 1) := by decide +kernel
theorem dX9_train_30 : decode cX9_train 30 = .ok (.iload_n 1, 1) := by decide +kernel
theorem dX9_train_31 : decode cX9_train 31 = .ok (.i2l, 1) := by decide +kernel
theorem dX9_train_32 : decode cX9_train 32 = .ok (.iload_n 2, 1) := by decide +kernel
theorem dX9_train_33 : decode cX9_train 33 = .ok (.i2l, 1) := by decide +kernel
theorem dX9_train_34 : decode cX9_train 34 = .ok (.invokevirtual 251, 3) := by decide +kernel
theorem dX9_train_37 : decode cX9_train 37 = .ok (.istore 4, 2) := by decide +kernel
theorem dX9_train_39 : decode cX9_train 39 = .ok (.iload 4, 2) := by decide +kernel
theorem dX9_train_41 : decode cX9_train 41 = .ok (.ifCond .ge 6, 3) := by decide +kernel
theorem dX9_train_44 : decode cX9_train 44 = .ok (.bipush (-2), 2) := by decide +kernel
theorem dX9_train_46 : decode cX9_train 46 = .ok (.ireturn, 1) := by decide +kernel
theorem dX9_train_47 : decode cX9_train 47 = .ok (.aload_n 0, 1) := by decide +kernel
theorem dX9_train_48 : decode cX9_train 48 = .ok (.getfield 19, 3) := by decide +kernel
theorem dX9_train_51 : decode cX9_train 51 = .ok (.invokevirtual 158, 3) := by decide +kernel
theorem dX9_train_54 : decode cX9_train 54 = .ok (.aload_n 0, 1) := by decide +kernel
theorem dX9_train_55 : decode cX9_train 55 = .ok (.aload_n 3, 1) := by decide +kernel
theorem dX9_train_56 : decode cX9_train 56 = .ok (.iload 4, 2) := by decide +kernel
theorem dX9_train_58 : decode cX9_train 58 = .ok (.invokevirtual 255, 3) := by decide +kernel
theorem dX9_train_61 : decode cX9_train 61 = .ok (.ireturn, 1) := by decide +kernel
set_option maxRecDepth 20000 in
set_option maxHeartbeats 2000000 in
theorem V_X9_train_0 {X : Ctx} (C : C_X9_train X) {k n : Nat} {Q : Pq} {h : Hp} {v0 : Nat} {v1 v2 : Int32}
    (hv : (((bt v1 1 400) = 0 → Q (some (.int (-1))) h) ∧
    (¬ (bt v1 1 400) = 0 → ((¬ (bt v2 1 400) = 0 → St9 h v0 ∧ (∃ k3 n4, k + k3 ≤ mcX X ∧ n + n4 ≤ msX X ∧ S_X9_fittedShelf (lX X) (dtX X) k3 n4 [.ref v0] h (QR fun x5 h2 =>
    St5 h2 x5 ∧ S_X5_find (lX X) (dtX X) 0 0 [.ref x5, .long (Int32.toInt64 v1), .long (Int32.toInt64 v2)] h2 (QI fun x8 h7 =>
    ((0 ≤ x8 → St9 h7 v0 ∧ S_X9_tellWheels (lX X) (dtX X) 0 0 [.ref v0, .ref x5, .int x8] (tcl h7 (v0 + 3)) (QI fun x11 h10 =>
    Q (some (.int x11)) h10)) ∧
    (¬ 0 ≤ x8 → Q (some (.int (-2))) h7)))))) ∧
    ((bt v2 1 400) = 0 → Q (some (.int (-1))) h))))) :
    Wj X k n Q 0 [(0, .ref v0), (1, .int v1), (2, .int v2)] [] h := by
  refine w_iload_n (pc := 0) C dX9_train_0 rfl ?_
  refine w_iconst (pc := 1) C (v := 1) dX9_train_1 (by decide) ?_
  refine w_sipush (pc := 2) C (v := 400) dX9_train_2 (by decide) ?_
  refine w_cS0_3 (pc := 5) C cl_X9_247 ls_X9_isBetween (by decide) dX9_train_5 (Nat.le_of_ble_eq_true rfl) ((sf_X9_isBetween (h := h) ).mono (fun v h9 hp => ?_))
  obtain ⟨e1, e2⟩ := hp
  rw [e1, e2]
  refine w_if_eq (pc := 8) C (tgt := 22) dX9_train_8 (by decide) ?_
  obtain ⟨hv1, hv2⟩ := hv
  refine ⟨fun c14 => ?_, fun c14 => ?_⟩
  · have hv := hv1 c14
    refine w_iconst (pc := 22) C (v := (-1)) dX9_train_22 (by decide) ?_
    exact w_iret (pc := 23) C dX9_train_23 hv
  · have hv := hv2 c14
    refine w_iload_n (pc := 11) C dX9_train_11 rfl ?_
    refine w_iconst (pc := 12) C (v := 1) dX9_train_12 (by decide) ?_
    refine w_sipush (pc := 13) C (v := 400) dX9_train_13 (by decide) ?_
    refine w_cS0_3 (pc := 16) C cl_X9_247 ls_X9_isBetween (by decide) dX9_train_16 (Nat.le_of_ble_eq_true rfl) ((sf_X9_isBetween (h := h) ).mono (fun v h9 hp => ?_))
    obtain ⟨e1, e2⟩ := hp
    rw [e1, e2]
    refine w_if_ne (pc := 19) C (tgt := 24) dX9_train_19 (by decide) ?_
    obtain ⟨hv1, hv2⟩ := hv
    refine ⟨fun c13 => ?_, fun c13 => ?_⟩
    · have hv := hv1 c13
      refine w_aload_n (pc := 24) C dX9_train_24 rfl ?_
      obtain ⟨f1, hv⟩ := hv
      obtain ⟨k3, n4, hm1, hm2, hv⟩ := hv
      refine w_cV1_0 (pc := 25) C cl_X9_211 lv_X9_fittedShelf (by decide) dX9_train_25 (Nat.le_of_ble_eq_true rfl) (c := 9) rfl hm1 hm2 (St9_k f1) (hv.mono (fun v h2 hp => ?_))
      obtain ⟨x5, rfl, hv⟩ := hp
      refine w_astore_n (pc := 28) C dX9_train_28 (by decide) ?_
      refine w_aload_n (pc := 29) C dX9_train_29 rfl ?_
      refine w_iload_n (pc := 30) C dX9_train_30 rfl ?_
      refine w_i2l (pc := 31) C dX9_train_31 ?_
      refine w_iload_n (pc := 32) C dX9_train_32 rfl ?_
      refine w_i2l (pc := 33) C dX9_train_33 ?_
      obtain ⟨f6, hv⟩ := hv
      refine w_cV0_2 (pc := 34) C cl_X9_251 lv_X5_find (by decide) dX9_train_34 (Nat.le_of_ble_eq_true rfl) (c := 5) rfl (St5_k f6) (hv.mono (fun v h7 hp => ?_))
      obtain ⟨x8, rfl, hv⟩ := hp
      refine w_istore (pc := 37) C dX9_train_37 (by decide) ?_
      refine w_iload (pc := 39) C dX9_train_39 rfl ?_
      refine w_if_ge (pc := 41) C (tgt := 47) dX9_train_41 (by decide) ?_
      obtain ⟨hv1, hv2⟩ := hv
      refine ⟨fun c12 => ?_, fun c12 => ?_⟩
      · have hv := hv1 c12
        refine w_aload_n (pc := 47) C dX9_train_47 rfl ?_
        obtain ⟨f9, hv⟩ := hv
        refine w_getR (pc := 48) C fl_X9_19 rfl dX9_train_48 (St9_k f9) (St9_r1 f9) ?_
        refine w_cV0_0 (pc := 51) C cl_X9_158 lv_X8_clear (by decide) dX9_train_51 (Nat.le_of_ble_eq_true rfl) (c := 8) rfl (St8_k (St9_s1 f9)) ((sf_X8_clear (h := h7) (St9_s1 f9)).mono (fun v h9 hp => ?_))
        obtain ⟨e1, e2⟩ := hp
        rw [e1, e2]
        refine w_aload_n (pc := 54) C dX9_train_54 rfl ?_
        refine w_aload_n (pc := 55) C dX9_train_55 rfl ?_
        refine w_iload (pc := 56) C dX9_train_56 rfl ?_
        refine w_cV0_2 (pc := 58) C cl_X9_255 lv_X9_tellWheels (by decide) dX9_train_58 (Nat.le_of_ble_eq_true rfl) (c := 9) rfl (St9_k f9) (hv.mono (fun v h10 hp => ?_))
        obtain ⟨x11, rfl, hv⟩ := hp
        exact w_iret (pc := 61) C dX9_train_61 hv
      · have hv := hv2 c12
        refine w_bipush (pc := 44) C (v := (-2)) dX9_train_44 (by decide) ?_
        exact w_iret (pc := 46) C dX9_train_46 hv
    · have hv := hv2 c13
      refine w_iconst (pc := 22) C (v := (-1)) dX9_train_22 (by decide) ?_
      exact w_iret (pc := 23) C dX9_train_23 hv
theorem dX9_tellClosest_0 : decode cX9_tellClosest 0 = .ok (.aload_n 0, 1) := by decide +kernel
theorem dX9_tellClosest_1 : decode cX9_tellClosest 1 = .ok (.invokevirtual 211, 3) := by decide +kernel
theorem dX9_tellClosest_4 : decode cX9_tellClosest 4 = .ok (.astore 7, 2) := by decide +kernel
theorem dX9_tellClosest_6 : decode cX9_tellClosest 6 = .ok (.aload 7, 2) := by decide +kernel
theorem dX9_tellClosest_8 : decode cX9_tellClosest 8 = .ok (.getfield 263, 3) := by decide +kernel
theorem dX9_tellClosest_11 : decode cX9_tellClosest 11 = .ok (.ifCond .ne 6, 3) := by decide +kernel
theorem dX9_tellClosest_14 : decode cX9_tellClosest 14 = .ok (.bipush (-2), 2) := by decide +kernel
theorem dX9_tellClosest_16 : decode cX9_tellClosest 16 = .ok (.ireturn, 1) := by decide +kernel
theorem dX9_tellClosest_17 : decode cX9_tellClosest 17 = .ok (.aload 7, 2) := by decide +kernel
theorem dX9_tellClosest_19 : decode cX9_tellClosest 19 = .ok (.lload_n 1, 1) := by decide +kernel
theorem dX9_tellClosest_20 : decode cX9_tellClosest 20 = .ok (.lload_n 3, 1) := by decide +kernel
theorem dX9_tellClosest_21 : decode cX9_tellClosest 21 = .ok (.lload 5, 2) := by decide +kernel
theorem dX9_tellClosest_23 : decode cX9_tellClosest 23 = .ok (.invokevirtual 279, 3) := by decide +kernel
theorem dX9_tellClosest_26 : decode cX9_tellClosest 26 = .ok (.istore 8, 2) := by decide +kernel
theorem dX9_tellClosest_28 : decode cX9_tellClosest 28 = .ok (.aload_n 0, 1) := by decide +kernel
theorem dX9_tellClosest_29 : decode cX9_tellClosest 29 = .ok (.getfield 19, 3) := by decide +kernel
theorem dX9_tellClosest_32 : decode cX9_tellClosest 32 = .ok (.invokevirtual 158, 3) := by decide +kernel
theorem dX9_tellClosest_35 : decode cX9_tellClosest 35 = .ok (.aload_n 0, 1) := by decide +kernel
theorem dX9_tellClosest_36 : decode cX9_tellClosest 36 = .ok (.aload 7, 2) := by decide +kernel
theorem dX9_tellClosest_38 : decode cX9_tellClosest 38 = .ok (.iload 8, 2) := by decide +kernel
theorem dX9_tellClosest_40 : decode cX9_tellClosest 40 = .ok (.invokevirtual 255, 3) := by decide +kernel
theorem dX9_tellClosest_43 : decode cX9_tellClosest 43 = .ok (.istore 9, 2) := by decide +kernel
theorem dX9_tellClosest_45 : decode cX9_tellClosest 45 = .ok (.aload_n 0, 1) := by decide +kernel
theorem dX9_tellClosest_46 : decode cX9_tellClosest 46 = .ok (.getfield 54, 3) := by decide +kernel
theorem dX9_tellClosest_49 : decode cX9_tellClosest 49 = .ok (.aload 7, 2) := by decide +kernel
theorem dX9_tellClosest_51 : decode cX9_tellClosest 51 = .ok (.lload_n 1, 1) := by decide +kernel
theorem dX9_tellClosest_52 : decode cX9_tellClosest 52 = .ok (.iload 8, 2) := by decide +kernel
theorem dX9_tellClosest_54 : decode cX9_tellClosest 54 = .ok (.invokevirtual 282, 3) := by decide +kernel
theorem dX9_tellClosest_57 : decode cX9_tellClosest 57 = .ok (.aload 7, 2) := by decide +kernel
theorem dX9_tellClosest_59 : decode cX9_tellClosest 59 = .ok (.lload_n 1, 1) := by decide +kernel
theorem dX9_tellClosest_60 : decode cX9_tellClosest 60 = .ok (.iload 8, 2) := by decide +kernel
theorem dX9_tellClosest_62 : decode cX9_tellClosest 62 = .ok (.invokevirtual 286, 3) := by decide +kernel
theorem dX9_tellClosest_65 : decode cX9_tellClosest 65 = .ok (.invokevirtual 289, 3) := by decide +kernel
theorem dX9_tellClosest_68 : decode cX9_tellClosest 68 = .ok (.aload_n 0, 1) := by decide +kernel
theorem dX9_tellClosest_69 : decode cX9_tellClosest 69 = .ok (.getfield 19, 3) := by decide +kernel
theorem dX9_tellClosest_72 : decode cX9_tellClosest 72 = .ok (.aload_n 0, 1) := by decide +kernel
theorem dX9_tellClosest_73 : decode cX9_tellClosest 73 = .ok (.getfield 54, 3) := by decide +kernel
theorem dX9_tellClosest_76 : decode cX9_tellClosest 76 = .ok (.invokevirtual 293, 3) := by decide +kernel
theorem dX9_tellClosest_79 : decode cX9_tellClosest 79 = .ok (.aload_n 0, 1) := by decide +kernel
theorem dX9_tellClosest_80 : decode cX9_tellClosest 80 = .ok (.getfield 58, 3) := by decide +kernel
theorem dX9_tellClosest_83 : decode cX9_tellClosest 83 = .ok (.aload_n 0, 1) := by decide +kernel
theorem dX9_tellClosest_84 : decode cX9_tellClosest 84 = .ok (.getfield 54, 3) := by decide +kernel
theorem dX9_tellClosest_87 : decode cX9_tellClosest 87 = .ok (.getfield 297, 3) := by decide +kernel
theorem dX9_tellClosest_90 : decode cX9_tellClosest 90 = .ok (.lload 5, 2) := by decide +kernel
theorem dX9_tellClosest_92 : decode cX9_tellClosest 92 = .ok (.lmul, 1) := by decide +kernel
theorem dX9_tellClosest_93 : decode cX9_tellClosest 93 = .ok (.lload_n 3, 1) := by decide +kernel
theorem dX9_tellClosest_94 : decode cX9_tellClosest 94 = .ok (.aload_n 0, 1) := by decide +kernel
theorem dX9_tellClosest_95 : decode cX9_tellClosest 95 = .ok (.getfield 54, 3) := by decide +kernel
theorem dX9_tellClosest_98 : decode cX9_tellClosest 98 = .ok (.getfield 300, 3) := by decide +kernel
theorem dX9_tellClosest_101 : decode cX9_tellClosest 101 = .ok (.lmul, 1) := by decide +kernel
theorem dX9_tellClosest_102 : decode cX9_tellClosest 102 = .ok (.lsub, 1) := by decide +kernel
theorem dX9_tellClosest_103 : decode cX9_tellClosest 103 = .ok (.invokestatic 302, 3) := by decide +kernel
theorem dX9_tellClosest_106 : decode cX9_tellClosest 106 = .ok (.aload_n 0, 1) := by decide +kernel
theorem dX9_tellClosest_107 : decode cX9_tellClosest 107 = .ok (.getfield 54, 3) := by decide +kernel
theorem dX9_tellClosest_110 : decode cX9_tellClosest 110 = .ok (.getfield 300, 3) := by decide +kernel
theorem dX9_tellClosest_113 : decode cX9_tellClosest 113 = .ok (.lload 5, 2) := by decide +kernel
theorem dX9_tellClosest_115 : decode cX9_tellClosest 115 = .ok (.lmul, 1) := by decide +kernel
theorem dX9_tellClosest_116 : decode cX9_tellClosest 116 = .ok (.invokevirtual 289, 3) := by decide +kernel
theorem dX9_tellClosest_119 : decode cX9_tellClosest 119 = .ok (.aload_n 0, 1) := by decide +kernel
theorem dX9_tellClosest_120 : decode cX9_tellClosest 120 = .ok (.getfield 19, 3) := by decide +kernel
theorem dX9_tellClosest_123 : decode cX9_tellClosest 123 = .ok (.aload_n 0, 1) := by decide +kernel
theorem dX9_tellClosest_124 : decode cX9_tellClosest 124 = .ok (.getfield 58, 3) := by decide +kernel
theorem dX9_tellClosest_127 : decode cX9_tellClosest 127 = .ok (.invokevirtual 293, 3) := by decide +kernel
theorem dX9_tellClosest_130 : decode cX9_tellClosest 130 = .ok (.iload 9, 2) := by decide +kernel
theorem dX9_tellClosest_132 : decode cX9_tellClosest 132 = .ok (.ireturn, 1) := by decide +kernel
set_option maxRecDepth 20000 in
set_option maxHeartbeats 2000000 in
theorem V_X9_tellClosest_0 {X : Ctx} (C : C_X9_tellClosest X) {k n : Nat} {Q : Pq} {h : Hp} {v0 : Nat} {v1 v3 v5 : Int64}
    (hv : St9 h v0 ∧ (∃ k3 n4, k + k3 ≤ mcX X ∧ n + n4 ≤ msX X ∧ S_X9_fittedShelf (lX X) (dtX X) k3 n4 [.ref v0] h (QR fun x5 h2 =>
    St5 h2 x5 ∧ ((¬ (gi h2 x5 0) = 0 → S_X5_closest (lX X) (dtX X) 0 0 [.ref x5, .long v1, .long v3, .long v5] h2 (QI fun x8 h7 =>
    St9 h7 v0 ∧ S_X9_tellWheels (lX X) (dtX X) 0 0 [.ref v0, .ref x5, .int x8] (tcl h7 (v0 + 3)) (QI fun x11 h10 =>
    St9 h10 v0 ∧ St5 h10 x5 ∧ S_X5_upper (lX X) (dtX X) 0 0 [.ref x5, .long v1, .int x8] h10 (QL fun x15 h14 =>
    St5 h14 x5 ∧ S_X5_lower (lX X) (dtX X) 0 0 [.ref x5, .long v1, .int x8] h14 (QL fun x18 h17 =>
    kd h17 (v0 + 13) = 3 ∧ -9223372036854775807 ≤ (Int64.toInt x15) ∧ 0 < (Int64.toInt x18) ∧ St9 h17 v0 ∧ S_X8_addFraction (lX X) (dtX X) 0 0 [.ref (v0 + 3), .ref (v0 + 13)] (fpt h17 (v0 + 13) x15 x18) (QV fun h23 =>
    St9 h23 v0 ∧ -9223372036854775807 ≤ (Int64.toInt (abL (((gl h23 (v0 + 13) 0) * v5) - (v3 * (gl h23 (v0 + 13) 1))))) ∧ 0 < (Int64.toInt ((gl h23 (v0 + 13) 1) * v5)) ∧ S_X8_addFraction (lX X) (dtX X) 0 0 [.ref (v0 + 3), .ref (v0 + 14)] (fpt h23 (v0 + 14) (abL (((gl h23 (v0 + 13) 0) * v5) - (v3 * (gl h23 (v0 + 13) 1)))) ((gl h23 (v0 + 13) 1) * v5)) (QV fun h27 =>
    Q (some (.int x11)) h27))))))) ∧
    ((gi h2 x5 0) = 0 → Q (some (.int (-2))) h2))))) :
    Wj X k n Q 0 [(0, .ref v0), (1, .long v1), (3, .long v3), (5, .long v5)] [] h := by
  refine w_aload_n (pc := 0) C dX9_tellClosest_0 rfl ?_
  obtain ⟨f1, hv⟩ := hv
  obtain ⟨k3, n4, hm1, hm2, hv⟩ := hv
  refine w_cV1_0 (pc := 1) C cl_X9_211 lv_X9_fittedShelf (by decide) dX9_tellClosest_1 (Nat.le_of_ble_eq_true rfl) (c := 9) rfl hm1 hm2 (St9_k f1) (hv.mono (fun v h2 hp => ?_))
  obtain ⟨x5, rfl, hv⟩ := hp
  refine w_astore (pc := 4) C dX9_tellClosest_4 (by decide) ?_
  refine w_aload (pc := 6) C dX9_tellClosest_6 rfl ?_
  obtain ⟨f6, hv⟩ := hv
  refine w_getI (pc := 8) C fl_X9_263 rfl dX9_tellClosest_8 (St5_k f6) ?_
  refine w_if_ne (pc := 11) C (tgt := 17) dX9_tellClosest_11 (by decide) ?_
  obtain ⟨hv1, hv2⟩ := hv
  refine ⟨fun c28 => ?_, fun c28 => ?_⟩
  · have hv := hv1 c28
    refine w_aload (pc := 17) C dX9_tellClosest_17 rfl ?_
    refine w_lload_n (pc := 19) C dX9_tellClosest_19 rfl ?_
    refine w_lload_n (pc := 20) C dX9_tellClosest_20 rfl ?_
    refine w_lload (pc := 21) C dX9_tellClosest_21 rfl ?_
    refine w_cV0_3 (pc := 23) C cl_X9_279 lv_X5_closest (by decide) dX9_tellClosest_23 (Nat.le_of_ble_eq_true rfl) (c := 5) rfl (St5_k f6) (hv.mono (fun v h7 hp => ?_))
    obtain ⟨x8, rfl, hv⟩ := hp
    refine w_istore (pc := 26) C dX9_tellClosest_26 (by decide) ?_
    refine w_aload_n (pc := 28) C dX9_tellClosest_28 rfl ?_
    obtain ⟨f9, hv⟩ := hv
    refine w_getR (pc := 29) C fl_X9_19 rfl dX9_tellClosest_29 (St9_k f9) (St9_r1 f9) ?_
    refine w_cV0_0 (pc := 32) C cl_X9_158 lv_X8_clear (by decide) dX9_tellClosest_32 (Nat.le_of_ble_eq_true rfl) (c := 8) rfl (St8_k (St9_s1 f9)) ((sf_X8_clear (h := h7) (St9_s1 f9)).mono (fun v h9 hp => ?_))
    obtain ⟨e1, e2⟩ := hp
    rw [e1, e2]
    refine w_aload_n (pc := 35) C dX9_tellClosest_35 rfl ?_
    refine w_aload (pc := 36) C dX9_tellClosest_36 rfl ?_
    refine w_iload (pc := 38) C dX9_tellClosest_38 rfl ?_
    refine w_cV0_2 (pc := 40) C cl_X9_255 lv_X9_tellWheels (by decide) dX9_tellClosest_40 (Nat.le_of_ble_eq_true rfl) (c := 9) rfl (St9_k f9) (hv.mono (fun v h10 hp => ?_))
    obtain ⟨x11, rfl, hv⟩ := hp
    refine w_istore (pc := 43) C dX9_tellClosest_43 (by decide) ?_
    refine w_aload_n (pc := 45) C dX9_tellClosest_45 rfl ?_
    obtain ⟨f12, hv⟩ := hv
    refine w_getR (pc := 46) C fl_X9_54 rfl dX9_tellClosest_46 (St9_k f12) (St9_r6 f12) ?_
    refine w_aload (pc := 49) C dX9_tellClosest_49 rfl ?_
    refine w_lload_n (pc := 51) C dX9_tellClosest_51 rfl ?_
    refine w_iload (pc := 52) C dX9_tellClosest_52 rfl ?_
    obtain ⟨f13, hv⟩ := hv
    refine w_cV0_2 (pc := 54) C cl_X9_282 lv_X5_upper (by decide) dX9_tellClosest_54 (Nat.le_of_ble_eq_true rfl) (c := 5) rfl (St5_k f13) (hv.mono (fun v h14 hp => ?_))
    obtain ⟨x15, rfl, hv⟩ := hp
    refine w_aload (pc := 57) C dX9_tellClosest_57 rfl ?_
    refine w_lload_n (pc := 59) C dX9_tellClosest_59 rfl ?_
    refine w_iload (pc := 60) C dX9_tellClosest_60 rfl ?_
    obtain ⟨f16, hv⟩ := hv
    refine w_cV0_2 (pc := 62) C cl_X9_286 lv_X5_lower (by decide) dX9_tellClosest_62 (Nat.le_of_ble_eq_true rfl) (c := 5) rfl (St5_k f16) (hv.mono (fun v h17 hp => ?_))
    obtain ⟨x18, rfl, hv⟩ := hp
    obtain ⟨f19, hv⟩ := hv
    obtain ⟨f20, hv⟩ := hv
    obtain ⟨f21, hv⟩ := hv
    refine w_cV0_2 (pc := 65) C cl_X9_289 lv_X2_put (by decide) dX9_tellClosest_65 (Nat.le_of_ble_eq_true rfl) (c := 2) rfl f19 ((sf_X2_put (h := h17) f19 f20 f21).mono (fun v h9 hp => ?_))
    obtain ⟨e1, e2⟩ := hp
    rw [e1, e2]
    refine w_aload_n (pc := 68) C dX9_tellClosest_68 rfl ?_
    obtain ⟨f22, hv⟩ := hv
    refine w_getR (pc := 69) C fl_X9_19 rfl dX9_tellClosest_69 (St9_k f22) (St9_r1 f22) ?_
    refine w_aload_n (pc := 72) C dX9_tellClosest_72 rfl ?_
    refine w_getR (pc := 73) C fl_X9_54 rfl dX9_tellClosest_73 (St9_k f22) (St9_r6 f22) ?_
    refine w_cV0_1 (pc := 76) C cl_X9_293 lv_X8_addFraction (by decide) dX9_tellClosest_76 (Nat.le_of_ble_eq_true rfl) (c := 8) rfl (St8_k (St9_s1 f22)) (hv.mono (fun v h23 hp => ?_))
    obtain ⟨rfl, hv⟩ := hp
    refine w_aload_n (pc := 79) C dX9_tellClosest_79 rfl ?_
    obtain ⟨f24, hv⟩ := hv
    refine w_getR (pc := 80) C fl_X9_58 rfl dX9_tellClosest_80 (St9_k f24) (St9_r7 f24) ?_
    refine w_aload_n (pc := 83) C dX9_tellClosest_83 rfl ?_
    refine w_getR (pc := 84) C fl_X9_54 rfl dX9_tellClosest_84 (St9_k f24) (St9_r6 f24) ?_
    refine w_getL (pc := 87) C fl_X9_297 rfl dX9_tellClosest_87 (St9_k6 f24) ?_
    refine w_lload (pc := 90) C dX9_tellClosest_90 rfl ?_
    refine w_lmul (pc := 92) C dX9_tellClosest_92 ?_
    refine w_lload_n (pc := 93) C dX9_tellClosest_93 rfl ?_
    refine w_aload_n (pc := 94) C dX9_tellClosest_94 rfl ?_
    refine w_getR (pc := 95) C fl_X9_54 rfl dX9_tellClosest_95 (St9_k f24) (St9_r6 f24) ?_
    refine w_getL (pc := 98) C fl_X9_300 rfl dX9_tellClosest_98 (St9_k6 f24) ?_
    refine w_lmul (pc := 101) C dX9_tellClosest_101 ?_
    refine w_lsub (pc := 102) C dX9_tellClosest_102 ?_
    refine w_cS0_1 (pc := 103) C cl_X9_302 ls_J9_abs_067f4 (by decide) dX9_tellClosest_103 (Nat.le_of_ble_eq_true rfl) ((sf_J9_abs_067f4 (h := h23) ).mono (fun v h9 hp => ?_))
    obtain ⟨e1, e2⟩ := hp
    rw [e1, e2]
    refine w_aload_n (pc := 106) C dX9_tellClosest_106 rfl ?_
    refine w_getR (pc := 107) C fl_X9_54 rfl dX9_tellClosest_107 (St9_k f24) (St9_r6 f24) ?_
    refine w_getL (pc := 110) C fl_X9_300 rfl dX9_tellClosest_110 (St9_k6 f24) ?_
    refine w_lload (pc := 113) C dX9_tellClosest_113 rfl ?_
    refine w_lmul (pc := 115) C dX9_tellClosest_115 ?_
    obtain ⟨f25, hv⟩ := hv
    obtain ⟨f26, hv⟩ := hv
    refine w_cV0_2 (pc := 116) C cl_X9_289 lv_X2_put (by decide) dX9_tellClosest_116 (Nat.le_of_ble_eq_true rfl) (c := 2) rfl (St9_k7 f24) ((sf_X2_put (h := h23) (St9_k7 f24) f25 f26).mono (fun v h9 hp => ?_))
    obtain ⟨e1, e2⟩ := hp
    rw [e1, e2]
    refine w_aload_n (pc := 119) C dX9_tellClosest_119 rfl ?_
    refine w_getR (pc := 120) C fl_X9_19 rfl dX9_tellClosest_120 (St9_k f24) (St9_r1 f24) ?_
    refine w_aload_n (pc := 123) C dX9_tellClosest_123 rfl ?_
    refine w_getR (pc := 124) C fl_X9_58 rfl dX9_tellClosest_124 (St9_k f24) (St9_r7 f24) ?_
    refine w_cV0_1 (pc := 127) C cl_X9_293 lv_X8_addFraction (by decide) dX9_tellClosest_127 (Nat.le_of_ble_eq_true rfl) (c := 8) rfl (St8_k (St9_s1 f24)) (hv.mono (fun v h27 hp => ?_))
    obtain ⟨rfl, hv⟩ := hp
    refine w_iload (pc := 130) C dX9_tellClosest_130 rfl ?_
    exact w_iret (pc := 132) C dX9_tellClosest_132 hv
  · have hv := hv2 c28
    refine w_bipush (pc := 14) C (v := (-2)) dX9_tellClosest_14 (by decide) ?_
    exact w_iret (pc := 16) C dX9_tellClosest_16 hv
theorem dX9_nearest_0 : decode cX9_nearest 0 = .ok (.iload_n 1, 1) := by decide +kernel
theorem dX9_nearest_1 : decode cX9_nearest 1 = .ok (.iconst 1, 1) := by decide +kernel
theorem dX9_nearest_2 : decode cX9_nearest 2 = .ok (.sipush 400, 3) := by decide +kernel
theorem dX9_nearest_5 : decode cX9_nearest 5 = .ok (.invokestatic 247, 3) := by decide +kernel
theorem dX9_nearest_8 : decode cX9_nearest 8 = .ok (.ifCond .eq 14, 3) := by decide +kernel
theorem dX9_nearest_11 : decode cX9_nearest 11 = .ok (.iload_n 2, 1) := by decide +kernel
theorem dX9_nearest_12 : decode cX9_nearest 12 = .ok (.iconst 1, 1) := by decide +kernel
theorem dX9_nearest_13 : decode cX9_nearest 13 = .ok (.sipush 400, 3) := by decide +kernel
theorem dX9_nearest_16 : decode cX9_nearest 16 = .ok (.invokestatic 247, 3) := by decide +kernel
theorem dX9_nearest_19 : decode cX9_nearest 19 = .ok (.ifCond .ne 5, 3) := by decide +kernel
theorem dX9_nearest_22 : decode cX9_nearest 22 = .ok (.iconst (-1), 1) := by decide +kernel
theorem dX9_nearest_23 : decode cX9_nearest 23 = .ok (.ireturn, 1) := by decide +kernel
theorem dX9_nearest_24 : decode cX9_nearest 24 = .ok (.aload_n 0, 1) := by decide +kernel
theorem dX9_nearest_25 : decode cX9_nearest 25 = .ok (.lconst 0, 1) := by decide +kernel
theorem dX9_nearest_26 : decode cX9_nearest 26 = .ok (.iload_n 1, 1) := by decide +kernel
theorem dX9_nearest_27 : decode cX9_nearest 27 = .ok (.i2l, 1) := by decide +kernel
theorem dX9_nearest_28 : decode cX9_nearest 28 = .ok (.iload_n 2, 1) := by decide +kernel
theorem dX9_nearest_29 : decode cX9_nearest 29 = .ok (.i2l, 1) := by decide +kernel
theorem dX9_nearest_30 : decode cX9_nearest 30 = .ok (.invokevirtual 259, 3) := by decide +kernel
theorem dX9_nearest_33 : decode cX9_nearest 33 = .ok (.ireturn, 1) := by decide +kernel
set_option maxRecDepth 20000 in
set_option maxHeartbeats 2000000 in
theorem V_X9_nearest_0 {X : Ctx} (C : C_X9_nearest X) {k n : Nat} {Q : Pq} {h : Hp} {v0 : Nat} {v1 v2 : Int32}
    (hv : (((bt v1 1 400) = 0 → Q (some (.int (-1))) h) ∧
    (¬ (bt v1 1 400) = 0 → ((¬ (bt v2 1 400) = 0 → St9 h v0 ∧ (∃ k3 n4, k + k3 ≤ mcX X ∧ n + n4 ≤ msX X ∧ S_X9_tellClosest (lX X) (dtX X) k3 n4 [.ref v0, .long 0, .long (Int32.toInt64 v1), .long (Int32.toInt64 v2)] h (QI fun x5 h2 =>
    Q (some (.int x5)) h2))) ∧
    ((bt v2 1 400) = 0 → Q (some (.int (-1))) h))))) :
    Wj X k n Q 0 [(0, .ref v0), (1, .int v1), (2, .int v2)] [] h := by
  refine w_iload_n (pc := 0) C dX9_nearest_0 rfl ?_
  refine w_iconst (pc := 1) C (v := 1) dX9_nearest_1 (by decide) ?_
  refine w_sipush (pc := 2) C (v := 400) dX9_nearest_2 (by decide) ?_
  refine w_cS0_3 (pc := 5) C cl_X9_247 ls_X9_isBetween (by decide) dX9_nearest_5 (Nat.le_of_ble_eq_true rfl) ((sf_X9_isBetween (h := h) ).mono (fun v h9 hp => ?_))
  obtain ⟨e1, e2⟩ := hp
  rw [e1, e2]
  refine w_if_eq (pc := 8) C (tgt := 22) dX9_nearest_8 (by decide) ?_
  obtain ⟨hv1, hv2⟩ := hv
  refine ⟨fun c7 => ?_, fun c7 => ?_⟩
  · have hv := hv1 c7
    refine w_iconst (pc := 22) C (v := (-1)) dX9_nearest_22 (by decide) ?_
    exact w_iret (pc := 23) C dX9_nearest_23 hv
  · have hv := hv2 c7
    refine w_iload_n (pc := 11) C dX9_nearest_11 rfl ?_
    refine w_iconst (pc := 12) C (v := 1) dX9_nearest_12 (by decide) ?_
    refine w_sipush (pc := 13) C (v := 400) dX9_nearest_13 (by decide) ?_
    refine w_cS0_3 (pc := 16) C cl_X9_247 ls_X9_isBetween (by decide) dX9_nearest_16 (Nat.le_of_ble_eq_true rfl) ((sf_X9_isBetween (h := h) ).mono (fun v h9 hp => ?_))
    obtain ⟨e1, e2⟩ := hp
    rw [e1, e2]
    refine w_if_ne (pc := 19) C (tgt := 24) dX9_nearest_19 (by decide) ?_
    obtain ⟨hv1, hv2⟩ := hv
    refine ⟨fun c6 => ?_, fun c6 => ?_⟩
    · have hv := hv1 c6
      refine w_aload_n (pc := 24) C dX9_nearest_24 rfl ?_
      refine w_lconst (pc := 25) C (v := 0) dX9_nearest_25 (by decide) ?_
      refine w_iload_n (pc := 26) C dX9_nearest_26 rfl ?_
      refine w_i2l (pc := 27) C dX9_nearest_27 ?_
      refine w_iload_n (pc := 28) C dX9_nearest_28 rfl ?_
      refine w_i2l (pc := 29) C dX9_nearest_29 ?_
      obtain ⟨f1, hv⟩ := hv
      obtain ⟨k3, n4, hm1, hm2, hv⟩ := hv
      refine w_cV1_3 (pc := 30) C cl_X9_259 lv_X9_tellClosest (by decide) dX9_nearest_30 (Nat.le_of_ble_eq_true rfl) (c := 9) rfl hm1 hm2 (St9_k f1) (hv.mono (fun v h2 hp => ?_))
      obtain ⟨x5, rfl, hv⟩ := hp
      exact w_iret (pc := 33) C dX9_nearest_33 hv
    · have hv := hv2 c6
      refine w_iconst (pc := 22) C (v := (-1)) dX9_nearest_22 (by decide) ?_
      exact w_iret (pc := 23) C dX9_nearest_23 hv
theorem dX9_lead_0 : decode cX9_lead 0 = .ok (.iload_n 1, 1) := by decide +kernel
theorem dX9_lead_1 : decode cX9_lead 1 = .ok (.iconst 1, 1) := by decide +kernel
theorem dX9_lead_2 : decode cX9_lead 2 = .ok (.sipush 20000, 3) := by decide +kernel
theorem dX9_lead_5 : decode cX9_lead 5 = .ok (.invokestatic 247, 3) := by decide +kernel
theorem dX9_lead_8 : decode cX9_lead 8 = .ok (.ifCond .ne 5, 3) := by decide +kernel
theorem dX9_lead_11 : decode cX9_lead 11 = .ok (.iconst (-1), 1) := by decide +kernel
theorem dX9_lead_12 : decode cX9_lead 12 = .ok (.ireturn, 1) := by decide +kernel
theorem dX9_lead_13 : decode cX9_lead 13 = .ok (.aload_n 0, 1) := by decide +kernel
theorem dX9_lead_14 : decode cX9_lead 14 = .ok (.aload_n 0, 1) := by decide +kernel
theorem dX9_lead_15 : decode cX9_lead 15 = .ok (.getfield 78, 3) := by decide +kernel
theorem dX9_lead_18 : decode cX9_lead 18 = .ok (.getfield 273, 3) := by decide +kernel
theorem dX9_lead_21 : decode cX9_lead 21 = .ok (.i2l, 1) := by decide +kernel
theorem dX9_lead_22 : decode cX9_lead 22 = .ok (.aload_n 0, 1) := by decide +kernel
theorem dX9_lead_23 : decode cX9_lead 23 = .ok (.getfield 78, 3) := by decide +kernel
theorem dX9_lead_26 : decode cX9_lead 26 = .ok (.getfield 276, 3) := by decide +kernel
theorem dX9_lead_29 : decode cX9_lead 29 = .ok (.i2l, 1) := by decide +kernel
theorem dX9_lead_30 : decode cX9_lead 30 = .ok (.lmul, 1) := by decide +kernel
theorem dX9_lead_31 : decode cX9_lead 31 = .ok (.iload_n 1, 1) := by decide +kernel
theorem dX9_lead_32 : decode cX9_lead 32 = .ok (.i2l, 1) := by decide +kernel
theorem dX9_lead_33 : decode cX9_lead 33 = .ok (.lconst 1, 1) := by decide +kernel
theorem dX9_lead_34 : decode cX9_lead 34 = .ok (.invokevirtual 259, 3) := by decide +kernel
theorem dX9_lead_37 : decode cX9_lead 37 = .ok (.ireturn, 1) := by decide +kernel
set_option maxRecDepth 20000 in
set_option maxHeartbeats 2000000 in
theorem V_X9_lead_0 {X : Ctx} (C : C_X9_lead X) {k n : Nat} {Q : Pq} {h : Hp} {v0 : Nat} {v1 : Int32}
    (hv : ((¬ (bt v1 1 20000) = 0 → St9 h v0 ∧ nn h v0 12 ∧ St4 h (gp h v0 12) ∧ (∃ k5 n6, k + k5 ≤ mcX X ∧ n + n6 ≤ msX X ∧ S_X9_tellClosest (lX X) (dtX X) k5 n6 [.ref v0, .long ((Int32.toInt64 (gi h (gp h v0 12) 0)) * (Int32.toInt64 (gi h (gp h v0 12) 1))), .long (Int32.toInt64 v1), .long 1] h (QI fun x7 h4 =>
    Q (some (.int x7)) h4))) ∧
    ((bt v1 1 20000) = 0 → Q (some (.int (-1))) h))) :
    Wj X k n Q 0 [(0, .ref v0), (1, .int v1)] [] h := by
  refine w_iload_n (pc := 0) C dX9_lead_0 rfl ?_
  refine w_iconst (pc := 1) C (v := 1) dX9_lead_1 (by decide) ?_
  refine w_sipush (pc := 2) C (v := 20000) dX9_lead_2 (by decide) ?_
  refine w_cS0_3 (pc := 5) C cl_X9_247 ls_X9_isBetween (by decide) dX9_lead_5 (Nat.le_of_ble_eq_true rfl) ((sf_X9_isBetween (h := h) ).mono (fun v h9 hp => ?_))
  obtain ⟨e1, e2⟩ := hp
  rw [e1, e2]
  refine w_if_ne (pc := 8) C (tgt := 13) dX9_lead_8 (by decide) ?_
  obtain ⟨hv1, hv2⟩ := hv
  refine ⟨fun c8 => ?_, fun c8 => ?_⟩
  · have hv := hv1 c8
    refine w_aload_n (pc := 13) C dX9_lead_13 rfl ?_
    refine w_aload_n (pc := 14) C dX9_lead_14 rfl ?_
    obtain ⟨f1, hv⟩ := hv
    obtain ⟨f2, hv⟩ := hv
    refine w_getR (pc := 15) C fl_X9_78 rfl dX9_lead_15 (St9_k f1) f2 ?_
    obtain ⟨f3, hv⟩ := hv
    refine w_getI (pc := 18) C fl_X9_273 rfl dX9_lead_18 (St4_k f3) ?_
    refine w_i2l (pc := 21) C dX9_lead_21 ?_
    refine w_aload_n (pc := 22) C dX9_lead_22 rfl ?_
    refine w_getR (pc := 23) C fl_X9_78 rfl dX9_lead_23 (St9_k f1) f2 ?_
    refine w_getI (pc := 26) C fl_X9_276 rfl dX9_lead_26 (St4_k f3) ?_
    refine w_i2l (pc := 29) C dX9_lead_29 ?_
    refine w_lmul (pc := 30) C dX9_lead_30 ?_
    refine w_iload_n (pc := 31) C dX9_lead_31 rfl ?_
    refine w_i2l (pc := 32) C dX9_lead_32 ?_
    refine w_lconst (pc := 33) C (v := 1) dX9_lead_33 (by decide) ?_
    obtain ⟨k5, n6, hm1, hm2, hv⟩ := hv
    refine w_cV1_3 (pc := 34) C cl_X9_259 lv_X9_tellClosest (by decide) dX9_lead_34 (Nat.le_of_ble_eq_true rfl) (c := 9) rfl hm1 hm2 (St9_k f1) (hv.mono (fun v h4 hp => ?_))
    obtain ⟨x7, rfl, hv⟩ := hp
    exact w_iret (pc := 37) C dX9_lead_37 hv
  · have hv := hv2 c8
    refine w_iconst (pc := 11) C (v := (-1)) dX9_lead_11 (by decide) ?_
    exact w_iret (pc := 12) C dX9_lead_12 hv
theorem dX9_ratios_0 : decode cX9_ratios 0 = .ok (.aload_n 0, 1) := by decide +kernel
theorem dX9_ratios_1 : decode cX9_ratios 1 = .ok (.invokevirtual 211, 3) := by decide +kernel
theorem dX9_ratios_4 : decode cX9_ratios 4 = .ok (.astore_n 1, 1) := by decide +kernel
theorem dX9_ratios_5 : decode cX9_ratios 5 = .ok (.aload_n 1, 1) := by decide +kernel
theorem dX9_ratios_6 : decode cX9_ratios 6 = .ok (.getfield 263, 3) := by decide +kernel
theorem dX9_ratios_9 : decode cX9_ratios 9 = .ok (.ifCond .ne 6, 3) := by decide +kernel
theorem dX9_ratios_12 : decode cX9_ratios 12 = .ok (.bipush (-2), 2) := by decide +kernel
theorem dX9_ratios_14 : decode cX9_ratios 14 = .ok (.ireturn, 1) := by decide +kernel
theorem dX9_ratios_15 : decode cX9_ratios 15 = .ok (.aload_n 0, 1) := by decide +kernel
theorem dX9_ratios_16 : decode cX9_ratios 16 = .ok (.getfield 19, 3) := by decide +kernel
theorem dX9_ratios_19 : decode cX9_ratios 19 = .ok (.invokevirtual 158, 3) := by decide +kernel
theorem dX9_ratios_22 : decode cX9_ratios 22 = .ok (.aload_n 1, 1) := by decide +kernel
theorem dX9_ratios_23 : decode cX9_ratios 23 = .ok (.iconst (-1), 1) := by decide +kernel
theorem dX9_ratios_24 : decode cX9_ratios 24 = .ok (.invokevirtual 264, 3) := by decide +kernel
theorem dX9_ratios_27 : decode cX9_ratios 27 = .ok (.istore_n 2, 1) := by decide +kernel
theorem dX9_ratios_28 : decode cX9_ratios 28 = .ok (.aload_n 0, 1) := by decide +kernel
theorem dX9_ratios_29 : decode cX9_ratios 29 = .ok (.getfield 19, 3) := by decide +kernel
theorem dX9_ratios_32 : decode cX9_ratios 32 = .ok (.aload_n 1, 1) := by decide +kernel
theorem dX9_ratios_33 : decode cX9_ratios 33 = .ok (.iload_n 2, 1) := by decide +kernel
theorem dX9_ratios_34 : decode cX9_ratios 34 = .ok (.invokevirtual 267, 3) := by decide +kernel
theorem dX9_ratios_37 : decode cX9_ratios 37 = .ok (.i2l, 1) := by decide +kernel
theorem dX9_ratios_38 : decode cX9_ratios 38 = .ok (.invokevirtual 164, 3) := by decide +kernel
theorem dX9_ratios_41 : decode cX9_ratios 41 = .ok (.aload_n 0, 1) := by decide +kernel
theorem dX9_ratios_42 : decode cX9_ratios 42 = .ok (.getfield 19, 3) := by decide +kernel
theorem dX9_ratios_45 : decode cX9_ratios 45 = .ok (.aload_n 1, 1) := by decide +kernel
theorem dX9_ratios_46 : decode cX9_ratios 46 = .ok (.iload_n 2, 1) := by decide +kernel
theorem dX9_ratios_47 : decode cX9_ratios 47 = .ok (.invokevirtual 270, 3) := by decide +kernel
theorem dX9_ratios_50 : decode cX9_ratios 50 = .ok (.i2l, 1) := by decide +kernel
theorem dX9_ratios_51 : decode cX9_ratios 51 = .ok (.invokevirtual 164, 3) := by decide +kernel
theorem dX9_ratios_54 : decode cX9_ratios 54 = .ok (.aload_n 1, 1) := by decide +kernel
theorem dX9_ratios_55 : decode cX9_ratios 55 = .ok (.iconst 1, 1) := by decide +kernel
theorem dX9_ratios_56 : decode cX9_ratios 56 = .ok (.invokevirtual 264, 3) := by decide +kernel
theorem dX9_ratios_59 : decode cX9_ratios 59 = .ok (.istore_n 3, 1) := by decide +kernel
theorem dX9_ratios_60 : decode cX9_ratios 60 = .ok (.aload_n 0, 1) := by decide +kernel
theorem dX9_ratios_61 : decode cX9_ratios 61 = .ok (.getfield 19, 3) := by decide +kernel
theorem dX9_ratios_64 : decode cX9_ratios 64 = .ok (.aload_n 1, 1) := by decide +kernel
theorem dX9_ratios_65 : decode cX9_ratios 65 = .ok (.iload_n 3, 1) := by decide +kernel
theorem dX9_ratios_66 : decode cX9_ratios 66 = .ok (.invokevirtual 267, 3) := by decide +kernel
theorem dX9_ratios_69 : decode cX9_ratios 69 = .ok (.i2l, 1) := by decide +kernel
theorem dX9_ratios_70 : decode cX9_ratios 70 = .ok (.invokevirtual 164, 3) := by decide +kernel
theorem dX9_ratios_73 : decode cX9_ratios 73 = .ok (.aload_n 0, 1) := by decide +kernel
theorem dX9_ratios_74 : decode cX9_ratios 74 = .ok (.getfield 19, 3) := by decide +kernel
theorem dX9_ratios_77 : decode cX9_ratios 77 = .ok (.aload_n 1, 1) := by decide +kernel
theorem dX9_ratios_78 : decode cX9_ratios 78 = .ok (.iload_n 3, 1) := by decide +kernel
theorem dX9_ratios_79 : decode cX9_ratios 79 = .ok (.invokevirtual 270, 3) := by decide +kernel
theorem dX9_ratios_82 : decode cX9_ratios 82 = .ok (.i2l, 1) := by decide +kernel
theorem dX9_ratios_83 : decode cX9_ratios 83 = .ok (.invokevirtual 164, 3) := by decide +kernel
theorem dX9_ratios_86 : decode cX9_ratios 86 = .ok (.aload_n 1, 1) := by decide +kernel
theorem dX9_ratios_87 : decode cX9_ratios 87 = .ok (.getfield 263, 3) := by decide +kernel
theorem dX9_ratios_90 : decode cX9_ratios 90 = .ok (.ireturn, 1) := by decide +kernel
set_option maxRecDepth 20000 in
set_option maxHeartbeats 2000000 in
theorem V_X9_ratios_0 {X : Ctx} (C : C_X9_ratios X) {k n : Nat} {Q : Pq} {h : Hp} {v0 : Nat}
    (hv : St9 h v0 ∧ (∃ k3 n4, k + k3 ≤ mcX X ∧ n + n4 ≤ msX X ∧ S_X9_fittedShelf (lX X) (dtX X) k3 n4 [.ref v0] h (QR fun x5 h2 =>
    St5 h2 x5 ∧ ((¬ (gi h2 x5 0) = 0 → St9 h2 v0 ∧ S_X5_extreme (lX X) (dtX X) 0 0 [.ref x5, .int (-1)] (tcl h2 (v0 + 3)) (QI fun x9 h8 =>
    St9 h8 v0 ∧ St5 h8 x5 ∧ S_X8_add (lX X) (dtX X) 0 0 [.ref (v0 + 3), .long (Int32.toInt64 (sUp h8 x5 x9))] h8 (QV fun h12 =>
    St9 h12 v0 ∧ St5 h12 x5 ∧ S_X8_add (lX X) (dtX X) 0 0 [.ref (v0 + 3), .long (Int32.toInt64 (sLo h12 x5 x9))] h12 (QV fun h15 =>
    St5 h15 x5 ∧ S_X5_extreme (lX X) (dtX X) 0 0 [.ref x5, .int 1] h15 (QI fun x18 h17 =>
    St9 h17 v0 ∧ St5 h17 x5 ∧ S_X8_add (lX X) (dtX X) 0 0 [.ref (v0 + 3), .long (Int32.toInt64 (sUp h17 x5 x18))] h17 (QV fun h21 =>
    St9 h21 v0 ∧ St5 h21 x5 ∧ S_X8_add (lX X) (dtX X) 0 0 [.ref (v0 + 3), .long (Int32.toInt64 (sLo h21 x5 x18))] h21 (QV fun h24 =>
    St5 h24 x5 ∧ Q (some (.int (gi h24 x5 0))) h24))))))) ∧
    ((gi h2 x5 0) = 0 → Q (some (.int (-2))) h2))))) :
    Wj X k n Q 0 [(0, .ref v0)] [] h := by
  refine w_aload_n (pc := 0) C dX9_ratios_0 rfl ?_
  obtain ⟨f1, hv⟩ := hv
  obtain ⟨k3, n4, hm1, hm2, hv⟩ := hv
  refine w_cV1_0 (pc := 1) C cl_X9_211 lv_X9_fittedShelf (by decide) dX9_ratios_1 (Nat.le_of_ble_eq_true rfl) (c := 9) rfl hm1 hm2 (St9_k f1) (hv.mono (fun v h2 hp => ?_))
  obtain ⟨x5, rfl, hv⟩ := hp
  refine w_astore_n (pc := 4) C dX9_ratios_4 (by decide) ?_
  refine w_aload_n (pc := 5) C dX9_ratios_5 rfl ?_
  obtain ⟨f6, hv⟩ := hv
  refine w_getI (pc := 6) C fl_X9_263 rfl dX9_ratios_6 (St5_k f6) ?_
  refine w_if_ne (pc := 9) C (tgt := 15) dX9_ratios_9 (by decide) ?_
  obtain ⟨hv1, hv2⟩ := hv
  refine ⟨fun c26 => ?_, fun c26 => ?_⟩
  · have hv := hv1 c26
    refine w_aload_n (pc := 15) C dX9_ratios_15 rfl ?_
    obtain ⟨f7, hv⟩ := hv
    refine w_getR (pc := 16) C fl_X9_19 rfl dX9_ratios_16 (St9_k f7) (St9_r1 f7) ?_
    refine w_cV0_0 (pc := 19) C cl_X9_158 lv_X8_clear (by decide) dX9_ratios_19 (Nat.le_of_ble_eq_true rfl) (c := 8) rfl (St8_k (St9_s1 f7)) ((sf_X8_clear (h := h2) (St9_s1 f7)).mono (fun v h9 hp => ?_))
    obtain ⟨e1, e2⟩ := hp
    rw [e1, e2]
    refine w_aload_n (pc := 22) C dX9_ratios_22 rfl ?_
    refine w_iconst (pc := 23) C (v := (-1)) dX9_ratios_23 (by decide) ?_
    refine w_cV0_1 (pc := 24) C cl_X9_264 lv_X5_extreme (by decide) dX9_ratios_24 (Nat.le_of_ble_eq_true rfl) (c := 5) rfl (St5_k f6) (hv.mono (fun v h8 hp => ?_))
    obtain ⟨x9, rfl, hv⟩ := hp
    refine w_istore_n (pc := 27) C dX9_ratios_27 (by decide) ?_
    refine w_aload_n (pc := 28) C dX9_ratios_28 rfl ?_
    obtain ⟨f10, hv⟩ := hv
    refine w_getR (pc := 29) C fl_X9_19 rfl dX9_ratios_29 (St9_k f10) (St9_r1 f10) ?_
    refine w_aload_n (pc := 32) C dX9_ratios_32 rfl ?_
    refine w_iload_n (pc := 33) C dX9_ratios_33 rfl ?_
    obtain ⟨f11, hv⟩ := hv
    refine w_cV0_1 (pc := 34) C cl_X9_267 lv_X5_up (by decide) dX9_ratios_34 (Nat.le_of_ble_eq_true rfl) (c := 5) rfl (St5_k f11) ((sf_X5_up (h := h8) f11).mono (fun v h9 hp => ?_))
    obtain ⟨e1, e2⟩ := hp
    rw [e1, e2]
    refine w_i2l (pc := 37) C dX9_ratios_37 ?_
    refine w_cV0_1 (pc := 38) C cl_X9_164 lv_X8_add (by decide) dX9_ratios_38 (Nat.le_of_ble_eq_true rfl) (c := 8) rfl (St8_k (St9_s1 f10)) (hv.mono (fun v h12 hp => ?_))
    obtain ⟨rfl, hv⟩ := hp
    refine w_aload_n (pc := 41) C dX9_ratios_41 rfl ?_
    obtain ⟨f13, hv⟩ := hv
    refine w_getR (pc := 42) C fl_X9_19 rfl dX9_ratios_42 (St9_k f13) (St9_r1 f13) ?_
    refine w_aload_n (pc := 45) C dX9_ratios_45 rfl ?_
    refine w_iload_n (pc := 46) C dX9_ratios_46 rfl ?_
    obtain ⟨f14, hv⟩ := hv
    refine w_cV0_1 (pc := 47) C cl_X9_270 lv_X5_low (by decide) dX9_ratios_47 (Nat.le_of_ble_eq_true rfl) (c := 5) rfl (St5_k f14) ((sf_X5_low (h := h12) f14).mono (fun v h9 hp => ?_))
    obtain ⟨e1, e2⟩ := hp
    rw [e1, e2]
    refine w_i2l (pc := 50) C dX9_ratios_50 ?_
    refine w_cV0_1 (pc := 51) C cl_X9_164 lv_X8_add (by decide) dX9_ratios_51 (Nat.le_of_ble_eq_true rfl) (c := 8) rfl (St8_k (St9_s1 f13)) (hv.mono (fun v h15 hp => ?_))
    obtain ⟨rfl, hv⟩ := hp
    refine w_aload_n (pc := 54) C dX9_ratios_54 rfl ?_
    refine w_iconst (pc := 55) C (v := 1) dX9_ratios_55 (by decide) ?_
    obtain ⟨f16, hv⟩ := hv
    refine w_cV0_1 (pc := 56) C cl_X9_264 lv_X5_extreme (by decide) dX9_ratios_56 (Nat.le_of_ble_eq_true rfl) (c := 5) rfl (St5_k f16) (hv.mono (fun v h17 hp => ?_))
    obtain ⟨x18, rfl, hv⟩ := hp
    refine w_istore_n (pc := 59) C dX9_ratios_59 (by decide) ?_
    refine w_aload_n (pc := 60) C dX9_ratios_60 rfl ?_
    obtain ⟨f19, hv⟩ := hv
    refine w_getR (pc := 61) C fl_X9_19 rfl dX9_ratios_61 (St9_k f19) (St9_r1 f19) ?_
    refine w_aload_n (pc := 64) C dX9_ratios_64 rfl ?_
    refine w_iload_n (pc := 65) C dX9_ratios_65 rfl ?_
    obtain ⟨f20, hv⟩ := hv
    refine w_cV0_1 (pc := 66) C cl_X9_267 lv_X5_up (by decide) dX9_ratios_66 (Nat.le_of_ble_eq_true rfl) (c := 5) rfl (St5_k f20) ((sf_X5_up (h := h17) f20).mono (fun v h9 hp => ?_))
    obtain ⟨e1, e2⟩ := hp
    rw [e1, e2]
    refine w_i2l (pc := 69) C dX9_ratios_69 ?_
    refine w_cV0_1 (pc := 70) C cl_X9_164 lv_X8_add (by decide) dX9_ratios_70 (Nat.le_of_ble_eq_true rfl) (c := 8) rfl (St8_k (St9_s1 f19)) (hv.mono (fun v h21 hp => ?_))
    obtain ⟨rfl, hv⟩ := hp
    refine w_aload_n (pc := 73) C dX9_ratios_73 rfl ?_
    obtain ⟨f22, hv⟩ := hv
    refine w_getR (pc := 74) C fl_X9_19 rfl dX9_ratios_74 (St9_k f22) (St9_r1 f22) ?_
    refine w_aload_n (pc := 77) C dX9_ratios_77 rfl ?_
    refine w_iload_n (pc := 78) C dX9_ratios_78 rfl ?_
    obtain ⟨f23, hv⟩ := hv
    refine w_cV0_1 (pc := 79) C cl_X9_270 lv_X5_low (by decide) dX9_ratios_79 (Nat.le_of_ble_eq_true rfl) (c := 5) rfl (St5_k f23) ((sf_X5_low (h := h21) f23).mono (fun v h9 hp => ?_))
    obtain ⟨e1, e2⟩ := hp
    rw [e1, e2]
    refine w_i2l (pc := 82) C dX9_ratios_82 ?_
    refine w_cV0_1 (pc := 83) C cl_X9_164 lv_X8_add (by decide) dX9_ratios_83 (Nat.le_of_ble_eq_true rfl) (c := 8) rfl (St8_k (St9_s1 f22)) (hv.mono (fun v h24 hp => ?_))
    obtain ⟨rfl, hv⟩ := hp
    refine w_aload_n (pc := 86) C dX9_ratios_86 rfl ?_
    obtain ⟨f25, hv⟩ := hv
    refine w_getI (pc := 87) C fl_X9_263 rfl dX9_ratios_87 (St5_k f25) ?_
    exact w_iret (pc := 90) C dX9_ratios_90 hv
  · have hv := hv2 c26
    refine w_bipush (pc := 12) C (v := (-2)) dX9_ratios_12 (by decide) ?_
    exact w_iret (pc := 14) C dX9_ratios_14 hv
