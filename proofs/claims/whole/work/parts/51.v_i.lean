-- simple ways (by program: gen_parts.py)
theorem dX6_init_0 : decode cX6_init 0 = .ok (.aload_n 0, 1) := by decide +kernel
theorem dX6_init_1 : decode cX6_init 1 = .ok (.invokespecial 3, 3) := by decide +kernel
theorem dX6_init_4 : decode cX6_init 4 = .ok (.aload_n 0, 1) := by decide +kernel
theorem dX6_init_5 : decode cX6_init 5 = .ok (.iconst 0, 1) := by decide +kernel
theorem dX6_init_6 : decode cX6_init 6 = .ok (.putfield 9, 3) := by decide +kernel
theorem dX6_init_9 : decode cX6_init 9 = .ok (.aload_n 0, 1) := by decide +kernel
theorem dX6_init_10 : decode cX6_init 10 = .ok (.iconst (-1), 1) := by decide +kernel
theorem dX6_init_11 : decode cX6_init 11 = .ok (.putfield 15, 3) := by decide +kernel
theorem dX6_init_14 : decode cX6_init 14 = .ok (.aload_n 0, 1) := by decide +kernel
theorem dX6_init_15 : decode cX6_init 15 = .ok (.iconst 0, 1) := by decide +kernel
theorem dX6_init_16 : decode cX6_init 16 = .ok (.putfield 18, 3) := by decide +kernel
theorem dX6_init_19 : decode cX6_init 19 = .ok (.aload_n 0, 1) := by decide +kernel
theorem dX6_init_20 : decode cX6_init 20 = .ok (.iconst 0, 1) := by decide +kernel
theorem dX6_init_21 : decode cX6_init 21 = .ok (.putfield 21, 3) := by decide +kernel
theorem dX6_init_24 : decode cX6_init 24 = .ok (.return_, 1) := by decide +kernel
set_option maxRecDepth 20000 in
set_option maxHeartbeats 2000000 in
theorem V_X6_init_0 {X : Ctx} (C : C_X6_init X) {k n : Nat} {Q : Pq} {h : Hp} {v0 : Nat}
    (hv : kd h v0 = 7 ∧ Q none (si (si (si (si h v0 0 0) v0 1 (-1)) v0 2 0) v0 3 0)) :
    Wj X k n Q 0 [(0, .ref v0)] [] h := by
  refine w_aload_n (pc := 0) C dX6_init_0 rfl ?_
  refine w_objInit (pc := 1) C oi_X6_3 ow_1 ow_2 dX6_init_1 (by decide) (Nat.le_of_ble_eq_true rfl) ?_
  refine w_aload_n (pc := 4) C dX6_init_4 rfl ?_
  refine w_iconst (pc := 5) C (v := 0) dX6_init_5 (by decide) ?_
  obtain ⟨f1, hv⟩ := hv
  refine w_putI (pc := 6) C fl_X6_9 rfl rfl dX6_init_6 f1 ?_
  refine w_aload_n (pc := 9) C dX6_init_9 rfl ?_
  refine w_iconst (pc := 10) C (v := (-1)) dX6_init_10 (by decide) ?_
  refine w_putI (pc := 11) C fl_X6_15 rfl rfl dX6_init_11 f1 ?_
  refine w_aload_n (pc := 14) C dX6_init_14 rfl ?_
  refine w_iconst (pc := 15) C (v := 0) dX6_init_15 (by decide) ?_
  refine w_putI (pc := 16) C fl_X6_18 rfl rfl dX6_init_16 f1 ?_
  refine w_aload_n (pc := 19) C dX6_init_19 rfl ?_
  refine w_iconst (pc := 20) C (v := 0) dX6_init_20 (by decide) ?_
  refine w_putI (pc := 21) C fl_X6_21 rfl rfl dX6_init_21 f1 ?_
  exact w_vret (pc := 24) C dX6_init_24 hv
theorem dX6_look_0 : decode cX6_look 0 = .ok (.aload_n 0, 1) := by decide +kernel
theorem dX6_look_1 : decode cX6_look 1 = .ok (.iconst 0, 1) := by decide +kernel
theorem dX6_look_2 : decode cX6_look 2 = .ok (.putfield 9, 3) := by decide +kernel
theorem dX6_look_5 : decode cX6_look 5 = .ok (.iload_n 2, 1) := by decide +kernel
theorem dX6_look_6 : decode cX6_look 6 = .ok (.ifCond .gt 4, 3) := by decide +kernel
theorem dX6_look_9 : decode cX6_look 9 = .ok (.return_, 1) := by decide +kernel
theorem dX6_look_10 : decode cX6_look 10 = .ok (.iconst 0, 1) := by decide +kernel
theorem dX6_look_11 : decode cX6_look 11 = .ok (.istore_n 3, 1) := by decide +kernel
theorem dX6_look_12 : decode cX6_look 12 = .ok (.iload_n 3, 1) := by decide +kernel
theorem dX6_look_13 : decode cX6_look 13 = .ok (.aload_n 1, 1) := by decide +kernel
theorem dX6_look_14 : decode cX6_look 14 = .ok (.getfield 24, 3) := by decide +kernel
theorem dX6_look_17 : decode cX6_look 17 = .ok (.if_icmp .ge 81, 3) := by decide +kernel
theorem dX6_look_20 : decode cX6_look 20 = .ok (.aload_n 1, 1) := by decide +kernel
theorem dX6_look_21 : decode cX6_look 21 = .ok (.iload_n 3, 1) := by decide +kernel
theorem dX6_look_22 : decode cX6_look 22 = .ok (.invokevirtual 29, 3) := by decide +kernel
theorem dX6_look_25 : decode cX6_look 25 = .ok (.istore 4, 2) := by decide +kernel
theorem dX6_look_27 : decode cX6_look 27 = .ok (.aload_n 1, 1) := by decide +kernel
theorem dX6_look_28 : decode cX6_look 28 = .ok (.getfield 33, 3) := by decide +kernel
theorem dX6_look_31 : decode cX6_look 31 = .ok (.iload 4, 2) := by decide +kernel
theorem dX6_look_33 : decode cX6_look 33 = .ok (.imul, 1) := by decide +kernel
theorem dX6_look_34 : decode cX6_look 34 = .ok (.iload_n 2, 1) := by decide +kernel
theorem dX6_look_35 : decode cX6_look 35 = .ok (.irem, 1) := by decide +kernel
theorem dX6_look_36 : decode cX6_look 36 = .ok (.ifCond .ne 56, 3) := by decide +kernel
theorem dX6_look_39 : decode cX6_look 39 = .ok (.aload_n 0, 1) := by decide +kernel
theorem dX6_look_40 : decode cX6_look 40 = .ok (.getfield 9, 3) := by decide +kernel
theorem dX6_look_43 : decode cX6_look 43 = .ok (.ifCond .ne 39, 3) := by decide +kernel
theorem dX6_look_46 : decode cX6_look 46 = .ok (.aload_n 0, 1) := by decide +kernel
theorem dX6_look_47 : decode cX6_look 47 = .ok (.iload_n 3, 1) := by decide +kernel
theorem dX6_look_48 : decode cX6_look 48 = .ok (.putfield 15, 3) := by decide +kernel
theorem dX6_look_51 : decode cX6_look 51 = .ok (.aload_n 0, 1) := by decide +kernel
theorem dX6_look_52 : decode cX6_look 52 = .ok (.aload_n 1, 1) := by decide +kernel
theorem dX6_look_53 : decode cX6_look 53 = .ok (.getfield 33, 3) := by decide +kernel
theorem dX6_look_56 : decode cX6_look 56 = .ok (.iload_n 2, 1) := by decide +kernel
theorem dX6_look_57 : decode cX6_look 57 = .ok (.idiv, 1) := by decide +kernel
theorem dX6_look_58 : decode cX6_look 58 = .ok (.putfield 18, 3) := by decide +kernel
theorem dX6_look_61 : decode cX6_look 61 = .ok (.aload_n 0, 1) := by decide +kernel
theorem dX6_look_62 : decode cX6_look 62 = .ok (.aload_n 1, 1) := by decide +kernel
theorem dX6_look_63 : decode cX6_look 63 = .ok (.getfield 33, 3) := by decide +kernel
theorem dX6_look_66 : decode cX6_look 66 = .ok (.iload 4, 2) := by decide +kernel
theorem dX6_look_68 : decode cX6_look 68 = .ok (.imul, 1) := by decide +kernel
theorem dX6_look_69 : decode cX6_look 69 = .ok (.iload_n 2, 1) := by decide +kernel
theorem dX6_look_70 : decode cX6_look 70 = .ok (.idiv, 1) := by decide +kernel
theorem dX6_look_71 : decode cX6_look 71 = .ok (.aload_n 0, 1) := by decide +kernel
theorem dX6_look_72 : decode cX6_look 72 = .ok (.getfield 18, 3) := by decide +kernel
theorem dX6_look_75 : decode cX6_look 75 = .ok (.iload 4, 2) := by decide +kernel
theorem dX6_look_77 : decode cX6_look 77 = .ok (.imul, 1) := by decide +kernel
theorem dX6_look_78 : decode cX6_look 78 = .ok (.isub, 1) := by decide +kernel
theorem dX6_look_79 : decode cX6_look 79 = .ok (.putfield 21, 3) := by decide +kernel
theorem dX6_look_82 : decode cX6_look 82 = .ok (.aload_n 0, 1) := by decide +kernel
theorem dX6_look_83 : decode cX6_look 83 = .ok (.dup, 1) := by decide +kernel
theorem dX6_look_84 : decode cX6_look 84 = .ok (.getfield 9, 3) := by decide +kernel
theorem dX6_look_87 : decode cX6_look 87 = .ok (.iconst 1, 1) := by decide +kernel
theorem dX6_look_88 : decode cX6_look 88 = .ok (.iadd, 1) := by decide +kernel
theorem dX6_look_89 : decode cX6_look 89 = .ok (.putfield 9, 3) := by decide +kernel
theorem dX6_look_92 : decode cX6_look 92 = .ok (.iinc 3 1, 3) := by decide +kernel
theorem dX6_look_95 : decode cX6_look 95 = .ok (.goto (-83), 3) := by decide +kernel
theorem dX6_look_98 : decode cX6_look 98 = .ok (.return_, 1) := by decide +kernel
set_option maxRecDepth 20000 in
set_option maxHeartbeats 2000000 in
theorem V_X6_look_0 {X : Ctx} (C : C_X6_look X) {k n : Nat} {Q : Pq} {h : Hp} {v0 v1 : Nat} {v2 : Int32}
    (hv : kd h v0 = 7 ∧ ((0 < v2 → Wj X k n Q 12 [(0, .ref v0), (1, .ref v1), (2, .int v2), (3, .int 0)] [] (si h v0 0 0)) ∧
    (¬ 0 < v2 → Q none (si h v0 0 0)))) :
    Wj X k n Q 0 [(0, .ref v0), (1, .ref v1), (2, .int v2)] [] h := by
  refine w_aload_n (pc := 0) C dX6_look_0 rfl ?_
  refine w_iconst (pc := 1) C (v := 0) dX6_look_1 (by decide) ?_
  obtain ⟨f1, hv⟩ := hv
  refine w_putI (pc := 2) C fl_X6_9 rfl rfl dX6_look_2 f1 ?_
  refine w_iload_n (pc := 5) C dX6_look_5 rfl ?_
  refine w_if_gt (pc := 6) C (tgt := 10) dX6_look_6 (by decide) ?_
  obtain ⟨hv1, hv2⟩ := hv
  refine ⟨fun c2 => ?_, fun c2 => ?_⟩
  · have hv := hv1 c2
    refine w_iconst (pc := 10) C (v := 0) dX6_look_10 (by decide) ?_
    refine w_istore_n (pc := 11) C dX6_look_11 (by decide) ?_
    refine w_sub ?_ hv
    exact ⟨rfl, rfl, rfl, rfl, trivial⟩
  · have hv := hv2 c2
    exact w_vret (pc := 9) C dX6_look_9 hv
set_option maxRecDepth 20000 in
set_option maxHeartbeats 2000000 in
theorem V_X6_look_12 {X : Ctx} (C : C_X6_look X) {k n : Nat} {Q : Pq} {h : Hp} {v0 v1 : Nat} {v2 v3 : Int32}
    (hv : St4 h v1 ∧ (((gi h v1 3) ≤ v3 → Q none h) ∧
    (¬ (gi h v1 3) ≤ v3 → ¬ v2 = 0 ∧ ((¬ (((gi h v1 0) * (hHo h v1 v3)) % v2) = 0 → Wj X k n Q 12 [(0, .ref v0), (1, .ref v1), (2, .int v2), (3, .int (v3 + Int32.ofInt 1))] [] h) ∧
    ((((gi h v1 0) * (hHo h v1 v3)) % v2) = 0 → kd h v0 = 7 ∧ ((¬ (gi h v0 0) = 0 → Wj X k n Q 82 [(0, .ref v0), (1, .ref v1), (2, .int v2), (3, .int v3)] [] h) ∧
    ((gi h v0 0) = 0 → Wj X k n Q 82 [(0, .ref v0), (1, .ref v1), (2, .int v2), (3, .int v3)] [] (si (si (si h v0 1 v3) v0 2 ((gi (si h v0 1 v3) v1 0) / v2)) v0 3 ((((gi (si (si h v0 1 v3) v0 2 ((gi (si h v0 1 v3) v1 0) / v2)) v1 0) * (hHo h v1 v3)) / v2) - ((gi (si (si h v0 1 v3) v0 2 ((gi (si h v0 1 v3) v1 0) / v2)) v0 2) * (hHo h v1 v3))))))))))) :
    Wj X k n Q 12 [(0, .ref v0), (1, .ref v1), (2, .int v2), (3, .int v3)] [] h := by
  refine w_iload_n (pc := 12) C dX6_look_12 rfl ?_
  refine w_aload_n (pc := 13) C dX6_look_13 rfl ?_
  obtain ⟨f1, hv⟩ := hv
  refine w_getI (pc := 14) C fl_X6_24 rfl dX6_look_14 (St4_k f1) ?_
  refine w_icmp_ge (pc := 17) C (tgt := 98) dX6_look_17 (by decide) ?_
  obtain ⟨hv1, hv2⟩ := hv
  refine ⟨fun c6 => ?_, fun c6 => ?_⟩
  · have hv := hv1 c6
    exact w_vret (pc := 98) C dX6_look_98 hv
  · have hv := hv2 c6
    refine w_aload_n (pc := 20) C dX6_look_20 rfl ?_
    refine w_iload_n (pc := 21) C dX6_look_21 rfl ?_
    refine w_cV0_1 (pc := 22) C cl_X6_29 lv_X4_holesOf (by decide) dX6_look_22 (Nat.le_of_ble_eq_true rfl) (c := 4) rfl (St4_k f1) ((sf_X4_holesOf (h := h) f1).mono (fun v h9 hp => ?_))
    obtain ⟨e1, e2⟩ := hp
    rw [e1, e2]
    refine w_istore (pc := 25) C dX6_look_25 (by decide) ?_
    refine w_aload_n (pc := 27) C dX6_look_27 rfl ?_
    refine w_getI (pc := 28) C fl_X6_33 rfl dX6_look_28 (St4_k f1) ?_
    refine w_iload (pc := 31) C dX6_look_31 rfl ?_
    refine w_imul (pc := 33) C dX6_look_33 ?_
    refine w_iload_n (pc := 34) C dX6_look_34 rfl ?_
    obtain ⟨f2, hv⟩ := hv
    refine w_irem (pc := 35) C dX6_look_35 f2 ?_
    refine w_if_ne (pc := 36) C (tgt := 92) dX6_look_36 (by decide) ?_
    obtain ⟨hv1, hv2⟩ := hv
    refine ⟨fun c5 => ?_, fun c5 => ?_⟩
    · have hv := hv1 c5
      refine w_iinc (pc := 92) C dX6_look_92 rfl (by decide) ?_
      refine w_goto (pc := 95) C (tgt := 12) dX6_look_95 (by decide) ?_
      refine w_sub ?_ hv
      exact ⟨rfl, rfl, rfl, rfl, trivial⟩
    · have hv := hv2 c5
      refine w_aload_n (pc := 39) C dX6_look_39 rfl ?_
      obtain ⟨f3, hv⟩ := hv
      refine w_getI (pc := 40) C fl_X6_9 rfl dX6_look_40 f3 ?_
      refine w_if_ne (pc := 43) C (tgt := 82) dX6_look_43 (by decide) ?_
      obtain ⟨hv1, hv2⟩ := hv
      refine ⟨fun c4 => ?_, fun c4 => ?_⟩
      · have hv := hv1 c4
        refine w_sub ?_ hv
        exact ⟨rfl, rfl, rfl, rfl, trivial⟩
      · have hv := hv2 c4
        refine w_aload_n (pc := 46) C dX6_look_46 rfl ?_
        refine w_iload_n (pc := 47) C dX6_look_47 rfl ?_
        refine w_putI (pc := 48) C fl_X6_15 rfl rfl dX6_look_48 f3 ?_
        refine w_aload_n (pc := 51) C dX6_look_51 rfl ?_
        refine w_aload_n (pc := 52) C dX6_look_52 rfl ?_
        refine w_getI (pc := 53) C fl_X6_33 rfl dX6_look_53 (St4_k f1) ?_
        refine w_iload_n (pc := 56) C dX6_look_56 rfl ?_
        refine w_idiv (pc := 57) C dX6_look_57 f2 ?_
        refine w_putI (pc := 58) C fl_X6_18 rfl rfl dX6_look_58 f3 ?_
        refine w_aload_n (pc := 61) C dX6_look_61 rfl ?_
        refine w_aload_n (pc := 62) C dX6_look_62 rfl ?_
        refine w_getI (pc := 63) C fl_X6_33 rfl dX6_look_63 (St4_k f1) ?_
        refine w_iload (pc := 66) C dX6_look_66 rfl ?_
        refine w_imul (pc := 68) C dX6_look_68 ?_
        refine w_iload_n (pc := 69) C dX6_look_69 rfl ?_
        refine w_idiv (pc := 70) C dX6_look_70 f2 ?_
        refine w_aload_n (pc := 71) C dX6_look_71 rfl ?_
        refine w_getI (pc := 72) C fl_X6_18 rfl dX6_look_72 f3 ?_
        refine w_iload (pc := 75) C dX6_look_75 rfl ?_
        refine w_imul (pc := 77) C dX6_look_77 ?_
        refine w_isub (pc := 78) C dX6_look_78 ?_
        refine w_putI (pc := 79) C fl_X6_21 rfl rfl dX6_look_79 f3 ?_
        refine w_sub ?_ hv
        exact ⟨rfl, rfl, rfl, rfl, trivial⟩
set_option maxRecDepth 20000 in
set_option maxHeartbeats 2000000 in
theorem V_X6_look_82 {X : Ctx} (C : C_X6_look X) {k n : Nat} {Q : Pq} {h : Hp} {v0 v1 : Nat} {v2 v3 : Int32}
    (hv : kd h v0 = 7 ∧ Wj X k n Q 12 [(0, .ref v0), (1, .ref v1), (2, .int v2), (3, .int (v3 + Int32.ofInt 1))] [] (si h v0 0 ((gi h v0 0) + 1))) :
    Wj X k n Q 82 [(0, .ref v0), (1, .ref v1), (2, .int v2), (3, .int v3)] [] h := by
  refine w_aload_n (pc := 82) C dX6_look_82 rfl ?_
  refine w_dup (pc := 83) C dX6_look_83 rfl ?_
  obtain ⟨f1, hv⟩ := hv
  refine w_getI (pc := 84) C fl_X6_9 rfl dX6_look_84 f1 ?_
  refine w_iconst (pc := 87) C (v := 1) dX6_look_87 (by decide) ?_
  refine w_iadd (pc := 88) C dX6_look_88 ?_
  refine w_putI (pc := 89) C fl_X6_9 rfl rfl dX6_look_89 f1 ?_
  refine w_iinc (pc := 92) C dX6_look_92 rfl (by decide) ?_
  refine w_goto (pc := 95) C (tgt := 12) dX6_look_95 (by decide) ?_
  refine w_sub ?_ hv
  exact ⟨rfl, rfl, rfl, rfl, trivial⟩
theorem dX10_firstSimple_0 : decode cX10_firstSimple 0 = .ok (.iconst 0, 1) := by decide +kernel
theorem dX10_firstSimple_1 : decode cX10_firstSimple 1 = .ok (.istore_n 2, 1) := by decide +kernel
theorem dX10_firstSimple_2 : decode cX10_firstSimple 2 = .ok (.iload_n 2, 1) := by decide +kernel
theorem dX10_firstSimple_3 : decode cX10_firstSimple 3 = .ok (.aload_n 0, 1) := by decide +kernel
theorem dX10_firstSimple_4 : decode cX10_firstSimple 4 = .ok (.invokevirtual 156, 3) := by decide +kernel
theorem dX10_firstSimple_7 : decode cX10_firstSimple 7 = .ok (.if_icmp .ge 20, 3) := by decide +kernel
theorem dX10_firstSimple_10 : decode cX10_firstSimple 10 = .ok (.aload_n 0, 1) := by decide +kernel
theorem dX10_firstSimple_11 : decode cX10_firstSimple 11 = .ok (.iload_n 2, 1) := by decide +kernel
theorem dX10_firstSimple_12 : decode cX10_firstSimple 12 = .ok (.iload_n 1, 1) := by decide +kernel
theorem dX10_firstSimple_13 : decode cX10_firstSimple 13 = .ok (.invokevirtual 171, 3) := by decide +kernel
theorem dX10_firstSimple_16 : decode cX10_firstSimple 16 = .ok (.ifCond .eq 5, 3) := by decide +kernel
theorem dX10_firstSimple_19 : decode cX10_firstSimple 19 = .ok (.iload_n 2, 1) := by decide +kernel
theorem dX10_firstSimple_20 : decode cX10_firstSimple 20 = .ok (.ireturn, 1) := by decide +kernel
theorem dX10_firstSimple_21 : decode cX10_firstSimple 21 = .ok (.iinc 2 1, 3) := by decide +kernel
theorem dX10_firstSimple_24 : decode cX10_firstSimple 24 = .ok (.goto (-22), 3) := by decide +kernel
theorem dX10_firstSimple_27 : decode cX10_firstSimple 27 = .ok (.iconst (-1), 1) := by decide +kernel
theorem dX10_firstSimple_28 : decode cX10_firstSimple 28 = .ok (.ireturn, 1) := by decide +kernel
set_option maxRecDepth 20000 in
set_option maxHeartbeats 2000000 in
theorem V_X10_firstSimple_0 {X : Ctx} (C : C_X10_firstSimple X) {k n : Nat} {Q : Pq} {h : Hp} {v0 : Nat} {v1 : Int32}
    (hv : Wj X k n Q 2 [(0, .ref v0), (1, .int v1), (2, .int 0)] [] h) :
    Wj X k n Q 0 [(0, .ref v0), (1, .int v1)] [] h := by
  refine w_iconst (pc := 0) C (v := 0) dX10_firstSimple_0 (by decide) ?_
  refine w_istore_n (pc := 1) C dX10_firstSimple_1 (by decide) ?_
  refine w_sub ?_ hv
  exact ⟨rfl, rfl, rfl, trivial⟩
set_option maxRecDepth 20000 in
set_option maxHeartbeats 2000000 in
theorem V_X10_firstSimple_2 {X : Ctx} (C : C_X10_firstSimple X) {k n : Nat} {Q : Pq} {h : Hp} {v0 : Nat} {v1 v2 : Int32}
    (hv : St10 h v0 ∧ (((gi h (v0 + 3) (ix 3)) ≤ v2 → Q (some (.int (-1))) h) ∧
    (¬ (gi h (v0 + 3) (ix 3)) ≤ v2 → inb (23 + v2) 732 ∧ ¬ v1 = 0 ∧ (((mHs h v0 v2 v1) = 0 → Wj X k n Q 2 [(0, .ref v0), (1, .int v1), (2, .int (v2 + Int32.ofInt 1))] [] h) ∧
    (¬ (mHs h v0 v2 v1) = 0 → Q (some (.int v2)) h))))) :
    Wj X k n Q 2 [(0, .ref v0), (1, .int v1), (2, .int v2)] [] h := by
  refine w_iload_n (pc := 2) C dX10_firstSimple_2 rfl ?_
  refine w_aload_n (pc := 3) C dX10_firstSimple_3 rfl ?_
  obtain ⟨f1, hv⟩ := hv
  refine w_cV0_0 (pc := 4) C cl_X10_156 lv_X10_circles (by decide) dX10_firstSimple_4 (Nat.le_of_ble_eq_true rfl) (c := 10) rfl (St10_k f1) ((sf_X10_circles (h := h) f1).mono (fun v h9 hp => ?_))
  obtain ⟨e1, e2⟩ := hp
  rw [e1, e2]
  refine w_icmp_ge (pc := 7) C (tgt := 27) dX10_firstSimple_7 (by decide) ?_
  obtain ⟨hv1, hv2⟩ := hv
  refine ⟨fun c5 => ?_, fun c5 => ?_⟩
  · have hv := hv1 c5
    refine w_iconst (pc := 27) C (v := (-1)) dX10_firstSimple_27 (by decide) ?_
    exact w_iret (pc := 28) C dX10_firstSimple_28 hv
  · have hv := hv2 c5
    refine w_aload_n (pc := 10) C dX10_firstSimple_10 rfl ?_
    refine w_iload_n (pc := 11) C dX10_firstSimple_11 rfl ?_
    refine w_iload_n (pc := 12) C dX10_firstSimple_12 rfl ?_
    obtain ⟨f2, hv⟩ := hv
    obtain ⟨f3, hv⟩ := hv
    refine w_cV0_2 (pc := 13) C cl_X10_171 lv_X10_hasSimple (by decide) dX10_firstSimple_13 (Nat.le_of_ble_eq_true rfl) (c := 10) rfl (St10_k f1) ((sf_X10_hasSimple (h := h) f1 f2 f3).mono (fun v h9 hp => ?_))
    obtain ⟨e1, e2⟩ := hp
    rw [e1, e2]
    refine w_if_eq (pc := 16) C (tgt := 21) dX10_firstSimple_16 (by decide) ?_
    obtain ⟨hv1, hv2⟩ := hv
    refine ⟨fun c4 => ?_, fun c4 => ?_⟩
    · have hv := hv1 c4
      refine w_iinc (pc := 21) C dX10_firstSimple_21 rfl (by decide) ?_
      refine w_goto (pc := 24) C (tgt := 2) dX10_firstSimple_24 (by decide) ?_
      refine w_sub ?_ hv
      exact ⟨rfl, rfl, rfl, trivial⟩
    · have hv := hv2 c4
      refine w_iload_n (pc := 19) C dX10_firstSimple_19 rfl ?_
      exact w_iret (pc := 20) C dX10_firstSimple_20 hv
theorem dX10_simple_0 : decode cX10_simple 0 = .ok (.aload_n 0, 1) := by decide +kernel
theorem dX10_simple_1 : decode cX10_simple 1 = .ok (.iconst 0, 1) := by decide +kernel
theorem dX10_simple_2 : decode cX10_simple 2 = .ok (.putfield 1, 3) := by decide +kernel
theorem dX10_simple_5 : decode cX10_simple 5 = .ok (.iload_n 1, 1) := by decide +kernel
theorem dX10_simple_6 : decode cX10_simple 6 = .ok (.invokestatic 179, 3) := by decide +kernel
theorem dX10_simple_9 : decode cX10_simple 9 = .ok (.ifCond .ne 5, 3) := by decide +kernel
theorem dX10_simple_12 : decode cX10_simple 12 = .ok (.iconst (-1), 1) := by decide +kernel
theorem dX10_simple_13 : decode cX10_simple 13 = .ok (.ireturn, 1) := by decide +kernel
theorem dX10_simple_14 : decode cX10_simple 14 = .ok (.iconst 0, 1) := by decide +kernel
theorem dX10_simple_15 : decode cX10_simple 15 = .ok (.istore_n 2, 1) := by decide +kernel
theorem dX10_simple_16 : decode cX10_simple 16 = .ok (.iconst 0, 1) := by decide +kernel
theorem dX10_simple_17 : decode cX10_simple 17 = .ok (.istore_n 3, 1) := by decide +kernel
theorem dX10_simple_18 : decode cX10_simple 18 = .ok (.iload_n 3, 1) := by decide +kernel
theorem dX10_simple_19 : decode cX10_simple 19 = .ok (.aload_n 0, 1) := by decide +kernel
theorem dX10_simple_20 : decode cX10_simple 20 = .ok (.invokevirtual 156, 3) := by decide +kernel
theorem dX10_simple_23 : decode cX10_simple 23 = .ok (.if_icmp .ge 21, 3) := by decide +kernel
theorem dX10_simple_26 : decode cX10_simple 26 = .ok (.iload_n 2, 1) := by decide +kernel
theorem dX10_simple_27 : decode cX10_simple 27 = .ok (.aload_n 0, 1) := by decide +kernel
theorem dX10_simple_28 : decode cX10_simple 28 = .ok (.iload_n 3, 1) := by decide +kernel
theorem dX10_simple_29 : decode cX10_simple 29 = .ok (.iload_n 1, 1) := by decide +kernel
theorem dX10_simple_30 : decode cX10_simple 30 = .ok (.invokevirtual 171, 3) := by decide +kernel
theorem dX10_simple_33 : decode cX10_simple 33 = .ok (.invokestatic 39, 3) := by decide +kernel
theorem dX10_simple_36 : decode cX10_simple 36 = .ok (.iadd, 1) := by decide +kernel
theorem dX10_simple_37 : decode cX10_simple 37 = .ok (.istore_n 2, 1) := by decide +kernel
theorem dX10_simple_38 : decode cX10_simple 38 = .ok (.iinc 3 1, 3) := by decide +kernel
theorem dX10_simple_41 : decode cX10_simple 41 = .ok (.goto (-23), 3) := by decide +kernel
theorem dX10_simple_44 : decode cX10_simple 44 = .ok (.iload_n 2, 1) := by decide +kernel
theorem dX10_simple_45 : decode cX10_simple 45 = .ok (.ifCond .ne 6, 3) := by decide +kernel
theorem dX10_simple_48 : decode cX10_simple 48 = .ok (.bipush (-2), 2) := by decide +kernel
theorem dX10_simple_50 : decode cX10_simple 50 = .ok (.ireturn, 1) := by decide +kernel
theorem dX10_simple_51 : decode cX10_simple 51 = .ok (.aload_n 0, 1) := by decide +kernel
theorem dX10_simple_52 : decode cX10_simple 52 = .ok (.iload_n 1, 1) := by decide +kernel
theorem dX10_simple_53 : decode cX10_simple 53 = .ok (.invokevirtual 182, 3) := by decide +kernel
theorem dX10_simple_56 : decode cX10_simple 56 = .ok (.istore_n 3, 1) := by decide +kernel
theorem dX10_simple_57 : decode cX10_simple 57 = .ok (.aload_n 0, 1) := by decide +kernel
theorem dX10_simple_58 : decode cX10_simple 58 = .ok (.iconst 0, 1) := by decide +kernel
theorem dX10_simple_59 : decode cX10_simple 59 = .ok (.putfield 11, 3) := by decide +kernel
theorem dX10_simple_62 : decode cX10_simple 62 = .ok (.aload_n 0, 1) := by decide +kernel
theorem dX10_simple_63 : decode cX10_simple 63 = .ok (.iload_n 3, 1) := by decide +kernel
theorem dX10_simple_64 : decode cX10_simple 64 = .ok (.i2l, 1) := by decide +kernel
theorem dX10_simple_65 : decode cX10_simple 65 = .ok (.invokevirtual 18, 3) := by decide +kernel
theorem dX10_simple_68 : decode cX10_simple 68 = .ok (.aload_n 0, 1) := by decide +kernel
theorem dX10_simple_69 : decode cX10_simple 69 = .ok (.aload_n 0, 1) := by decide +kernel
theorem dX10_simple_70 : decode cX10_simple 70 = .ok (.iload_n 3, 1) := by decide +kernel
theorem dX10_simple_71 : decode cX10_simple 71 = .ok (.iload_n 1, 1) := by decide +kernel
theorem dX10_simple_72 : decode cX10_simple 72 = .ok (.invokevirtual 185, 3) := by decide +kernel
theorem dX10_simple_75 : decode cX10_simple 75 = .ok (.aload_n 0, 1) := by decide +kernel
theorem dX10_simple_76 : decode cX10_simple 76 = .ok (.iload_n 3, 1) := by decide +kernel
theorem dX10_simple_77 : decode cX10_simple 77 = .ok (.invokevirtual 159, 3) := by decide +kernel
theorem dX10_simple_80 : decode cX10_simple 80 = .ok (.idiv, 1) := by decide +kernel
theorem dX10_simple_81 : decode cX10_simple 81 = .ok (.i2l, 1) := by decide +kernel
theorem dX10_simple_82 : decode cX10_simple 82 = .ok (.invokevirtual 18, 3) := by decide +kernel
theorem dX10_simple_85 : decode cX10_simple 85 = .ok (.aload_n 0, 1) := by decide +kernel
theorem dX10_simple_86 : decode cX10_simple 86 = .ok (.aload_n 0, 1) := by decide +kernel
theorem dX10_simple_87 : decode cX10_simple 87 = .ok (.iload_n 3, 1) := by decide +kernel
theorem dX10_simple_88 : decode cX10_simple 88 = .ok (.iload_n 1, 1) := by decide +kernel
theorem dX10_simple_89 : decode cX10_simple 89 = .ok (.invokevirtual 185, 3) := by decide +kernel
theorem dX10_simple_92 : decode cX10_simple 92 = .ok (.aload_n 0, 1) := by decide +kernel
theorem dX10_simple_93 : decode cX10_simple 93 = .ok (.iload_n 3, 1) := by decide +kernel
theorem dX10_simple_94 : decode cX10_simple 94 = .ok (.invokevirtual 159, 3) := by decide +kernel
theorem dX10_simple_97 : decode cX10_simple 97 = .ok (.irem, 1) := by decide +kernel
theorem dX10_simple_98 : decode cX10_simple 98 = .ok (.i2l, 1) := by decide +kernel
theorem dX10_simple_99 : decode cX10_simple 99 = .ok (.invokevirtual 18, 3) := by decide +kernel
theorem dX10_simple_102 : decode cX10_simple 102 = .ok (.iload_n 2, 1) := by decide +kernel
theorem dX10_simple_103 : decode cX10_simple 103 = .ok (.ireturn, 1) := by decide +kernel
set_option maxRecDepth 20000 in
set_option maxHeartbeats 2000000 in
theorem V_X10_simple_0 {X : Ctx} (C : C_X10_simple X) {k n : Nat} {Q : Pq} {h : Hp} {v0 : Nat} {v1 : Int32}
    (hv : St10 h v0 ∧ ((¬ (btL (Int32.toInt64 v1) 2 400) = 0 → Wj X k n Q 18 [(0, .ref v0), (1, .int v1), (2, .int 0), (3, .int 0)] [] (si h v0 0 0)) ∧
    ((btL (Int32.toInt64 v1) 2 400) = 0 → Q (some (.int (-1))) (si h v0 0 0)))) :
    Wj X k n Q 0 [(0, .ref v0), (1, .int v1)] [] h := by
  refine w_aload_n (pc := 0) C dX10_simple_0 rfl ?_
  refine w_iconst (pc := 1) C (v := 0) dX10_simple_1 (by decide) ?_
  obtain ⟨f1, hv⟩ := hv
  refine w_putI (pc := 2) C fl_X10_1 rfl rfl dX10_simple_2 (St10_k f1) ?_
  refine w_iload_n (pc := 5) C dX10_simple_5 rfl ?_
  refine w_cS0_1 (pc := 6) C cl_X10_179 ls_X10_isNumber (by decide) dX10_simple_6 (Nat.le_of_ble_eq_true rfl) ((sf_X10_isNumber (h := (si h v0 0 0)) ).mono (fun v h9 hp => ?_))
  obtain ⟨e1, e2⟩ := hp
  rw [e1, e2]
  refine w_if_ne (pc := 9) C (tgt := 14) dX10_simple_9 (by decide) ?_
  obtain ⟨hv1, hv2⟩ := hv
  refine ⟨fun c2 => ?_, fun c2 => ?_⟩
  · have hv := hv1 c2
    refine w_iconst (pc := 14) C (v := 0) dX10_simple_14 (by decide) ?_
    refine w_istore_n (pc := 15) C dX10_simple_15 (by decide) ?_
    refine w_iconst (pc := 16) C (v := 0) dX10_simple_16 (by decide) ?_
    refine w_istore_n (pc := 17) C dX10_simple_17 (by decide) ?_
    refine w_sub ?_ hv
    exact ⟨rfl, rfl, rfl, rfl, trivial⟩
  · have hv := hv2 c2
    refine w_iconst (pc := 12) C (v := (-1)) dX10_simple_12 (by decide) ?_
    exact w_iret (pc := 13) C dX10_simple_13 hv
set_option maxRecDepth 20000 in
set_option maxHeartbeats 2000000 in
theorem V_X10_simple_18 {X : Ctx} (C : C_X10_simple X) {k n : Nat} {Q : Pq} {h : Hp} {v0 : Nat} {v1 v2 v3 : Int32}
    (hv : St10 h v0 ∧ (((gi h (v0 + 3) (ix 3)) ≤ v3 → ((¬ v2 = 0 → S_X10_firstSimple (lX X) (dtX X) 0 0 [.ref v0, .int v1] h (QI fun x3 h2 =>
    St10 h2 v0 ∧ S_X10_enters (lX X) (dtX X) 0 0 [.ref v0, .long (Int32.toInt64 x3)] (si h2 v0 1 0) (QV fun h5 =>
    St10 h5 v0 ∧ inb (23 + x3) 732 ∧ ¬ v1 = 0 ∧ ¬ (gi h5 (v0 + 3) (ix (23 + x3))) = 0 ∧ S_X10_enters (lX X) (dtX X) 0 0 [.ref v0, .long (Int32.toInt64 ((gi h5 (v0 + 3) (ix 0) * gi h5 (v0 + 3) (ix (23 + x3)) / v1) / (gi h5 (v0 + 3) (ix (23 + x3)))))] h5 (QV fun h10 =>
    St10 h10 v0 ∧ inb (23 + x3) 732 ∧ ¬ v1 = 0 ∧ ¬ (gi h10 (v0 + 3) (ix (23 + x3))) = 0 ∧ S_X10_enters (lX X) (dtX X) 0 0 [.ref v0, .long (Int32.toInt64 ((gi h10 (v0 + 3) (ix 0) * gi h10 (v0 + 3) (ix (23 + x3)) / v1) % (gi h10 (v0 + 3) (ix (23 + x3)))))] h10 (QV fun h15 =>
    Q (some (.int v2)) h15))))) ∧
    (v2 = 0 → Q (some (.int (-2))) h))) ∧
    (¬ (gi h (v0 + 3) (ix 3)) ≤ v3 → inb (23 + v3) 732 ∧ ¬ v1 = 0 ∧ Wj X k n Q 18 [(0, .ref v0), (1, .int v1), (2, .int (v2 + (flg (mHs h v0 v3 v1)))), (3, .int (v3 + Int32.ofInt 1))] [] h))) :
    Wj X k n Q 18 [(0, .ref v0), (1, .int v1), (2, .int v2), (3, .int v3)] [] h := by
  refine w_iload_n (pc := 18) C dX10_simple_18 rfl ?_
  refine w_aload_n (pc := 19) C dX10_simple_19 rfl ?_
  obtain ⟨f1, hv⟩ := hv
  refine w_cV0_0 (pc := 20) C cl_X10_156 lv_X10_circles (by decide) dX10_simple_20 (Nat.le_of_ble_eq_true rfl) (c := 10) rfl (St10_k f1) ((sf_X10_circles (h := h) f1).mono (fun v h9 hp => ?_))
  obtain ⟨e1, e2⟩ := hp
  rw [e1, e2]
  refine w_icmp_ge (pc := 23) C (tgt := 44) dX10_simple_23 (by decide) ?_
  obtain ⟨hv1, hv2⟩ := hv
  refine ⟨fun c19 => ?_, fun c19 => ?_⟩
  · have hv := hv1 c19
    refine w_iload_n (pc := 44) C dX10_simple_44 rfl ?_
    refine w_if_ne (pc := 45) C (tgt := 51) dX10_simple_45 (by decide) ?_
    obtain ⟨hv1, hv2⟩ := hv
    refine ⟨fun c16 => ?_, fun c16 => ?_⟩
    · have hv := hv1 c16
      refine w_aload_n (pc := 51) C dX10_simple_51 rfl ?_
      refine w_iload_n (pc := 52) C dX10_simple_52 rfl ?_
      refine w_cV0_1 (pc := 53) C cl_X10_182 lv_X10_firstSimple (by decide) dX10_simple_53 (Nat.le_of_ble_eq_true rfl) (c := 10) rfl (St10_k f1) (hv.mono (fun v h2 hp => ?_))
      obtain ⟨x3, rfl, hv⟩ := hp
      refine w_istore_n (pc := 56) C dX10_simple_56 (by decide) ?_
      refine w_aload_n (pc := 57) C dX10_simple_57 rfl ?_
      refine w_iconst (pc := 58) C (v := 0) dX10_simple_58 (by decide) ?_
      obtain ⟨f4, hv⟩ := hv
      refine w_putI (pc := 59) C fl_X10_11 rfl rfl dX10_simple_59 (St10_k f4) ?_
      refine w_aload_n (pc := 62) C dX10_simple_62 rfl ?_
      refine w_iload_n (pc := 63) C dX10_simple_63 rfl ?_
      refine w_i2l (pc := 64) C dX10_simple_64 ?_
      refine w_cV0_1 (pc := 65) C cl_X10_18 lv_X10_enters (by decide) dX10_simple_65 (Nat.le_of_ble_eq_true rfl) (c := 10) rfl (St10_k f4) (hv.mono (fun v h5 hp => ?_))
      obtain ⟨rfl, hv⟩ := hp
      refine w_aload_n (pc := 68) C dX10_simple_68 rfl ?_
      refine w_aload_n (pc := 69) C dX10_simple_69 rfl ?_
      refine w_iload_n (pc := 70) C dX10_simple_70 rfl ?_
      refine w_iload_n (pc := 71) C dX10_simple_71 rfl ?_
      obtain ⟨f6, hv⟩ := hv
      obtain ⟨f7, hv⟩ := hv
      obtain ⟨f8, hv⟩ := hv
      refine w_cV0_2 (pc := 72) C cl_X10_185 lv_X10_allHoles (by decide) dX10_simple_72 (Nat.le_of_ble_eq_true rfl) (c := 10) rfl (St10_k f6) ((sf_X10_allHoles (h := h5) f6 f7 f8).mono (fun v h9 hp => ?_))
      obtain ⟨e1, e2⟩ := hp
      rw [e1, e2]
      refine w_aload_n (pc := 75) C dX10_simple_75 rfl ?_
      refine w_iload_n (pc := 76) C dX10_simple_76 rfl ?_
      refine w_cV0_1 (pc := 77) C cl_X10_159 lv_X10_holes (by decide) dX10_simple_77 (Nat.le_of_ble_eq_true rfl) (c := 10) rfl (St10_k f6) ((sf_X10_holes (h := h5) f6 f7).mono (fun v h9 hp => ?_))
      obtain ⟨e1, e2⟩ := hp
      rw [e1, e2]
      obtain ⟨f9, hv⟩ := hv
      refine w_idiv (pc := 80) C dX10_simple_80 f9 ?_
      refine w_i2l (pc := 81) C dX10_simple_81 ?_
      refine w_cV0_1 (pc := 82) C cl_X10_18 lv_X10_enters (by decide) dX10_simple_82 (Nat.le_of_ble_eq_true rfl) (c := 10) rfl (St10_k f6) (hv.mono (fun v h10 hp => ?_))
      obtain ⟨rfl, hv⟩ := hp
      refine w_aload_n (pc := 85) C dX10_simple_85 rfl ?_
      refine w_aload_n (pc := 86) C dX10_simple_86 rfl ?_
      refine w_iload_n (pc := 87) C dX10_simple_87 rfl ?_
      refine w_iload_n (pc := 88) C dX10_simple_88 rfl ?_
      obtain ⟨f11, hv⟩ := hv
      obtain ⟨f12, hv⟩ := hv
      obtain ⟨f13, hv⟩ := hv
      refine w_cV0_2 (pc := 89) C cl_X10_185 lv_X10_allHoles (by decide) dX10_simple_89 (Nat.le_of_ble_eq_true rfl) (c := 10) rfl (St10_k f11) ((sf_X10_allHoles (h := h10) f11 f12 f13).mono (fun v h9 hp => ?_))
      obtain ⟨e1, e2⟩ := hp
      rw [e1, e2]
      refine w_aload_n (pc := 92) C dX10_simple_92 rfl ?_
      refine w_iload_n (pc := 93) C dX10_simple_93 rfl ?_
      refine w_cV0_1 (pc := 94) C cl_X10_159 lv_X10_holes (by decide) dX10_simple_94 (Nat.le_of_ble_eq_true rfl) (c := 10) rfl (St10_k f11) ((sf_X10_holes (h := h10) f11 f12).mono (fun v h9 hp => ?_))
      obtain ⟨e1, e2⟩ := hp
      rw [e1, e2]
      obtain ⟨f14, hv⟩ := hv
      refine w_irem (pc := 97) C dX10_simple_97 f14 ?_
      refine w_i2l (pc := 98) C dX10_simple_98 ?_
      refine w_cV0_1 (pc := 99) C cl_X10_18 lv_X10_enters (by decide) dX10_simple_99 (Nat.le_of_ble_eq_true rfl) (c := 10) rfl (St10_k f11) (hv.mono (fun v h15 hp => ?_))
      obtain ⟨rfl, hv⟩ := hp
      refine w_iload_n (pc := 102) C dX10_simple_102 rfl ?_
      exact w_iret (pc := 103) C dX10_simple_103 hv
    · have hv := hv2 c16
      refine w_bipush (pc := 48) C (v := (-2)) dX10_simple_48 (by decide) ?_
      exact w_iret (pc := 50) C dX10_simple_50 hv
  · have hv := hv2 c19
    refine w_iload_n (pc := 26) C dX10_simple_26 rfl ?_
    refine w_aload_n (pc := 27) C dX10_simple_27 rfl ?_
    refine w_iload_n (pc := 28) C dX10_simple_28 rfl ?_
    refine w_iload_n (pc := 29) C dX10_simple_29 rfl ?_
    obtain ⟨f17, hv⟩ := hv
    obtain ⟨f18, hv⟩ := hv
    refine w_cV0_2 (pc := 30) C cl_X10_171 lv_X10_hasSimple (by decide) dX10_simple_30 (Nat.le_of_ble_eq_true rfl) (c := 10) rfl (St10_k f1) ((sf_X10_hasSimple (h := h) f1 f17 f18).mono (fun v h9 hp => ?_))
    obtain ⟨e1, e2⟩ := hp
    rw [e1, e2]
    refine w_cS0_1 (pc := 33) C cl_X10_39 ls_X10_flag (by decide) dX10_simple_33 (Nat.le_of_ble_eq_true rfl) ((sf_X10_flag (h := h) ).mono (fun v h9 hp => ?_))
    obtain ⟨e1, e2⟩ := hp
    rw [e1, e2]
    refine w_iadd (pc := 36) C dX10_simple_36 ?_
    refine w_istore_n (pc := 37) C dX10_simple_37 (by decide) ?_
    refine w_iinc (pc := 38) C dX10_simple_38 rfl (by decide) ?_
    refine w_goto (pc := 41) C (tgt := 18) dX10_simple_41 (by decide) ?_
    refine w_sub ?_ hv
    exact ⟨rfl, rfl, rfl, rfl, trivial⟩
theorem dX9_simple_0 : decode cX9_simple 0 = .ok (.iload_n 1, 1) := by decide +kernel
theorem dX9_simple_1 : decode cX9_simple 1 = .ok (.invokestatic 177, 3) := by decide +kernel
theorem dX9_simple_4 : decode cX9_simple 4 = .ok (.ifCond .ne 5, 3) := by decide +kernel
theorem dX9_simple_7 : decode cX9_simple 7 = .ok (.iconst (-1), 1) := by decide +kernel
theorem dX9_simple_8 : decode cX9_simple 8 = .ok (.ireturn, 1) := by decide +kernel
theorem dX9_simple_9 : decode cX9_simple 9 = .ok (.aload_n 0, 1) := by decide +kernel
theorem dX9_simple_10 : decode cX9_simple 10 = .ok (.getfield 26, 3) := by decide +kernel
theorem dX9_simple_13 : decode cX9_simple 13 = .ok (.aload_n 0, 1) := by decide +kernel
theorem dX9_simple_14 : decode cX9_simple 14 = .ok (.getfield 78, 3) := by decide +kernel
theorem dX9_simple_17 : decode cX9_simple 17 = .ok (.iload_n 1, 1) := by decide +kernel
theorem dX9_simple_18 : decode cX9_simple 18 = .ok (.invokevirtual 180, 3) := by decide +kernel
theorem dX9_simple_21 : decode cX9_simple 21 = .ok (.aload_n 0, 1) := by decide +kernel
theorem dX9_simple_22 : decode cX9_simple 22 = .ok (.getfield 26, 3) := by decide +kernel
theorem dX9_simple_25 : decode cX9_simple 25 = .ok (.getfield 184, 3) := by decide +kernel
theorem dX9_simple_28 : decode cX9_simple 28 = .ok (.ifCond .ne 6, 3) := by decide +kernel
theorem dX9_simple_31 : decode cX9_simple 31 = .ok (.bipush (-2), 2) := by decide +kernel
theorem dX9_simple_33 : decode cX9_simple 33 = .ok (.ireturn, 1) := by decide +kernel
theorem dX9_simple_34 : decode cX9_simple 34 = .ok (.aload_n 0, 1) := by decide +kernel
theorem dX9_simple_35 : decode cX9_simple 35 = .ok (.getfield 19, 3) := by decide +kernel
theorem dX9_simple_38 : decode cX9_simple 38 = .ok (.invokevirtual 158, 3) := by decide +kernel
theorem dX9_simple_41 : decode cX9_simple 41 = .ok (.aload_n 0, 1) := by decide +kernel
theorem dX9_simple_42 : decode cX9_simple 42 = .ok (.getfield 19, 3) := by decide +kernel
theorem dX9_simple_45 : decode cX9_simple 45 = .ok (.aload_n 0, 1) := by decide +kernel
theorem dX9_simple_46 : decode cX9_simple 46 = .ok (.getfield 26, 3) := by decide +kernel
theorem dX9_simple_49 : decode cX9_simple 49 = .ok (.getfield 187, 3) := by decide +kernel
theorem dX9_simple_52 : decode cX9_simple 52 = .ok (.i2l, 1) := by decide +kernel
theorem dX9_simple_53 : decode cX9_simple 53 = .ok (.invokevirtual 164, 3) := by decide +kernel
theorem dX9_simple_56 : decode cX9_simple 56 = .ok (.aload_n 0, 1) := by decide +kernel
theorem dX9_simple_57 : decode cX9_simple 57 = .ok (.getfield 19, 3) := by decide +kernel
theorem dX9_simple_60 : decode cX9_simple 60 = .ok (.aload_n 0, 1) := by decide +kernel
theorem dX9_simple_61 : decode cX9_simple 61 = .ok (.getfield 26, 3) := by decide +kernel
theorem dX9_simple_64 : decode cX9_simple 64 = .ok (.getfield 190, 3) := by decide +kernel
theorem dX9_simple_67 : decode cX9_simple 67 = .ok (.i2l, 1) := by decide +kernel
theorem dX9_simple_68 : decode cX9_simple 68 = .ok (.invokevirtual 164, 3) := by decide +kernel
theorem dX9_simple_71 : decode cX9_simple 71 = .ok (.aload_n 0, 1) := by decide +kernel
theorem dX9_simple_72 : decode cX9_simple 72 = .ok (.getfield 19, 3) := by decide +kernel
theorem dX9_simple_75 : decode cX9_simple 75 = .ok (.aload_n 0, 1) := by decide +kernel
theorem dX9_simple_76 : decode cX9_simple 76 = .ok (.getfield 26, 3) := by decide +kernel
theorem dX9_simple_79 : decode cX9_simple 79 = .ok (.getfield 193, 3) := by decide +kernel
theorem dX9_simple_82 : decode cX9_simple 82 = .ok (.i2l, 1) := by decide +kernel
theorem dX9_simple_83 : decode cX9_simple 83 = .ok (.invokevirtual 164, 3) := by decide +kernel
theorem dX9_simple_86 : decode cX9_simple 86 = .ok (.aload_n 0, 1) := by decide +kernel
theorem dX9_simple_87 : decode cX9_simple 87 = .ok (.getfield 26, 3) := by decide +kernel
theorem dX9_simple_90 : decode cX9_simple 90 = .ok (.getfield 184, 3) := by decide +kernel
theorem dX9_simple_93 : decode cX9_simple 93 = .ok (.ireturn, 1) := by decide +kernel
set_option maxRecDepth 20000 in
set_option maxHeartbeats 2000000 in
theorem V_X9_simple_0 {X : Ctx} (C : C_X9_simple X) {k n : Nat} {Q : Pq} {h : Hp} {v0 : Nat} {v1 : Int32}
    (hv : ((¬ (bt v1 2 400) = 0 → St9 h v0 ∧ nn h v0 12 ∧ S_X6_look (lX X) (dtX X) 0 0 [.ref (v0 + 5), .ref (gp h v0 12), .int v1] h (QV fun h3 =>
    St9 h3 v0 ∧ ((¬ (gi h3 (v0 + 5) 0) = 0 → S_X8_add (lX X) (dtX X) 0 0 [.ref (v0 + 3), .long (Int32.toInt64 (gi (tcl h3 (v0 + 3)) (v0 + 5) 1))] (tcl h3 (v0 + 3)) (QV fun h5 =>
    St9 h5 v0 ∧ S_X8_add (lX X) (dtX X) 0 0 [.ref (v0 + 3), .long (Int32.toInt64 (gi h5 (v0 + 5) 2))] h5 (QV fun h7 =>
    St9 h7 v0 ∧ S_X8_add (lX X) (dtX X) 0 0 [.ref (v0 + 3), .long (Int32.toInt64 (gi h7 (v0 + 5) 3))] h7 (QV fun h9 =>
    St9 h9 v0 ∧ Q (some (.int (gi h9 (v0 + 5) 0))) h9)))) ∧
    ((gi h3 (v0 + 5) 0) = 0 → Q (some (.int (-2))) h3)))) ∧
    ((bt v1 2 400) = 0 → Q (some (.int (-1))) h))) :
    Wj X k n Q 0 [(0, .ref v0), (1, .int v1)] [] h := by
  refine w_iload_n (pc := 0) C dX9_simple_0 rfl ?_
  refine w_cS0_1 (pc := 1) C cl_X9_177 ls_X9_isParts (by decide) dX9_simple_1 (Nat.le_of_ble_eq_true rfl) ((sf_X9_isParts (h := h) ).mono (fun v h9 hp => ?_))
  obtain ⟨e1, e2⟩ := hp
  rw [e1, e2]
  refine w_if_ne (pc := 4) C (tgt := 9) dX9_simple_4 (by decide) ?_
  obtain ⟨hv1, hv2⟩ := hv
  refine ⟨fun c12 => ?_, fun c12 => ?_⟩
  · have hv := hv1 c12
    refine w_aload_n (pc := 9) C dX9_simple_9 rfl ?_
    obtain ⟨f1, hv⟩ := hv
    refine w_getR (pc := 10) C fl_X9_26 rfl dX9_simple_10 (St9_k f1) (St9_r2 f1) ?_
    refine w_aload_n (pc := 13) C dX9_simple_13 rfl ?_
    obtain ⟨f2, hv⟩ := hv
    refine w_getR (pc := 14) C fl_X9_78 rfl dX9_simple_14 (St9_k f1) f2 ?_
    refine w_iload_n (pc := 17) C dX9_simple_17 rfl ?_
    refine w_cV0_2 (pc := 18) C cl_X9_180 lv_X6_look (by decide) dX9_simple_18 (Nat.le_of_ble_eq_true rfl) (c := 6) rfl (St9_k2 f1) (hv.mono (fun v h3 hp => ?_))
    obtain ⟨rfl, hv⟩ := hp
    refine w_aload_n (pc := 21) C dX9_simple_21 rfl ?_
    obtain ⟨f4, hv⟩ := hv
    refine w_getR (pc := 22) C fl_X9_26 rfl dX9_simple_22 (St9_k f4) (St9_r2 f4) ?_
    refine w_getI (pc := 25) C fl_X9_184 rfl dX9_simple_25 (St9_k2 f4) ?_
    refine w_if_ne (pc := 28) C (tgt := 34) dX9_simple_28 (by decide) ?_
    obtain ⟨hv1, hv2⟩ := hv
    refine ⟨fun c11 => ?_, fun c11 => ?_⟩
    · have hv := hv1 c11
      refine w_aload_n (pc := 34) C dX9_simple_34 rfl ?_
      refine w_getR (pc := 35) C fl_X9_19 rfl dX9_simple_35 (St9_k f4) (St9_r1 f4) ?_
      refine w_cV0_0 (pc := 38) C cl_X9_158 lv_X8_clear (by decide) dX9_simple_38 (Nat.le_of_ble_eq_true rfl) (c := 8) rfl (St8_k (St9_s1 f4)) ((sf_X8_clear (h := h3) (St9_s1 f4)).mono (fun v h9 hp => ?_))
      obtain ⟨e1, e2⟩ := hp
      rw [e1, e2]
      refine w_aload_n (pc := 41) C dX9_simple_41 rfl ?_
      refine w_getR (pc := 42) C fl_X9_19 rfl dX9_simple_42 (St9_k f4) (St9_r1 f4) ?_
      refine w_aload_n (pc := 45) C dX9_simple_45 rfl ?_
      refine w_getR (pc := 46) C fl_X9_26 rfl dX9_simple_46 (St9_k f4) (St9_r2 f4) ?_
      refine w_getI (pc := 49) C fl_X9_187 rfl dX9_simple_49 (St9_k2 f4) ?_
      refine w_i2l (pc := 52) C dX9_simple_52 ?_
      refine w_cV0_1 (pc := 53) C cl_X9_164 lv_X8_add (by decide) dX9_simple_53 (Nat.le_of_ble_eq_true rfl) (c := 8) rfl (St8_k (St9_s1 f4)) (hv.mono (fun v h5 hp => ?_))
      obtain ⟨rfl, hv⟩ := hp
      refine w_aload_n (pc := 56) C dX9_simple_56 rfl ?_
      obtain ⟨f6, hv⟩ := hv
      refine w_getR (pc := 57) C fl_X9_19 rfl dX9_simple_57 (St9_k f6) (St9_r1 f6) ?_
      refine w_aload_n (pc := 60) C dX9_simple_60 rfl ?_
      refine w_getR (pc := 61) C fl_X9_26 rfl dX9_simple_61 (St9_k f6) (St9_r2 f6) ?_
      refine w_getI (pc := 64) C fl_X9_190 rfl dX9_simple_64 (St9_k2 f6) ?_
      refine w_i2l (pc := 67) C dX9_simple_67 ?_
      refine w_cV0_1 (pc := 68) C cl_X9_164 lv_X8_add (by decide) dX9_simple_68 (Nat.le_of_ble_eq_true rfl) (c := 8) rfl (St8_k (St9_s1 f6)) (hv.mono (fun v h7 hp => ?_))
      obtain ⟨rfl, hv⟩ := hp
      refine w_aload_n (pc := 71) C dX9_simple_71 rfl ?_
      obtain ⟨f8, hv⟩ := hv
      refine w_getR (pc := 72) C fl_X9_19 rfl dX9_simple_72 (St9_k f8) (St9_r1 f8) ?_
      refine w_aload_n (pc := 75) C dX9_simple_75 rfl ?_
      refine w_getR (pc := 76) C fl_X9_26 rfl dX9_simple_76 (St9_k f8) (St9_r2 f8) ?_
      refine w_getI (pc := 79) C fl_X9_193 rfl dX9_simple_79 (St9_k2 f8) ?_
      refine w_i2l (pc := 82) C dX9_simple_82 ?_
      refine w_cV0_1 (pc := 83) C cl_X9_164 lv_X8_add (by decide) dX9_simple_83 (Nat.le_of_ble_eq_true rfl) (c := 8) rfl (St8_k (St9_s1 f8)) (hv.mono (fun v h9 hp => ?_))
      obtain ⟨rfl, hv⟩ := hp
      refine w_aload_n (pc := 86) C dX9_simple_86 rfl ?_
      obtain ⟨f10, hv⟩ := hv
      refine w_getR (pc := 87) C fl_X9_26 rfl dX9_simple_87 (St9_k f10) (St9_r2 f10) ?_
      refine w_getI (pc := 90) C fl_X9_184 rfl dX9_simple_90 (St9_k2 f10) ?_
      exact w_iret (pc := 93) C dX9_simple_93 hv
    · have hv := hv2 c11
      refine w_bipush (pc := 31) C (v := (-2)) dX9_simple_31 (by decide) ?_
      exact w_iret (pc := 33) C dX9_simple_33 hv
  · have hv := hv2 c12
    refine w_iconst (pc := 7) C (v := (-1)) dX9_simple_7 (by decide) ?_
    exact w_iret (pc := 8) C dX9_simple_8 hv
