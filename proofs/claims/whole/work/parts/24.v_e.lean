-- Head: acts (by program: gen_parts.py)
theorem dX4_atFirst_0 : decode cX4_atFirst 0 = .ok (.aload_n 0, 1) := by decide +kernel
theorem dX4_atFirst_1 : decode cX4_atFirst 1 = .ok (.iconst 0, 1) := by decide +kernel
theorem dX4_atFirst_2 : decode cX4_atFirst 2 = .ok (.putfield 27, 3) := by decide +kernel
theorem dX4_atFirst_5 : decode cX4_atFirst 5 = .ok (.aload_n 0, 1) := by decide +kernel
theorem dX4_atFirst_6 : decode cX4_atFirst 6 = .ok (.invokevirtual 95, 3) := by decide +kernel
theorem dX4_atFirst_9 : decode cX4_atFirst 9 = .ok (.pop, 1) := by decide +kernel
theorem dX4_atFirst_10 : decode cX4_atFirst 10 = .ok (.aload_n 0, 1) := by decide +kernel
theorem dX4_atFirst_11 : decode cX4_atFirst 11 = .ok (.invokevirtual 99, 3) := by decide +kernel
theorem dX4_atFirst_14 : decode cX4_atFirst 14 = .ok (.pop, 1) := by decide +kernel
theorem dX4_atFirst_15 : decode cX4_atFirst 15 = .ok (.return_, 1) := by decide +kernel
set_option maxRecDepth 20000 in
set_option maxHeartbeats 2000000 in
theorem V_X4_atFirst_0 {X : Ctx} (C : C_X4_atFirst X) {k n : Nat} {Q : Pq} {h : Hp} {v0 : Nat}
    (hv : St4 h v0 ∧ S_X4_takeOut (lX X) (dtX X) 0 0 [.ref v0] (si h v0 5 0) (QI fun x3 h2 =>
    St4 h2 v0 ∧ S_X4_wipeAll (lX X) (dtX X) 0 0 [.ref v0] h2 (QI fun x6 h5 =>
    Q none h5))) :
    Wj X k n Q 0 [(0, .ref v0)] [] h := by
  refine w_aload_n (pc := 0) C dX4_atFirst_0 rfl ?_
  refine w_iconst (pc := 1) C (v := 0) dX4_atFirst_1 (by decide) ?_
  obtain ⟨f1, hv⟩ := hv
  refine w_putI (pc := 2) C fl_X4_27 rfl rfl dX4_atFirst_2 (St4_k f1) ?_
  refine w_aload_n (pc := 5) C dX4_atFirst_5 rfl ?_
  refine w_cV0_0 (pc := 6) C cl_X4_95 lv_X4_takeOut (by decide) dX4_atFirst_6 (Nat.le_of_ble_eq_true rfl) (c := 4) rfl (St4_k f1) (hv.mono (fun v h2 hp => ?_))
  obtain ⟨x3, rfl, hv⟩ := hp
  refine w_pop (pc := 9) C dX4_atFirst_9 rfl ?_
  refine w_aload_n (pc := 10) C dX4_atFirst_10 rfl ?_
  obtain ⟨f4, hv⟩ := hv
  refine w_cV0_0 (pc := 11) C cl_X4_99 lv_X4_wipeAll (by decide) dX4_atFirst_11 (Nat.le_of_ble_eq_true rfl) (c := 4) rfl (St4_k f4) (hv.mono (fun v h5 hp => ?_))
  obtain ⟨x6, rfl, hv⟩ := hp
  refine w_pop (pc := 14) C dX4_atFirst_14 rfl ?_
  exact w_vret (pc := 15) C dX4_atFirst_15 hv
theorem dX4_choose_0 : decode cX4_choose 0 = .ok (.aload_n 0, 1) := by decide +kernel
theorem dX4_choose_1 : decode cX4_choose 1 = .ok (.iload_n 1, 1) := by decide +kernel
theorem dX4_choose_2 : decode cX4_choose 2 = .ok (.invokevirtual 102, 3) := by decide +kernel
theorem dX4_choose_5 : decode cX4_choose 5 = .ok (.ifCond .ne 5, 3) := by decide +kernel
theorem dX4_choose_8 : decode cX4_choose 8 = .ok (.iconst (-1), 1) := by decide +kernel
theorem dX4_choose_9 : decode cX4_choose 9 = .ok (.ireturn, 1) := by decide +kernel
theorem dX4_choose_10 : decode cX4_choose 10 = .ok (.iload_n 1, 1) := by decide +kernel
theorem dX4_choose_11 : decode cX4_choose 11 = .ok (.aload_n 0, 1) := by decide +kernel
theorem dX4_choose_12 : decode cX4_choose 12 = .ok (.getfield 27, 3) := by decide +kernel
theorem dX4_choose_15 : decode cX4_choose 15 = .ok (.if_icmp .ne 6, 3) := by decide +kernel
theorem dX4_choose_18 : decode cX4_choose 18 = .ok (.bipush (-2), 2) := by decide +kernel
theorem dX4_choose_20 : decode cX4_choose 20 = .ok (.ireturn, 1) := by decide +kernel
theorem dX4_choose_21 : decode cX4_choose 21 = .ok (.aload_n 0, 1) := by decide +kernel
theorem dX4_choose_22 : decode cX4_choose 22 = .ok (.getfield 27, 3) := by decide +kernel
theorem dX4_choose_25 : decode cX4_choose 25 = .ok (.istore_n 2, 1) := by decide +kernel
theorem dX4_choose_26 : decode cX4_choose 26 = .ok (.aload_n 0, 1) := by decide +kernel
theorem dX4_choose_27 : decode cX4_choose 27 = .ok (.iload_n 1, 1) := by decide +kernel
theorem dX4_choose_28 : decode cX4_choose 28 = .ok (.putfield 27, 3) := by decide +kernel
theorem dX4_choose_31 : decode cX4_choose 31 = .ok (.iload_n 2, 1) := by decide +kernel
theorem dX4_choose_32 : decode cX4_choose 32 = .ok (.ireturn, 1) := by decide +kernel
set_option maxRecDepth 20000 in
set_option maxHeartbeats 2000000 in
theorem V_X4_choose_0 {X : Ctx} (C : C_X4_choose X) {k n : Nat} {Q : Pq} {h : Hp} {v0 : Nat} {v1 : Int32}
    (hv : St4 h v0 ∧ ((¬ (hIs h v0 3 v1) = 0 → ((¬ v1 = (gi h v0 5) → Q (some (.int (gi h v0 5))) (si h v0 5 v1)) ∧
    (v1 = (gi h v0 5) → Q (some (.int (-2))) h))) ∧
    ((hIs h v0 3 v1) = 0 → Q (some (.int (-1))) h))) :
    Wj X k n Q 0 [(0, .ref v0), (1, .int v1)] [] h := by
  refine w_aload_n (pc := 0) C dX4_choose_0 rfl ?_
  refine w_iload_n (pc := 1) C dX4_choose_1 rfl ?_
  obtain ⟨f1, hv⟩ := hv
  refine w_cV0_1 (pc := 2) C cl_X4_102 lv_X4_isCircle (by decide) dX4_choose_2 (Nat.le_of_ble_eq_true rfl) (c := 4) rfl (St4_k f1) ((sf_X4_isCircle (h := h) f1).mono (fun v h9 hp => ?_))
  obtain ⟨e1, e2⟩ := hp
  rw [e1, e2]
  refine w_if_ne (pc := 5) C (tgt := 10) dX4_choose_5 (by decide) ?_
  obtain ⟨hv1, hv2⟩ := hv
  refine ⟨fun c3 => ?_, fun c3 => ?_⟩
  · have hv := hv1 c3
    refine w_iload_n (pc := 10) C dX4_choose_10 rfl ?_
    refine w_aload_n (pc := 11) C dX4_choose_11 rfl ?_
    refine w_getI (pc := 12) C fl_X4_27 rfl dX4_choose_12 (St4_k f1) ?_
    refine w_icmp_ne (pc := 15) C (tgt := 21) dX4_choose_15 (by decide) ?_
    obtain ⟨hv1, hv2⟩ := hv
    refine ⟨fun c2 => ?_, fun c2 => ?_⟩
    · have hv := hv1 c2
      refine w_aload_n (pc := 21) C dX4_choose_21 rfl ?_
      refine w_getI (pc := 22) C fl_X4_27 rfl dX4_choose_22 (St4_k f1) ?_
      refine w_istore_n (pc := 25) C dX4_choose_25 (by decide) ?_
      refine w_aload_n (pc := 26) C dX4_choose_26 rfl ?_
      refine w_iload_n (pc := 27) C dX4_choose_27 rfl ?_
      refine w_putI (pc := 28) C fl_X4_27 rfl rfl dX4_choose_28 (St4_k f1) ?_
      refine w_iload_n (pc := 31) C dX4_choose_31 rfl ?_
      exact w_iret (pc := 32) C dX4_choose_32 hv
    · have hv := hv2 c2
      refine w_bipush (pc := 18) C (v := (-2)) dX4_choose_18 (by decide) ?_
      exact w_iret (pc := 20) C dX4_choose_20 hv
  · have hv := hv2 c3
    refine w_iconst (pc := 8) C (v := (-1)) dX4_choose_8 (by decide) ?_
    exact w_iret (pc := 9) C dX4_choose_9 hv
theorem dX4_setTo_0 : decode cX4_setTo 0 = .ok (.iload_n 1, 1) := by decide +kernel
theorem dX4_setTo_1 : decode cX4_setTo 1 = .ok (.ifCond .ne 13, 3) := by decide +kernel
theorem dX4_setTo_4 : decode cX4_setTo 4 = .ok (.iload_n 2, 1) := by decide +kernel
theorem dX4_setTo_5 : decode cX4_setTo 5 = .ok (.iconst 1, 1) := by decide +kernel
theorem dX4_setTo_6 : decode cX4_setTo 6 = .ok (.bipush 120, 2) := by decide +kernel
theorem dX4_setTo_8 : decode cX4_setTo 8 = .ok (.invokestatic 112, 3) := by decide +kernel
theorem dX4_setTo_11 : decode cX4_setTo 11 = .ok (.ifCond .ne 19, 3) := by decide +kernel
theorem dX4_setTo_14 : decode cX4_setTo 14 = .ok (.iload_n 1, 1) := by decide +kernel
theorem dX4_setTo_15 : decode cX4_setTo 15 = .ok (.iconst 1, 1) := by decide +kernel
theorem dX4_setTo_16 : decode cX4_setTo 16 = .ok (.if_icmp .ne 18, 3) := by decide +kernel
theorem dX4_setTo_19 : decode cX4_setTo 19 = .ok (.iload_n 2, 1) := by decide +kernel
theorem dX4_setTo_20 : decode cX4_setTo 20 = .ok (.bipush 10, 2) := by decide +kernel
theorem dX4_setTo_22 : decode cX4_setTo 22 = .ok (.bipush 100, 2) := by decide +kernel
theorem dX4_setTo_24 : decode cX4_setTo 24 = .ok (.invokestatic 112, 3) := by decide +kernel
theorem dX4_setTo_27 : decode cX4_setTo 27 = .ok (.ifCond .eq 7, 3) := by decide +kernel
theorem dX4_setTo_30 : decode cX4_setTo 30 = .ok (.iconst 1, 1) := by decide +kernel
theorem dX4_setTo_31 : decode cX4_setTo 31 = .ok (.goto 4, 3) := by decide +kernel
theorem dX4_setTo_34 : decode cX4_setTo 34 = .ok (.iconst 0, 1) := by decide +kernel
theorem dX4_setTo_35 : decode cX4_setTo 35 = .ok (.istore_n 3, 1) := by decide +kernel
theorem dX4_setTo_36 : decode cX4_setTo 36 = .ok (.iload_n 3, 1) := by decide +kernel
theorem dX4_setTo_37 : decode cX4_setTo 37 = .ok (.ifCond .ne 5, 3) := by decide +kernel
theorem dX4_setTo_40 : decode cX4_setTo 40 = .ok (.iconst (-1), 1) := by decide +kernel
theorem dX4_setTo_41 : decode cX4_setTo 41 = .ok (.ireturn, 1) := by decide +kernel
theorem dX4_setTo_42 : decode cX4_setTo 42 = .ok (.iload_n 1, 1) := by decide +kernel
theorem dX4_setTo_43 : decode cX4_setTo 43 = .ok (.ifCond .ne 10, 3) := by decide +kernel
theorem dX4_setTo_46 : decode cX4_setTo 46 = .ok (.aload_n 0, 1) := by decide +kernel
theorem dX4_setTo_47 : decode cX4_setTo 47 = .ok (.getfield 9, 3) := by decide +kernel
theorem dX4_setTo_50 : decode cX4_setTo 50 = .ok (.goto 7, 3) := by decide +kernel
theorem dX4_setTo_53 : decode cX4_setTo 53 = .ok (.aload_n 0, 1) := by decide +kernel
theorem dX4_setTo_54 : decode cX4_setTo 54 = .ok (.getfield 15, 3) := by decide +kernel
theorem dX4_setTo_57 : decode cX4_setTo 57 = .ok (.istore 4, 2) := by decide +kernel
theorem dX4_setTo_59 : decode cX4_setTo 59 = .ok (.iload_n 2, 1) := by decide +kernel
theorem dX4_setTo_60 : decode cX4_setTo 60 = .ok (.iload 4, 2) := by decide +kernel
theorem dX4_setTo_62 : decode cX4_setTo 62 = .ok (.if_icmp .ne 6, 3) := by decide +kernel
theorem dX4_setTo_65 : decode cX4_setTo 65 = .ok (.bipush (-2), 2) := by decide +kernel
theorem dX4_setTo_67 : decode cX4_setTo 67 = .ok (.ireturn, 1) := by decide +kernel
theorem dX4_setTo_68 : decode cX4_setTo 68 = .ok (.iload_n 1, 1) := by decide +kernel
theorem dX4_setTo_69 : decode cX4_setTo 69 = .ok (.ifCond .ne 11, 3) := by decide +kernel
theorem dX4_setTo_72 : decode cX4_setTo 72 = .ok (.aload_n 0, 1) := by decide +kernel
theorem dX4_setTo_73 : decode cX4_setTo 73 = .ok (.iload_n 2, 1) := by decide +kernel
theorem dX4_setTo_74 : decode cX4_setTo 74 = .ok (.putfield 9, 3) := by decide +kernel
theorem dX4_setTo_77 : decode cX4_setTo 77 = .ok (.goto 8, 3) := by decide +kernel
theorem dX4_setTo_80 : decode cX4_setTo 80 = .ok (.aload_n 0, 1) := by decide +kernel
theorem dX4_setTo_81 : decode cX4_setTo 81 = .ok (.iload_n 2, 1) := by decide +kernel
theorem dX4_setTo_82 : decode cX4_setTo 82 = .ok (.putfield 15, 3) := by decide +kernel
theorem dX4_setTo_85 : decode cX4_setTo 85 = .ok (.aload_n 0, 1) := by decide +kernel
theorem dX4_setTo_86 : decode cX4_setTo 86 = .ok (.invokevirtual 116, 3) := by decide +kernel
theorem dX4_setTo_89 : decode cX4_setTo 89 = .ok (.iload 4, 2) := by decide +kernel
theorem dX4_setTo_91 : decode cX4_setTo 91 = .ok (.ireturn, 1) := by decide +kernel
set_option maxRecDepth 20000 in
set_option maxHeartbeats 2000000 in
theorem V_X4_setTo_0 {X : Ctx} (C : C_X4_setTo X) {k n : Nat} {Q : Pq} {h : Hp} {v0 : Nat} {v1 v2 : Int32}
    (hv : ((¬ v1 = 0 → Wj X k n Q 14 [(0, .ref v0), (1, .int v1), (2, .int v2)] [] h) ∧
    (v1 = 0 → ((¬ (bt v2 1 120) = 0 → Wj X k n Q 35 [(0, .ref v0), (1, .int v1), (2, .int v2)] [.int 1] h) ∧
    ((bt v2 1 120) = 0 → Wj X k n Q 14 [(0, .ref v0), (1, .int v1), (2, .int v2)] [] h))))) :
    Wj X k n Q 0 [(0, .ref v0), (1, .int v1), (2, .int v2)] [] h := by
  refine w_iload_n (pc := 0) C dX4_setTo_0 rfl ?_
  refine w_if_ne (pc := 1) C (tgt := 14) dX4_setTo_1 (by decide) ?_
  obtain ⟨hv1, hv2⟩ := hv
  refine ⟨fun c2 => ?_, fun c2 => ?_⟩
  · have hv := hv1 c2
    refine w_sub ?_ hv
    exact ⟨rfl, rfl, rfl, trivial⟩
  · have hv := hv2 c2
    refine w_iload_n (pc := 4) C dX4_setTo_4 rfl ?_
    refine w_iconst (pc := 5) C (v := 1) dX4_setTo_5 (by decide) ?_
    refine w_bipush (pc := 6) C (v := 120) dX4_setTo_6 (by decide) ?_
    refine w_cSN0_3 (pc := 8) C cl_X4_112 ls_X9_isBetween (by decide) dX4_setTo_8 (Nat.le_of_ble_eq_true rfl) ((sf_X9_isBetween (h := h) ).mono (fun v h9 hp => ?_))
    obtain ⟨e1, e2⟩ := hp
    rw [e1, e2]
    refine w_if_ne (pc := 11) C (tgt := 30) dX4_setTo_11 (by decide) ?_
    obtain ⟨hv1, hv2⟩ := hv
    refine ⟨fun c1 => ?_, fun c1 => ?_⟩
    · have hv := hv1 c1
      refine w_iconst (pc := 30) C (v := 1) dX4_setTo_30 (by decide) ?_
      refine w_goto (pc := 31) C (tgt := 35) dX4_setTo_31 (by decide) ?_
      refine w_sub ?_ hv
      exact ⟨rfl, rfl, rfl, trivial⟩
    · have hv := hv2 c1
      refine w_sub ?_ hv
      exact ⟨rfl, rfl, rfl, trivial⟩
set_option maxRecDepth 20000 in
set_option maxHeartbeats 2000000 in
theorem V_X4_setTo_14 {X : Ctx} (C : C_X4_setTo X) {k n : Nat} {Q : Pq} {h : Hp} {v0 : Nat} {v1 v2 : Int32}
    (hv : ((¬ v1 = 1 → Wj X k n Q 35 [(0, .ref v0), (1, .int v1), (2, .int v2)] [.int 0] h) ∧
    (v1 = 1 → (((bt v2 10 100) = 0 → Wj X k n Q 35 [(0, .ref v0), (1, .int v1), (2, .int v2)] [.int 0] h) ∧
    (¬ (bt v2 10 100) = 0 → Wj X k n Q 35 [(0, .ref v0), (1, .int v1), (2, .int v2)] [.int 1] h))))) :
    Wj X k n Q 14 [(0, .ref v0), (1, .int v1), (2, .int v2)] [] h := by
  refine w_iload_n (pc := 14) C dX4_setTo_14 rfl ?_
  refine w_iconst (pc := 15) C (v := 1) dX4_setTo_15 (by decide) ?_
  refine w_icmp_ne (pc := 16) C (tgt := 34) dX4_setTo_16 (by decide) ?_
  obtain ⟨hv1, hv2⟩ := hv
  refine ⟨fun c2 => ?_, fun c2 => ?_⟩
  · have hv := hv1 c2
    refine w_iconst (pc := 34) C (v := 0) dX4_setTo_34 (by decide) ?_
    refine w_sub ?_ hv
    exact ⟨rfl, rfl, rfl, trivial⟩
  · have hv := hv2 c2
    refine w_iload_n (pc := 19) C dX4_setTo_19 rfl ?_
    refine w_bipush (pc := 20) C (v := 10) dX4_setTo_20 (by decide) ?_
    refine w_bipush (pc := 22) C (v := 100) dX4_setTo_22 (by decide) ?_
    refine w_cSN0_3 (pc := 24) C cl_X4_112 ls_X9_isBetween (by decide) dX4_setTo_24 (Nat.le_of_ble_eq_true rfl) ((sf_X9_isBetween (h := h) ).mono (fun v h9 hp => ?_))
    obtain ⟨e1, e2⟩ := hp
    rw [e1, e2]
    refine w_if_eq (pc := 27) C (tgt := 34) dX4_setTo_27 (by decide) ?_
    obtain ⟨hv1, hv2⟩ := hv
    refine ⟨fun c1 => ?_, fun c1 => ?_⟩
    · have hv := hv1 c1
      refine w_iconst (pc := 34) C (v := 0) dX4_setTo_34 (by decide) ?_
      refine w_sub ?_ hv
      exact ⟨rfl, rfl, rfl, trivial⟩
    · have hv := hv2 c1
      refine w_iconst (pc := 30) C (v := 1) dX4_setTo_30 (by decide) ?_
      refine w_goto (pc := 31) C (tgt := 35) dX4_setTo_31 (by decide) ?_
      refine w_sub ?_ hv
      exact ⟨rfl, rfl, rfl, trivial⟩
set_option maxRecDepth 20000 in
set_option maxHeartbeats 2000000 in
theorem V_X4_setTo_35 {X : Ctx} (C : C_X4_setTo X) {k n : Nat} {Q : Pq} {h : Hp} {v0 : Nat} {v1 v2 s0 : Int32}
    (hv : ((¬ s0 = 0 → ((¬ v1 = 0 → St4 h v0 ∧ Wj X k n Q 57 [(0, .ref v0), (1, .int v1), (2, .int v2)] [.int (gi h v0 1)] h) ∧
    (v1 = 0 → St4 h v0 ∧ Wj X k n Q 57 [(0, .ref v0), (1, .int v1), (2, .int v2)] [.int (gi h v0 0)] h))) ∧
    (s0 = 0 → Q (some (.int (-1))) h))) :
    Wj X k n Q 35 [(0, .ref v0), (1, .int v1), (2, .int v2)] [.int s0] h := by
  refine w_istore_n (pc := 35) C dX4_setTo_35 (by decide) ?_
  refine w_iload_n (pc := 36) C dX4_setTo_36 rfl ?_
  refine w_if_ne (pc := 37) C (tgt := 42) dX4_setTo_37 (by decide) ?_
  obtain ⟨hv1, hv2⟩ := hv
  refine ⟨fun c4 => ?_, fun c4 => ?_⟩
  · have hv := hv1 c4
    refine w_iload_n (pc := 42) C dX4_setTo_42 rfl ?_
    refine w_if_ne (pc := 43) C (tgt := 53) dX4_setTo_43 (by decide) ?_
    obtain ⟨hv1, hv2⟩ := hv
    refine ⟨fun c3 => ?_, fun c3 => ?_⟩
    · have hv := hv1 c3
      refine w_aload_n (pc := 53) C dX4_setTo_53 rfl ?_
      obtain ⟨f1, hv⟩ := hv
      refine w_getI (pc := 54) C fl_X4_15 rfl dX4_setTo_54 (St4_k f1) ?_
      refine w_sub ?_ hv
      exact ⟨rfl, rfl, rfl, trivial⟩
    · have hv := hv2 c3
      refine w_aload_n (pc := 46) C dX4_setTo_46 rfl ?_
      obtain ⟨f2, hv⟩ := hv
      refine w_getI (pc := 47) C fl_X4_9 rfl dX4_setTo_47 (St4_k f2) ?_
      refine w_goto (pc := 50) C (tgt := 57) dX4_setTo_50 (by decide) ?_
      refine w_sub ?_ hv
      exact ⟨rfl, rfl, rfl, trivial⟩
  · have hv := hv2 c4
    refine w_iconst (pc := 40) C (v := (-1)) dX4_setTo_40 (by decide) ?_
    exact w_iret (pc := 41) C dX4_setTo_41 hv
set_option maxRecDepth 20000 in
set_option maxHeartbeats 2000000 in
theorem V_X4_setTo_57 {X : Ctx} (C : C_X4_setTo X) {k n : Nat} {Q : Pq} {h : Hp} {v0 : Nat} {v1 v2 s0 : Int32}
    (hv : ((¬ v2 = s0 → ((¬ v1 = 0 → St4 h v0 ∧ Wj X k n Q 85 [(0, .ref v0), (4, .int s0)] [] (si h v0 1 v2)) ∧
    (v1 = 0 → St4 h v0 ∧ Wj X k n Q 85 [(0, .ref v0), (4, .int s0)] [] (si h v0 0 v2)))) ∧
    (v2 = s0 → Q (some (.int (-2))) h))) :
    Wj X k n Q 57 [(0, .ref v0), (1, .int v1), (2, .int v2)] [.int s0] h := by
  refine w_istore (pc := 57) C dX4_setTo_57 (by decide) ?_
  refine w_iload_n (pc := 59) C dX4_setTo_59 rfl ?_
  refine w_iload (pc := 60) C dX4_setTo_60 rfl ?_
  refine w_icmp_ne (pc := 62) C (tgt := 68) dX4_setTo_62 (by decide) ?_
  obtain ⟨hv1, hv2⟩ := hv
  refine ⟨fun c4 => ?_, fun c4 => ?_⟩
  · have hv := hv1 c4
    refine w_iload_n (pc := 68) C dX4_setTo_68 rfl ?_
    refine w_if_ne (pc := 69) C (tgt := 80) dX4_setTo_69 (by decide) ?_
    obtain ⟨hv1, hv2⟩ := hv
    refine ⟨fun c3 => ?_, fun c3 => ?_⟩
    · have hv := hv1 c3
      refine w_aload_n (pc := 80) C dX4_setTo_80 rfl ?_
      refine w_iload_n (pc := 81) C dX4_setTo_81 rfl ?_
      obtain ⟨f1, hv⟩ := hv
      refine w_putI (pc := 82) C fl_X4_15 rfl rfl dX4_setTo_82 (St4_k f1) ?_
      refine w_sub ?_ hv
      exact ⟨rfl, rfl, trivial⟩
    · have hv := hv2 c3
      refine w_aload_n (pc := 72) C dX4_setTo_72 rfl ?_
      refine w_iload_n (pc := 73) C dX4_setTo_73 rfl ?_
      obtain ⟨f2, hv⟩ := hv
      refine w_putI (pc := 74) C fl_X4_9 rfl rfl dX4_setTo_74 (St4_k f2) ?_
      refine w_goto (pc := 77) C (tgt := 85) dX4_setTo_77 (by decide) ?_
      refine w_sub ?_ hv
      exact ⟨rfl, rfl, trivial⟩
  · have hv := hv2 c4
    refine w_bipush (pc := 65) C (v := (-2)) dX4_setTo_65 (by decide) ?_
    exact w_iret (pc := 67) C dX4_setTo_67 hv
set_option maxRecDepth 20000 in
set_option maxHeartbeats 2000000 in
theorem V_X4_setTo_85 {X : Ctx} (C : C_X4_setTo X) {k n : Nat} {Q : Pq} {h : Hp} {v0 : Nat} {v4 : Int32}
    (hv : St4 h v0 ∧ S_X4_atFirst (lX X) (dtX X) 0 0 [.ref v0] h (QV fun h2 =>
    Q (some (.int v4)) h2)) :
    Wj X k n Q 85 [(0, .ref v0), (4, .int v4)] [] h := by
  refine w_aload_n (pc := 85) C dX4_setTo_85 rfl ?_
  obtain ⟨f1, hv⟩ := hv
  refine w_cV0_0 (pc := 86) C cl_X4_116 lv_X4_atFirst (by decide) dX4_setTo_86 (Nat.le_of_ble_eq_true rfl) (c := 4) rfl (St4_k f1) (hv.mono (fun v h2 hp => ?_))
  obtain ⟨rfl, hv⟩ := hp
  refine w_iload (pc := 89) C dX4_setTo_89 rfl ?_
  exact w_iret (pc := 91) C dX4_setTo_91 hv
theorem dX4_putIn_0 : decode cX4_putIn 0 = .ok (.iload_n 3, 1) := by decide +kernel
theorem dX4_putIn_1 : decode cX4_putIn 1 = .ok (.iconst (-1), 1) := by decide +kernel
theorem dX4_putIn_2 : decode cX4_putIn 2 = .ok (.if_icmp .ne 13, 3) := by decide +kernel
theorem dX4_putIn_5 : decode cX4_putIn 5 = .ok (.iload 4, 2) := by decide +kernel
theorem dX4_putIn_7 : decode cX4_putIn 7 = .ok (.iconst (-1), 1) := by decide +kernel
theorem dX4_putIn_8 : decode cX4_putIn 8 = .ok (.if_icmp .ne 7, 3) := by decide +kernel
theorem dX4_putIn_11 : decode cX4_putIn 11 = .ok (.iconst 1, 1) := by decide +kernel
theorem dX4_putIn_12 : decode cX4_putIn 12 = .ok (.goto 4, 3) := by decide +kernel
theorem dX4_putIn_15 : decode cX4_putIn 15 = .ok (.iconst 0, 1) := by decide +kernel
theorem dX4_putIn_16 : decode cX4_putIn 16 = .ok (.istore 6, 2) := by decide +kernel
theorem dX4_putIn_18 : decode cX4_putIn 18 = .ok (.iload 5, 2) := by decide +kernel
theorem dX4_putIn_20 : decode cX4_putIn 20 = .ok (.iconst 1, 1) := by decide +kernel
theorem dX4_putIn_21 : decode cX4_putIn 21 = .ok (.if_icmp .eq 9, 3) := by decide +kernel
theorem dX4_putIn_24 : decode cX4_putIn 24 = .ok (.iload 5, 2) := by decide +kernel
theorem dX4_putIn_26 : decode cX4_putIn 26 = .ok (.iconst (-1), 1) := by decide +kernel
theorem dX4_putIn_27 : decode cX4_putIn 27 = .ok (.if_icmp .ne 12, 3) := by decide +kernel
theorem dX4_putIn_30 : decode cX4_putIn 30 = .ok (.aload_n 0, 1) := by decide +kernel
theorem dX4_putIn_31 : decode cX4_putIn 31 = .ok (.iload_n 1, 1) := by decide +kernel
theorem dX4_putIn_32 : decode cX4_putIn 32 = .ok (.iload_n 2, 1) := by decide +kernel
theorem dX4_putIn_33 : decode cX4_putIn 33 = .ok (.invokevirtual 119, 3) := by decide +kernel
theorem dX4_putIn_36 : decode cX4_putIn 36 = .ok (.ifCond .ne 5, 3) := by decide +kernel
theorem dX4_putIn_39 : decode cX4_putIn 39 = .ok (.iconst (-1), 1) := by decide +kernel
theorem dX4_putIn_40 : decode cX4_putIn 40 = .ok (.ireturn, 1) := by decide +kernel
theorem dX4_putIn_41 : decode cX4_putIn 41 = .ok (.iload 6, 2) := by decide +kernel
theorem dX4_putIn_43 : decode cX4_putIn 43 = .ok (.ifCond .ne 37, 3) := by decide +kernel
theorem dX4_putIn_46 : decode cX4_putIn 46 = .ok (.aload_n 0, 1) := by decide +kernel
theorem dX4_putIn_47 : decode cX4_putIn 47 = .ok (.iload_n 3, 1) := by decide +kernel
theorem dX4_putIn_48 : decode cX4_putIn 48 = .ok (.iload 4, 2) := by decide +kernel
theorem dX4_putIn_50 : decode cX4_putIn 50 = .ok (.invokevirtual 119, 3) := by decide +kernel
theorem dX4_putIn_53 : decode cX4_putIn 53 = .ok (.ifCond .eq 25, 3) := by decide +kernel
theorem dX4_putIn_56 : decode cX4_putIn 56 = .ok (.iload_n 1, 1) := by decide +kernel
theorem dX4_putIn_57 : decode cX4_putIn 57 = .ok (.iload_n 3, 1) := by decide +kernel
theorem dX4_putIn_58 : decode cX4_putIn 58 = .ok (.if_icmp .eq 20, 3) := by decide +kernel
theorem dX4_putIn_61 : decode cX4_putIn 61 = .ok (.iload_n 1, 1) := by decide +kernel
theorem dX4_putIn_62 : decode cX4_putIn 62 = .ok (.iload 4, 2) := by decide +kernel
theorem dX4_putIn_64 : decode cX4_putIn 64 = .ok (.if_icmp .eq 14, 3) := by decide +kernel
theorem dX4_putIn_67 : decode cX4_putIn 67 = .ok (.iload_n 2, 1) := by decide +kernel
theorem dX4_putIn_68 : decode cX4_putIn 68 = .ok (.iload_n 3, 1) := by decide +kernel
theorem dX4_putIn_69 : decode cX4_putIn 69 = .ok (.if_icmp .eq 9, 3) := by decide +kernel
theorem dX4_putIn_72 : decode cX4_putIn 72 = .ok (.iload_n 2, 1) := by decide +kernel
theorem dX4_putIn_73 : decode cX4_putIn 73 = .ok (.iload 4, 2) := by decide +kernel
theorem dX4_putIn_75 : decode cX4_putIn 75 = .ok (.if_icmp .ne 5, 3) := by decide +kernel
theorem dX4_putIn_78 : decode cX4_putIn 78 = .ok (.iconst (-1), 1) := by decide +kernel
theorem dX4_putIn_79 : decode cX4_putIn 79 = .ok (.ireturn, 1) := by decide +kernel
theorem dX4_putIn_80 : decode cX4_putIn 80 = .ok (.aload_n 0, 1) := by decide +kernel
theorem dX4_putIn_81 : decode cX4_putIn 81 = .ok (.getfield 46, 3) := by decide +kernel
theorem dX4_putIn_84 : decode cX4_putIn 84 = .ok (.aload_n 0, 1) := by decide +kernel
theorem dX4_putIn_85 : decode cX4_putIn 85 = .ok (.iload_n 1, 1) := by decide +kernel
theorem dX4_putIn_86 : decode cX4_putIn 86 = .ok (.invokevirtual 123, 3) := by decide +kernel
theorem dX4_putIn_89 : decode cX4_putIn 89 = .ok (.i2l, 1) := by decide +kernel
theorem dX4_putIn_90 : decode cX4_putIn 90 = .ok (.iload 6, 2) := by decide +kernel
theorem dX4_putIn_92 : decode cX4_putIn 92 = .ok (.ifCond .eq 7, 3) := by decide +kernel
theorem dX4_putIn_95 : decode cX4_putIn 95 = .ok (.iconst 1, 1) := by decide +kernel
theorem dX4_putIn_96 : decode cX4_putIn 96 = .ok (.goto 8, 3) := by decide +kernel
theorem dX4_putIn_99 : decode cX4_putIn 99 = .ok (.aload_n 0, 1) := by decide +kernel
theorem dX4_putIn_100 : decode cX4_putIn 100 = .ok (.iload_n 3, 1) := by decide +kernel
theorem dX4_putIn_101 : decode cX4_putIn 101 = .ok (.invokevirtual 123, 3) := by decide +kernel
theorem dX4_putIn_104 : decode cX4_putIn 104 = .ok (.i2l, 1) := by decide +kernel
theorem dX4_putIn_105 : decode cX4_putIn 105 = .ok (.lmul, 1) := by decide +kernel
theorem dX4_putIn_106 : decode cX4_putIn 106 = .ok (.aload_n 0, 1) := by decide +kernel
theorem dX4_putIn_107 : decode cX4_putIn 107 = .ok (.iload_n 2, 1) := by decide +kernel
theorem dX4_putIn_108 : decode cX4_putIn 108 = .ok (.invokevirtual 123, 3) := by decide +kernel
theorem dX4_putIn_111 : decode cX4_putIn 111 = .ok (.i2l, 1) := by decide +kernel
theorem dX4_putIn_112 : decode cX4_putIn 112 = .ok (.iload 6, 2) := by decide +kernel
theorem dX4_putIn_114 : decode cX4_putIn 114 = .ok (.ifCond .eq 7, 3) := by decide +kernel
theorem dX4_putIn_117 : decode cX4_putIn 117 = .ok (.iconst 1, 1) := by decide +kernel
theorem dX4_putIn_118 : decode cX4_putIn 118 = .ok (.goto 9, 3) := by decide +kernel
theorem dX4_putIn_121 : decode cX4_putIn 121 = .ok (.aload_n 0, 1) := by decide +kernel
theorem dX4_putIn_122 : decode cX4_putIn 122 = .ok (.iload 4, 2) := by decide +kernel
theorem dX4_putIn_124 : decode cX4_putIn 124 = .ok (.invokevirtual 123, 3) := by decide +kernel
theorem dX4_putIn_127 : decode cX4_putIn 127 = .ok (.i2l, 1) := by decide +kernel
theorem dX4_putIn_128 : decode cX4_putIn 128 = .ok (.lmul, 1) := by decide +kernel
theorem dX4_putIn_129 : decode cX4_putIn 129 = .ok (.invokevirtual 127, 3) := by decide +kernel
theorem dX4_putIn_132 : decode cX4_putIn 132 = .ok (.aload_n 0, 1) := by decide +kernel
theorem dX4_putIn_133 : decode cX4_putIn 133 = .ok (.getfield 46, 3) := by decide +kernel
theorem dX4_putIn_136 : decode cX4_putIn 136 = .ok (.getfield 131, 3) := by decide +kernel
theorem dX4_putIn_139 : decode cX4_putIn 139 = .ok (.iload 5, 2) := by decide +kernel
theorem dX4_putIn_141 : decode cX4_putIn 141 = .ok (.i2l, 1) := by decide +kernel
theorem dX4_putIn_142 : decode cX4_putIn 142 = .ok (.lmul, 1) := by decide +kernel
theorem dX4_putIn_143 : decode cX4_putIn 143 = .ok (.aload_n 0, 1) := by decide +kernel
theorem dX4_putIn_144 : decode cX4_putIn 144 = .ok (.getfield 9, 3) := by decide +kernel
theorem dX4_putIn_147 : decode cX4_putIn 147 = .ok (.i2l, 1) := by decide +kernel
theorem dX4_putIn_148 : decode cX4_putIn 148 = .ok (.aload_n 0, 1) := by decide +kernel
theorem dX4_putIn_149 : decode cX4_putIn 149 = .ok (.getfield 46, 3) := by decide +kernel
theorem dX4_putIn_152 : decode cX4_putIn 152 = .ok (.getfield 135, 3) := by decide +kernel
theorem dX4_putIn_155 : decode cX4_putIn 155 = .ok (.lmul, 1) := by decide +kernel
theorem dX4_putIn_156 : decode cX4_putIn 156 = .ok (.lcmp, 1) := by decide +kernel
theorem dX4_putIn_157 : decode cX4_putIn 157 = .ok (.ifCond .ne 6, 3) := by decide +kernel
theorem dX4_putIn_160 : decode cX4_putIn 160 = .ok (.bipush (-4), 2) := by decide +kernel
theorem dX4_putIn_162 : decode cX4_putIn 162 = .ok (.ireturn, 1) := by decide +kernel
theorem dX4_putIn_163 : decode cX4_putIn 163 = .ok (.aload_n 0, 1) := by decide +kernel
theorem dX4_putIn_164 : decode cX4_putIn 164 = .ok (.getfield 39, 3) := by decide +kernel
theorem dX4_putIn_167 : decode cX4_putIn 167 = .ok (.aload_n 0, 1) := by decide +kernel
theorem dX4_putIn_168 : decode cX4_putIn 168 = .ok (.getfield 46, 3) := by decide +kernel
theorem dX4_putIn_171 : decode cX4_putIn 171 = .ok (.invokevirtual 85, 3) := by decide +kernel
theorem dX4_putIn_174 : decode cX4_putIn 174 = .ok (.aload_n 0, 1) := by decide +kernel
theorem dX4_putIn_175 : decode cX4_putIn 175 = .ok (.iload 5, 2) := by decide +kernel
theorem dX4_putIn_177 : decode cX4_putIn 177 = .ok (.putfield 66, 3) := by decide +kernel
theorem dX4_putIn_180 : decode cX4_putIn 180 = .ok (.aload_n 0, 1) := by decide +kernel
theorem dX4_putIn_181 : decode cX4_putIn 181 = .ok (.iload 6, 2) := by decide +kernel
theorem dX4_putIn_183 : decode cX4_putIn 183 = .ok (.ifCond .eq 7, 3) := by decide +kernel
theorem dX4_putIn_186 : decode cX4_putIn 186 = .ok (.iconst 2, 1) := by decide +kernel
theorem dX4_putIn_187 : decode cX4_putIn 187 = .ok (.goto 4, 3) := by decide +kernel
theorem dX4_putIn_190 : decode cX4_putIn 190 = .ok (.iconst 4, 1) := by decide +kernel
theorem dX4_putIn_191 : decode cX4_putIn 191 = .ok (.putfield 30, 3) := by decide +kernel
theorem dX4_putIn_194 : decode cX4_putIn 194 = .ok (.aload_n 0, 1) := by decide +kernel
theorem dX4_putIn_195 : decode cX4_putIn 195 = .ok (.getfield 30, 3) := by decide +kernel
theorem dX4_putIn_198 : decode cX4_putIn 198 = .ok (.ireturn, 1) := by decide +kernel
set_option maxRecDepth 20000 in
set_option maxHeartbeats 2000000 in
theorem V_X4_putIn_0 {X : Ctx} (C : C_X4_putIn X) {k n : Nat} {Q : Pq} {h : Hp} {v0 : Nat} {v1 v2 v3 v4 v5 : Int32}
    (hv : ((¬ v3 = (-1) → Wj X k n Q 16 [(0, .ref v0), (1, .int v1), (2, .int v2), (3, .int v3), (4, .int v4), (5, .int v5)] [.int 0] h) ∧
    (v3 = (-1) → ((¬ v4 = (-1) → Wj X k n Q 16 [(0, .ref v0), (1, .int v1), (2, .int v2), (3, .int v3), (4, .int v4), (5, .int v5)] [.int 0] h) ∧
    (v4 = (-1) → Wj X k n Q 16 [(0, .ref v0), (1, .int v1), (2, .int v2), (3, .int v3), (4, .int v4), (5, .int v5)] [.int 1] h))))) :
    Wj X k n Q 0 [(0, .ref v0), (1, .int v1), (2, .int v2), (3, .int v3), (4, .int v4), (5, .int v5)] [] h := by
  refine w_iload_n (pc := 0) C dX4_putIn_0 rfl ?_
  refine w_iconst (pc := 1) C (v := (-1)) dX4_putIn_1 (by decide) ?_
  refine w_icmp_ne (pc := 2) C (tgt := 15) dX4_putIn_2 (by decide) ?_
  obtain ⟨hv1, hv2⟩ := hv
  refine ⟨fun c2 => ?_, fun c2 => ?_⟩
  · have hv := hv1 c2
    refine w_iconst (pc := 15) C (v := 0) dX4_putIn_15 (by decide) ?_
    refine w_sub ?_ hv
    exact ⟨rfl, rfl, rfl, rfl, rfl, rfl, trivial⟩
  · have hv := hv2 c2
    refine w_iload (pc := 5) C dX4_putIn_5 rfl ?_
    refine w_iconst (pc := 7) C (v := (-1)) dX4_putIn_7 (by decide) ?_
    refine w_icmp_ne (pc := 8) C (tgt := 15) dX4_putIn_8 (by decide) ?_
    obtain ⟨hv1, hv2⟩ := hv
    refine ⟨fun c1 => ?_, fun c1 => ?_⟩
    · have hv := hv1 c1
      refine w_iconst (pc := 15) C (v := 0) dX4_putIn_15 (by decide) ?_
      refine w_sub ?_ hv
      exact ⟨rfl, rfl, rfl, rfl, rfl, rfl, trivial⟩
    · have hv := hv2 c1
      refine w_iconst (pc := 11) C (v := 1) dX4_putIn_11 (by decide) ?_
      refine w_goto (pc := 12) C (tgt := 16) dX4_putIn_12 (by decide) ?_
      refine w_sub ?_ hv
      exact ⟨rfl, rfl, rfl, rfl, rfl, rfl, trivial⟩
set_option maxRecDepth 20000 in
set_option maxHeartbeats 2000000 in
theorem V_X4_putIn_16 {X : Ctx} (C : C_X4_putIn X) {k n : Nat} {Q : Pq} {h : Hp} {v0 : Nat} {v1 v2 v3 v4 v5 s0 : Int32}
    (hv : ((v5 = 1 → Wj X k n Q 30 [(0, .ref v0), (1, .int v1), (2, .int v2), (3, .int v3), (4, .int v4), (5, .int v5), (6, .int s0)] [] h) ∧
    (¬ v5 = 1 → ((¬ v5 = (-1) → Q (some (.int (-1))) h) ∧
    (v5 = (-1) → Wj X k n Q 30 [(0, .ref v0), (1, .int v1), (2, .int v2), (3, .int v3), (4, .int v4), (5, .int v5), (6, .int s0)] [] h))))) :
    Wj X k n Q 16 [(0, .ref v0), (1, .int v1), (2, .int v2), (3, .int v3), (4, .int v4), (5, .int v5)] [.int s0] h := by
  refine w_istore (pc := 16) C dX4_putIn_16 (by decide) ?_
  refine w_iload (pc := 18) C dX4_putIn_18 rfl ?_
  refine w_iconst (pc := 20) C (v := 1) dX4_putIn_20 (by decide) ?_
  refine w_icmp_eq (pc := 21) C (tgt := 30) dX4_putIn_21 (by decide) ?_
  obtain ⟨hv1, hv2⟩ := hv
  refine ⟨fun c2 => ?_, fun c2 => ?_⟩
  · have hv := hv1 c2
    refine w_sub ?_ hv
    exact ⟨rfl, rfl, rfl, rfl, rfl, rfl, rfl, trivial⟩
  · have hv := hv2 c2
    refine w_iload (pc := 24) C dX4_putIn_24 rfl ?_
    refine w_iconst (pc := 26) C (v := (-1)) dX4_putIn_26 (by decide) ?_
    refine w_icmp_ne (pc := 27) C (tgt := 39) dX4_putIn_27 (by decide) ?_
    obtain ⟨hv1, hv2⟩ := hv
    refine ⟨fun c1 => ?_, fun c1 => ?_⟩
    · have hv := hv1 c1
      refine w_iconst (pc := 39) C (v := (-1)) dX4_putIn_39 (by decide) ?_
      exact w_iret (pc := 40) C dX4_putIn_40 hv
    · have hv := hv2 c1
      refine w_sub ?_ hv
      exact ⟨rfl, rfl, rfl, rfl, rfl, rfl, rfl, trivial⟩
set_option maxRecDepth 20000 in
set_option maxHeartbeats 2000000 in
theorem V_X4_putIn_30 {X : Ctx} (C : C_X4_putIn X) {k n : Nat} {Q : Pq} {h : Hp} {v0 : Nat} {v1 v2 v3 v4 v5 v6 : Int32}
    (hv : St4 h v0 ∧ ((¬ (hPr h v0 v1 v2) = 0 → ((¬ v6 = 0 → Wj X k n Q 80 [(0, .ref v0), (1, .int v1), (2, .int v2), (3, .int v3), (4, .int v4), (5, .int v5), (6, .int v6)] [] h) ∧
    (v6 = 0 → (((hPr h v0 v3 v4) = 0 → Q (some (.int (-1))) h) ∧
    (¬ (hPr h v0 v3 v4) = 0 → ((v1 = v3 → Q (some (.int (-1))) h) ∧
    (¬ v1 = v3 → ((v1 = v4 → Q (some (.int (-1))) h) ∧
    (¬ v1 = v4 → ((v2 = v3 → Q (some (.int (-1))) h) ∧
    (¬ v2 = v3 → ((¬ v2 = v4 → Wj X k n Q 80 [(0, .ref v0), (1, .int v1), (2, .int v2), (3, .int v3), (4, .int v4), (5, .int v5), (6, .int v6)] [] h) ∧
    (v2 = v4 → Q (some (.int (-1))) h))))))))))))) ∧
    ((hPr h v0 v1 v2) = 0 → Q (some (.int (-1))) h))) :
    Wj X k n Q 30 [(0, .ref v0), (1, .int v1), (2, .int v2), (3, .int v3), (4, .int v4), (5, .int v5), (6, .int v6)] [] h := by
  refine w_aload_n (pc := 30) C dX4_putIn_30 rfl ?_
  refine w_iload_n (pc := 31) C dX4_putIn_31 rfl ?_
  refine w_iload_n (pc := 32) C dX4_putIn_32 rfl ?_
  obtain ⟨f1, hv⟩ := hv
  refine w_cV0_2 (pc := 33) C cl_X4_119 lv_X4_isPair (by decide) dX4_putIn_33 (Nat.le_of_ble_eq_true rfl) (c := 4) rfl (St4_k f1) ((sf_X4_isPair (h := h) f1).mono (fun v h9 hp => ?_))
  obtain ⟨e1, e2⟩ := hp
  rw [e1, e2]
  refine w_if_ne (pc := 36) C (tgt := 41) dX4_putIn_36 (by decide) ?_
  obtain ⟨hv1, hv2⟩ := hv
  refine ⟨fun c8 => ?_, fun c8 => ?_⟩
  · have hv := hv1 c8
    refine w_iload (pc := 41) C dX4_putIn_41 rfl ?_
    refine w_if_ne (pc := 43) C (tgt := 80) dX4_putIn_43 (by decide) ?_
    obtain ⟨hv1, hv2⟩ := hv
    refine ⟨fun c7 => ?_, fun c7 => ?_⟩
    · have hv := hv1 c7
      refine w_sub ?_ hv
      exact ⟨rfl, rfl, rfl, rfl, rfl, rfl, rfl, trivial⟩
    · have hv := hv2 c7
      refine w_aload_n (pc := 46) C dX4_putIn_46 rfl ?_
      refine w_iload_n (pc := 47) C dX4_putIn_47 rfl ?_
      refine w_iload (pc := 48) C dX4_putIn_48 rfl ?_
      refine w_cV0_2 (pc := 50) C cl_X4_119 lv_X4_isPair (by decide) dX4_putIn_50 (Nat.le_of_ble_eq_true rfl) (c := 4) rfl (St4_k f1) ((sf_X4_isPair (h := h) f1).mono (fun v h9 hp => ?_))
      obtain ⟨e1, e2⟩ := hp
      rw [e1, e2]
      refine w_if_eq (pc := 53) C (tgt := 78) dX4_putIn_53 (by decide) ?_
      obtain ⟨hv1, hv2⟩ := hv
      refine ⟨fun c6 => ?_, fun c6 => ?_⟩
      · have hv := hv1 c6
        refine w_iconst (pc := 78) C (v := (-1)) dX4_putIn_78 (by decide) ?_
        exact w_iret (pc := 79) C dX4_putIn_79 hv
      · have hv := hv2 c6
        refine w_iload_n (pc := 56) C dX4_putIn_56 rfl ?_
        refine w_iload_n (pc := 57) C dX4_putIn_57 rfl ?_
        refine w_icmp_eq (pc := 58) C (tgt := 78) dX4_putIn_58 (by decide) ?_
        obtain ⟨hv1, hv2⟩ := hv
        refine ⟨fun c5 => ?_, fun c5 => ?_⟩
        · have hv := hv1 c5
          refine w_iconst (pc := 78) C (v := (-1)) dX4_putIn_78 (by decide) ?_
          exact w_iret (pc := 79) C dX4_putIn_79 hv
        · have hv := hv2 c5
          refine w_iload_n (pc := 61) C dX4_putIn_61 rfl ?_
          refine w_iload (pc := 62) C dX4_putIn_62 rfl ?_
          refine w_icmp_eq (pc := 64) C (tgt := 78) dX4_putIn_64 (by decide) ?_
          obtain ⟨hv1, hv2⟩ := hv
          refine ⟨fun c4 => ?_, fun c4 => ?_⟩
          · have hv := hv1 c4
            refine w_iconst (pc := 78) C (v := (-1)) dX4_putIn_78 (by decide) ?_
            exact w_iret (pc := 79) C dX4_putIn_79 hv
          · have hv := hv2 c4
            refine w_iload_n (pc := 67) C dX4_putIn_67 rfl ?_
            refine w_iload_n (pc := 68) C dX4_putIn_68 rfl ?_
            refine w_icmp_eq (pc := 69) C (tgt := 78) dX4_putIn_69 (by decide) ?_
            obtain ⟨hv1, hv2⟩ := hv
            refine ⟨fun c3 => ?_, fun c3 => ?_⟩
            · have hv := hv1 c3
              refine w_iconst (pc := 78) C (v := (-1)) dX4_putIn_78 (by decide) ?_
              exact w_iret (pc := 79) C dX4_putIn_79 hv
            · have hv := hv2 c3
              refine w_iload_n (pc := 72) C dX4_putIn_72 rfl ?_
              refine w_iload (pc := 73) C dX4_putIn_73 rfl ?_
              refine w_icmp_ne (pc := 75) C (tgt := 80) dX4_putIn_75 (by decide) ?_
              obtain ⟨hv1, hv2⟩ := hv
              refine ⟨fun c2 => ?_, fun c2 => ?_⟩
              · have hv := hv1 c2
                refine w_sub ?_ hv
                exact ⟨rfl, rfl, rfl, rfl, rfl, rfl, rfl, trivial⟩
              · have hv := hv2 c2
                refine w_iconst (pc := 78) C (v := (-1)) dX4_putIn_78 (by decide) ?_
                exact w_iret (pc := 79) C dX4_putIn_79 hv
  · have hv := hv2 c8
    refine w_iconst (pc := 39) C (v := (-1)) dX4_putIn_39 (by decide) ?_
    exact w_iret (pc := 40) C dX4_putIn_40 hv
set_option maxRecDepth 20000 in
set_option maxHeartbeats 2000000 in
theorem V_X4_putIn_80 {X : Ctx} (C : C_X4_putIn X) {k n : Nat} {Q : Pq} {h : Hp} {v0 : Nat} {v1 v2 v3 v4 v5 v6 : Int32}
    (hv : St4 h v0 ∧ ((v6 = 0 → Wj X k n Q 104 [(0, .ref v0), (2, .int v2), (4, .int v4), (5, .int v5), (6, .int v6)] [.int (hTe h v0 v3), .long (Int32.toInt64 (hTe h v0 v1)), .ref (v0 + 3)] h) ∧
    (¬ v6 = 0 → Wj X k n Q 104 [(0, .ref v0), (2, .int v2), (4, .int v4), (5, .int v5), (6, .int v6)] [.int 1, .long (Int32.toInt64 (hTe h v0 v1)), .ref (v0 + 3)] h))) :
    Wj X k n Q 80 [(0, .ref v0), (1, .int v1), (2, .int v2), (3, .int v3), (4, .int v4), (5, .int v5), (6, .int v6)] [] h := by
  refine w_aload_n (pc := 80) C dX4_putIn_80 rfl ?_
  obtain ⟨f1, hv⟩ := hv
  refine w_getR (pc := 81) C fl_X4_46 rfl dX4_putIn_81 (St4_k f1) (St4_r10 f1) ?_
  refine w_aload_n (pc := 84) C dX4_putIn_84 rfl ?_
  refine w_iload_n (pc := 85) C dX4_putIn_85 rfl ?_
  refine w_cV0_1 (pc := 86) C cl_X4_123 lv_X4_teethOf (by decide) dX4_putIn_86 (Nat.le_of_ble_eq_true rfl) (c := 4) rfl (St4_k f1) ((sf_X4_teethOf (h := h) f1).mono (fun v h9 hp => ?_))
  obtain ⟨e1, e2⟩ := hp
  rw [e1, e2]
  refine w_i2l (pc := 89) C dX4_putIn_89 ?_
  refine w_iload (pc := 90) C dX4_putIn_90 rfl ?_
  refine w_if_eq (pc := 92) C (tgt := 99) dX4_putIn_92 (by decide) ?_
  obtain ⟨hv1, hv2⟩ := hv
  refine ⟨fun c2 => ?_, fun c2 => ?_⟩
  · have hv := hv1 c2
    refine w_aload_n (pc := 99) C dX4_putIn_99 rfl ?_
    refine w_iload_n (pc := 100) C dX4_putIn_100 rfl ?_
    refine w_cV0_1 (pc := 101) C cl_X4_123 lv_X4_teethOf (by decide) dX4_putIn_101 (Nat.le_of_ble_eq_true rfl) (c := 4) rfl (St4_k f1) ((sf_X4_teethOf (h := h) f1).mono (fun v h9 hp => ?_))
    obtain ⟨e1, e2⟩ := hp
    rw [e1, e2]
    refine w_sub ?_ hv
    exact ⟨rfl, rfl, rfl, rfl, rfl, trivial⟩
  · have hv := hv2 c2
    refine w_iconst (pc := 95) C (v := 1) dX4_putIn_95 (by decide) ?_
    refine w_goto (pc := 96) C (tgt := 104) dX4_putIn_96 (by decide) ?_
    refine w_sub ?_ hv
    exact ⟨rfl, rfl, rfl, rfl, rfl, trivial⟩
set_option maxRecDepth 20000 in
set_option maxHeartbeats 2000000 in
theorem V_X4_putIn_104 {X : Ctx} (C : C_X4_putIn X) {k n : Nat} {Q : Pq} {h : Hp} {v0 s0 : Nat} {v2 v4 v5 v6 s2 : Int32} {s1 : Int64}
    (hv : St4 h v0 ∧ ((v6 = 0 → Wj X k n Q 127 [(0, .ref v0), (5, .int v5), (6, .int v6)] [.int (hTe h v0 v4), .long (Int32.toInt64 (hTe h v0 v2)), .long (s1 * (Int32.toInt64 s2)), .ref s0] h) ∧
    (¬ v6 = 0 → Wj X k n Q 127 [(0, .ref v0), (5, .int v5), (6, .int v6)] [.int 1, .long (Int32.toInt64 (hTe h v0 v2)), .long (s1 * (Int32.toInt64 s2)), .ref s0] h))) :
    Wj X k n Q 104 [(0, .ref v0), (2, .int v2), (4, .int v4), (5, .int v5), (6, .int v6)] [.int s2, .long s1, .ref s0] h := by
  refine w_i2l (pc := 104) C dX4_putIn_104 ?_
  refine w_lmul (pc := 105) C dX4_putIn_105 ?_
  refine w_aload_n (pc := 106) C dX4_putIn_106 rfl ?_
  refine w_iload_n (pc := 107) C dX4_putIn_107 rfl ?_
  obtain ⟨f1, hv⟩ := hv
  refine w_cV0_1 (pc := 108) C cl_X4_123 lv_X4_teethOf (by decide) dX4_putIn_108 (Nat.le_of_ble_eq_true rfl) (c := 4) rfl (St4_k f1) ((sf_X4_teethOf (h := h) f1).mono (fun v h9 hp => ?_))
  obtain ⟨e1, e2⟩ := hp
  rw [e1, e2]
  refine w_i2l (pc := 111) C dX4_putIn_111 ?_
  refine w_iload (pc := 112) C dX4_putIn_112 rfl ?_
  refine w_if_eq (pc := 114) C (tgt := 121) dX4_putIn_114 (by decide) ?_
  obtain ⟨hv1, hv2⟩ := hv
  refine ⟨fun c2 => ?_, fun c2 => ?_⟩
  · have hv := hv1 c2
    refine w_aload_n (pc := 121) C dX4_putIn_121 rfl ?_
    refine w_iload (pc := 122) C dX4_putIn_122 rfl ?_
    refine w_cV0_1 (pc := 124) C cl_X4_123 lv_X4_teethOf (by decide) dX4_putIn_124 (Nat.le_of_ble_eq_true rfl) (c := 4) rfl (St4_k f1) ((sf_X4_teethOf (h := h) f1).mono (fun v h9 hp => ?_))
    obtain ⟨e1, e2⟩ := hp
    rw [e1, e2]
    refine w_sub ?_ hv
    exact ⟨rfl, rfl, rfl, trivial⟩
  · have hv := hv2 c2
    refine w_iconst (pc := 117) C (v := 1) dX4_putIn_117 (by decide) ?_
    refine w_goto (pc := 118) C (tgt := 127) dX4_putIn_118 (by decide) ?_
    refine w_sub ?_ hv
    exact ⟨rfl, rfl, rfl, trivial⟩
set_option maxRecDepth 20000 in
set_option maxHeartbeats 2000000 in
theorem V_X4_putIn_127 {X : Ctx} (C : C_X4_putIn X) {k n : Nat} {Q : Pq} {h : Hp} {v0 s0 : Nat} {v5 v6 s3 : Int32} {s1 s2 : Int64}
    (hv : kd h s0 = 3 ∧ -9223372036854775807 ≤ (Int64.toInt s1) ∧ 0 < (Int64.toInt (s2 * (Int32.toInt64 s3))) ∧ St4 h v0 ∧ ((¬ ((gl (fpt h s0 s1 (s2 * (Int32.toInt64 s3))) (v0 + 3) 0) * (Int32.toInt64 v5)) = ((Int32.toInt64 (gi h v0 0)) * (gl (fpt h s0 s1 (s2 * (Int32.toInt64 s3))) (v0 + 3) 1)) → ((v6 = 0 → Q (some (.int (gi (si (si h v0 16 v5) v0 6 4) v0 6))) (si (si (fcp (fpt h s0 s1 (s2 * (Int32.toInt64 s3))) (v0 + 1) (v0 + 3)) v0 16 v5) v0 6 4)) ∧
    (¬ v6 = 0 → Q (some (.int (gi (si (si h v0 16 v5) v0 6 2) v0 6))) (si (si (fcp (fpt h s0 s1 (s2 * (Int32.toInt64 s3))) (v0 + 1) (v0 + 3)) v0 16 v5) v0 6 2)))) ∧
    (((gl (fpt h s0 s1 (s2 * (Int32.toInt64 s3))) (v0 + 3) 0) * (Int32.toInt64 v5)) = ((Int32.toInt64 (gi h v0 0)) * (gl (fpt h s0 s1 (s2 * (Int32.toInt64 s3))) (v0 + 3) 1)) → Q (some (.int (-4))) (fpt h s0 s1 (s2 * (Int32.toInt64 s3)))))) :
    Wj X k n Q 127 [(0, .ref v0), (5, .int v5), (6, .int v6)] [.int s3, .long s2, .long s1, .ref s0] h := by
  refine w_i2l (pc := 127) C dX4_putIn_127 ?_
  refine w_lmul (pc := 128) C dX4_putIn_128 ?_
  obtain ⟨f1, hv⟩ := hv
  obtain ⟨f2, hv⟩ := hv
  obtain ⟨f3, hv⟩ := hv
  refine w_cV0_2 (pc := 129) C cl_X4_127 lv_X2_put (by decide) dX4_putIn_129 (Nat.le_of_ble_eq_true rfl) (c := 2) rfl f1 ((sf_X2_put (h := h) f1 f2 f3).mono (fun v h9 hp => ?_))
  obtain ⟨e1, e2⟩ := hp
  rw [e1, e2]
  refine w_aload_n (pc := 132) C dX4_putIn_132 rfl ?_
  obtain ⟨f4, hv⟩ := hv
  refine w_getR (pc := 133) C fl_X4_46 rfl dX4_putIn_133 (St4_k f4) (St4_r10 f4) ?_
  refine w_getL (pc := 136) C fl_X4_131 rfl dX4_putIn_136 (St4_k10 f4) ?_
  refine w_iload (pc := 139) C dX4_putIn_139 rfl ?_
  refine w_i2l (pc := 141) C dX4_putIn_141 ?_
  refine w_lmul (pc := 142) C dX4_putIn_142 ?_
  refine w_aload_n (pc := 143) C dX4_putIn_143 rfl ?_
  refine w_getI (pc := 144) C fl_X4_9 rfl dX4_putIn_144 (St4_k f4) ?_
  refine w_i2l (pc := 147) C dX4_putIn_147 ?_
  refine w_aload_n (pc := 148) C dX4_putIn_148 rfl ?_
  refine w_getR (pc := 149) C fl_X4_46 rfl dX4_putIn_149 (St4_k f4) (St4_r10 f4) ?_
  refine w_getL (pc := 152) C fl_X4_135 rfl dX4_putIn_152 (St4_k10 f4) ?_
  refine w_lmul (pc := 155) C dX4_putIn_155 ?_
  refine w_lcmp_ne (pc := 156) C (tgt := 163) dX4_putIn_156 dX4_putIn_157 (by decide) ?_
  obtain ⟨hv1, hv2⟩ := hv
  refine ⟨fun c6 => ?_, fun c6 => ?_⟩
  · have hv := hv1 c6
    refine w_aload_n (pc := 163) C dX4_putIn_163 rfl ?_
    refine w_getR (pc := 164) C fl_X4_39 rfl dX4_putIn_164 (St4_k f4) (St4_r8 f4) ?_
    refine w_aload_n (pc := 167) C dX4_putIn_167 rfl ?_
    refine w_getR (pc := 168) C fl_X4_46 rfl dX4_putIn_168 (St4_k f4) (St4_r10 f4) ?_
    refine w_cV0_1 (pc := 171) C cl_X4_85 lv_X2_copyFrom (by decide) dX4_putIn_171 (Nat.le_of_ble_eq_true rfl) (c := 2) rfl (St4_k8 f4) ((sf_X2_copyFrom (h := (fpt h s0 s1 (s2 * (Int32.toInt64 s3)))) (St4_k8 f4) (St4_k10 f4)).mono (fun v h9 hp => ?_))
    obtain ⟨e1, e2⟩ := hp
    rw [e1, e2]
    refine w_aload_n (pc := 174) C dX4_putIn_174 rfl ?_
    refine w_iload (pc := 175) C dX4_putIn_175 rfl ?_
    refine w_putI (pc := 177) C fl_X4_66 rfl rfl dX4_putIn_177 (St4_k f4) ?_
    refine w_aload_n (pc := 180) C dX4_putIn_180 rfl ?_
    refine w_iload (pc := 181) C dX4_putIn_181 rfl ?_
    refine w_if_eq (pc := 183) C (tgt := 190) dX4_putIn_183 (by decide) ?_
    obtain ⟨hv1, hv2⟩ := hv
    refine ⟨fun c5 => ?_, fun c5 => ?_⟩
    · have hv := hv1 c5
      refine w_iconst (pc := 190) C (v := 4) dX4_putIn_190 (by decide) ?_
      refine w_putI (pc := 191) C fl_X4_30 rfl rfl dX4_putIn_191 (St4_k f4) ?_
      refine w_aload_n (pc := 194) C dX4_putIn_194 rfl ?_
      refine w_getI (pc := 195) C fl_X4_30 rfl dX4_putIn_195 (St4_k f4) ?_
      exact w_iret (pc := 198) C dX4_putIn_198 hv
    · have hv := hv2 c5
      refine w_iconst (pc := 186) C (v := 2) dX4_putIn_186 (by decide) ?_
      refine w_goto (pc := 187) C (tgt := 191) dX4_putIn_187 (by decide) ?_
      refine w_putI (pc := 191) C fl_X4_30 rfl rfl dX4_putIn_191 (St4_k f4) ?_
      refine w_aload_n (pc := 194) C dX4_putIn_194 rfl ?_
      refine w_getI (pc := 195) C fl_X4_30 rfl dX4_putIn_195 (St4_k f4) ?_
      exact w_iret (pc := 198) C dX4_putIn_198 hv
  · have hv := hv2 c6
    refine w_bipush (pc := 160) C (v := (-4)) dX4_putIn_160 (by decide) ?_
    exact w_iret (pc := 162) C dX4_putIn_162 hv
theorem dX4_wind_0 : decode cX4_wind 0 = .ok (.aload_n 0, 1) := by decide +kernel
theorem dX4_wind_1 : decode cX4_wind 1 = .ok (.aload_n 0, 1) := by decide +kernel
theorem dX4_wind_2 : decode cX4_wind 2 = .ok (.getfield 27, 3) := by decide +kernel
theorem dX4_wind_5 : decode cX4_wind 5 = .ok (.invokevirtual 138, 3) := by decide +kernel
theorem dX4_wind_8 : decode cX4_wind 8 = .ok (.istore 4, 2) := by decide +kernel
theorem dX4_wind_10 : decode cX4_wind 10 = .ok (.iload_n 1, 1) := by decide +kernel
theorem dX4_wind_11 : decode cX4_wind 11 = .ok (.iconst 0, 1) := by decide +kernel
theorem dX4_wind_12 : decode cX4_wind 12 = .ok (.bipush 99, 2) := by decide +kernel
theorem dX4_wind_14 : decode cX4_wind 14 = .ok (.invokestatic 112, 3) := by decide +kernel
theorem dX4_wind_17 : decode cX4_wind 17 = .ok (.ifCond .eq 24, 3) := by decide +kernel
theorem dX4_wind_20 : decode cX4_wind 20 = .ok (.iload_n 2, 1) := by decide +kernel
theorem dX4_wind_21 : decode cX4_wind 21 = .ok (.iconst 0, 1) := by decide +kernel
theorem dX4_wind_22 : decode cX4_wind 22 = .ok (.iload 4, 2) := by decide +kernel
theorem dX4_wind_24 : decode cX4_wind 24 = .ok (.iconst 1, 1) := by decide +kernel
theorem dX4_wind_25 : decode cX4_wind 25 = .ok (.isub, 1) := by decide +kernel
theorem dX4_wind_26 : decode cX4_wind 26 = .ok (.invokestatic 112, 3) := by decide +kernel
theorem dX4_wind_29 : decode cX4_wind 29 = .ok (.ifCond .eq 12, 3) := by decide +kernel
theorem dX4_wind_32 : decode cX4_wind 32 = .ok (.iload_n 3, 1) := by decide +kernel
theorem dX4_wind_33 : decode cX4_wind 33 = .ok (.iconst 0, 1) := by decide +kernel
theorem dX4_wind_34 : decode cX4_wind 34 = .ok (.iconst 1, 1) := by decide +kernel
theorem dX4_wind_35 : decode cX4_wind 35 = .ok (.invokestatic 112, 3) := by decide +kernel
theorem dX4_wind_38 : decode cX4_wind 38 = .ok (.ifCond .ne 5, 3) := by decide +kernel
theorem dX4_wind_41 : decode cX4_wind 41 = .ok (.iconst (-1), 1) := by decide +kernel
theorem dX4_wind_42 : decode cX4_wind 42 = .ok (.ireturn, 1) := by decide +kernel
theorem dX4_wind_43 : decode cX4_wind 43 = .ok (.aload_n 0, 1) := by decide +kernel
theorem dX4_wind_44 : decode cX4_wind 44 = .ok (.aload_n 0, 1) := by decide +kernel
theorem dX4_wind_45 : decode cX4_wind 45 = .ok (.getfield 46, 3) := by decide +kernel
theorem dX4_wind_48 : decode cX4_wind 48 = .ok (.invokevirtual 141, 3) := by decide +kernel
theorem dX4_wind_51 : decode cX4_wind 51 = .ok (.iload_n 1, 1) := by decide +kernel
theorem dX4_wind_52 : decode cX4_wind 52 = .ok (.iload 4, 2) := by decide +kernel
theorem dX4_wind_54 : decode cX4_wind 54 = .ok (.imul, 1) := by decide +kernel
theorem dX4_wind_55 : decode cX4_wind 55 = .ok (.iload_n 2, 1) := by decide +kernel
theorem dX4_wind_56 : decode cX4_wind 56 = .ok (.iadd, 1) := by decide +kernel
theorem dX4_wind_57 : decode cX4_wind 57 = .ok (.i2l, 1) := by decide +kernel
theorem dX4_wind_58 : decode cX4_wind 58 = .ok (.aload_n 0, 1) := by decide +kernel
theorem dX4_wind_59 : decode cX4_wind 59 = .ok (.getfield 46, 3) := by decide +kernel
theorem dX4_wind_62 : decode cX4_wind 62 = .ok (.getfield 131, 3) := by decide +kernel
theorem dX4_wind_65 : decode cX4_wind 65 = .ok (.lmul, 1) := by decide +kernel
theorem dX4_wind_66 : decode cX4_wind 66 = .ok (.lstore 5, 2) := by decide +kernel
theorem dX4_wind_68 : decode cX4_wind 68 = .ok (.aload_n 0, 1) := by decide +kernel
theorem dX4_wind_69 : decode cX4_wind 69 = .ok (.getfield 43, 3) := by decide +kernel
theorem dX4_wind_72 : decode cX4_wind 72 = .ok (.getfield 135, 3) := by decide +kernel
theorem dX4_wind_75 : decode cX4_wind 75 = .ok (.aload_n 0, 1) := by decide +kernel
theorem dX4_wind_76 : decode cX4_wind 76 = .ok (.getfield 46, 3) := by decide +kernel
theorem dX4_wind_79 : decode cX4_wind 79 = .ok (.getfield 135, 3) := by decide +kernel
theorem dX4_wind_82 : decode cX4_wind 82 = .ok (.lmul, 1) := by decide +kernel
theorem dX4_wind_83 : decode cX4_wind 83 = .ok (.lstore 7, 2) := by decide +kernel
theorem dX4_wind_85 : decode cX4_wind 85 = .ok (.lload 7, 2) := by decide +kernel
theorem dX4_wind_87 : decode cX4_wind 87 = .ok (.lconst 0, 1) := by decide +kernel
theorem dX4_wind_88 : decode cX4_wind 88 = .ok (.lcmp, 1) := by decide +kernel
theorem dX4_wind_89 : decode cX4_wind 89 = .ok (.ifCond .gt 6, 3) := by decide +kernel
theorem dX4_wind_92 : decode cX4_wind 92 = .ok (.bipush (-4), 2) := by decide +kernel
theorem dX4_wind_94 : decode cX4_wind 94 = .ok (.ireturn, 1) := by decide +kernel
theorem dX4_wind_95 : decode cX4_wind 95 = .ok (.iload_n 3, 1) := by decide +kernel
theorem dX4_wind_96 : decode cX4_wind 96 = .ok (.iconst 1, 1) := by decide +kernel
theorem dX4_wind_97 : decode cX4_wind 97 = .ok (.if_icmp .ne 9, 3) := by decide +kernel
theorem dX4_wind_100 : decode cX4_wind 100 = .ok (.lload 5, 2) := by decide +kernel
theorem dX4_wind_102 : decode cX4_wind 102 = .ok (.lneg, 1) := by decide +kernel
theorem dX4_wind_103 : decode cX4_wind 103 = .ok (.goto 5, 3) := by decide +kernel
theorem dX4_wind_106 : decode cX4_wind 106 = .ok (.lload 5, 2) := by decide +kernel
theorem dX4_wind_108 : decode cX4_wind 108 = .ok (.aload_n 0, 1) := by decide +kernel
theorem dX4_wind_109 : decode cX4_wind 109 = .ok (.getfield 46, 3) := by decide +kernel
theorem dX4_wind_112 : decode cX4_wind 112 = .ok (.getfield 135, 3) := by decide +kernel
theorem dX4_wind_115 : decode cX4_wind 115 = .ok (.invokestatic 144, 3) := by decide +kernel
theorem dX4_wind_118 : decode cX4_wind 118 = .ok (.aload_n 0, 1) := by decide +kernel
theorem dX4_wind_119 : decode cX4_wind 119 = .ok (.getfield 43, 3) := by decide +kernel
theorem dX4_wind_122 : decode cX4_wind 122 = .ok (.getfield 135, 3) := by decide +kernel
theorem dX4_wind_125 : decode cX4_wind 125 = .ok (.lmul, 1) := by decide +kernel
theorem dX4_wind_126 : decode cX4_wind 126 = .ok (.lstore 9, 2) := by decide +kernel
theorem dX4_wind_128 : decode cX4_wind 128 = .ok (.aload_n 0, 1) := by decide +kernel
theorem dX4_wind_129 : decode cX4_wind 129 = .ok (.getfield 46, 3) := by decide +kernel
theorem dX4_wind_132 : decode cX4_wind 132 = .ok (.aload_n 0, 1) := by decide +kernel
theorem dX4_wind_133 : decode cX4_wind 133 = .ok (.getfield 43, 3) := by decide +kernel
theorem dX4_wind_136 : decode cX4_wind 136 = .ok (.getfield 131, 3) := by decide +kernel
theorem dX4_wind_139 : decode cX4_wind 139 = .ok (.aload_n 0, 1) := by decide +kernel
theorem dX4_wind_140 : decode cX4_wind 140 = .ok (.getfield 46, 3) := by decide +kernel
theorem dX4_wind_143 : decode cX4_wind 143 = .ok (.getfield 135, 3) := by decide +kernel
theorem dX4_wind_146 : decode cX4_wind 146 = .ok (.lmul, 1) := by decide +kernel
theorem dX4_wind_147 : decode cX4_wind 147 = .ok (.lload 9, 2) := by decide +kernel
theorem dX4_wind_149 : decode cX4_wind 149 = .ok (.ladd, 1) := by decide +kernel
theorem dX4_wind_150 : decode cX4_wind 150 = .ok (.lload 7, 2) := by decide +kernel
theorem dX4_wind_152 : decode cX4_wind 152 = .ok (.lrem, 1) := by decide +kernel
theorem dX4_wind_153 : decode cX4_wind 153 = .ok (.lload 7, 2) := by decide +kernel
theorem dX4_wind_155 : decode cX4_wind 155 = .ok (.invokevirtual 127, 3) := by decide +kernel
theorem dX4_wind_158 : decode cX4_wind 158 = .ok (.aload_n 0, 1) := by decide +kernel
theorem dX4_wind_159 : decode cX4_wind 159 = .ok (.getfield 46, 3) := by decide +kernel
theorem dX4_wind_162 : decode cX4_wind 162 = .ok (.getfield 135, 3) := by decide +kernel
theorem dX4_wind_165 : decode cX4_wind 165 = .ok (.ldc2_w 150, 3) := by decide +kernel
theorem dX4_wind_168 : decode cX4_wind 168 = .ok (.lcmp, 1) := by decide +kernel
theorem dX4_wind_169 : decode cX4_wind 169 = .ok (.ifCond .le 6, 3) := by decide +kernel
theorem dX4_wind_172 : decode cX4_wind 172 = .ok (.bipush (-4), 2) := by decide +kernel
theorem dX4_wind_174 : decode cX4_wind 174 = .ok (.ireturn, 1) := by decide +kernel
theorem dX4_wind_175 : decode cX4_wind 175 = .ok (.aload_n 0, 1) := by decide +kernel
theorem dX4_wind_176 : decode cX4_wind 176 = .ok (.getfield 43, 3) := by decide +kernel
theorem dX4_wind_179 : decode cX4_wind 179 = .ok (.aload_n 0, 1) := by decide +kernel
theorem dX4_wind_180 : decode cX4_wind 180 = .ok (.getfield 46, 3) := by decide +kernel
theorem dX4_wind_183 : decode cX4_wind 183 = .ok (.invokevirtual 85, 3) := by decide +kernel
theorem dX4_wind_186 : decode cX4_wind 186 = .ok (.iconst 0, 1) := by decide +kernel
theorem dX4_wind_187 : decode cX4_wind 187 = .ok (.ireturn, 1) := by decide +kernel
set_option maxRecDepth 20000 in
set_option maxHeartbeats 2000000 in
theorem V_X4_wind_0 {X : Ctx} (C : C_X4_wind X) {k n : Nat} {Q : Pq} {h : Hp} {v0 : Nat} {v1 v2 v3 : Int32}
    (hv : St4 h v0 ∧ (((bt v1 0 99) = 0 → Q (some (.int (-1))) h) ∧
    (¬ (bt v1 0 99) = 0 → (((bt v2 0 ((hHo h v0 (gi h v0 5)) - 1)) = 0 → Q (some (.int (-1))) h) ∧
    (¬ (bt v2 0 ((hHo h v0 (gi h v0 5)) - 1)) = 0 → ((¬ (bt v3 0 1) = 0 → 0 < (Int64.toInt (abL (hN h v0))) ∧ ((0 < ((gl (fpt h (v0 + 3) (fmL (hSg h v0) (abL (hN h v0))) (abL (hN h v0))) (v0 + 2) 1) * (gl (fpt h (v0 + 3) (fmL (hSg h v0) (abL (hN h v0))) (abL (hN h v0))) (v0 + 3) 1)) → ((¬ v3 = 1 → Wj X k n Q 108 [(0, .ref v0), (7, .long ((gl (fpt h (v0 + 3) (fmL (hSg h v0) (abL (hN h v0))) (abL (hN h v0))) (v0 + 2) 1) * (gl (fpt h (v0 + 3) (fmL (hSg h v0) (abL (hN h v0))) (abL (hN h v0))) (v0 + 3) 1)))] [.long ((Int32.toInt64 ((v1 * (hHo h v0 (gi h v0 5))) + v2)) * (gl (fpt h (v0 + 3) (fmL (hSg h v0) (abL (hN h v0))) (abL (hN h v0))) (v0 + 3) 0))] (fpt h (v0 + 3) (fmL (hSg h v0) (abL (hN h v0))) (abL (hN h v0)))) ∧
    (v3 = 1 → Wj X k n Q 108 [(0, .ref v0), (7, .long ((gl (fpt h (v0 + 3) (fmL (hSg h v0) (abL (hN h v0))) (abL (hN h v0))) (v0 + 2) 1) * (gl (fpt h (v0 + 3) (fmL (hSg h v0) (abL (hN h v0))) (abL (hN h v0))) (v0 + 3) 1)))] [.long (-((Int32.toInt64 ((v1 * (hHo h v0 (gi h v0 5))) + v2)) * (gl (fpt h (v0 + 3) (fmL (hSg h v0) (abL (hN h v0))) (abL (hN h v0))) (v0 + 3) 0)))] (fpt h (v0 + 3) (fmL (hSg h v0) (abL (hN h v0))) (abL (hN h v0)))))) ∧
    (¬ 0 < ((gl (fpt h (v0 + 3) (fmL (hSg h v0) (abL (hN h v0))) (abL (hN h v0))) (v0 + 2) 1) * (gl (fpt h (v0 + 3) (fmL (hSg h v0) (abL (hN h v0))) (abL (hN h v0))) (v0 + 3) 1)) → Q (some (.int (-4))) (fpt h (v0 + 3) (fmL (hSg h v0) (abL (hN h v0))) (abL (hN h v0)))))) ∧
    ((bt v3 0 1) = 0 → Q (some (.int (-1))) h))))))) :
    Wj X k n Q 0 [(0, .ref v0), (1, .int v1), (2, .int v2), (3, .int v3)] [] h := by
  refine w_aload_n (pc := 0) C dX4_wind_0 rfl ?_
  refine w_aload_n (pc := 1) C dX4_wind_1 rfl ?_
  obtain ⟨f1, hv⟩ := hv
  refine w_getI (pc := 2) C fl_X4_27 rfl dX4_wind_2 (St4_k f1) ?_
  refine w_cV0_1 (pc := 5) C cl_X4_138 lv_X4_holesOf (by decide) dX4_wind_5 (Nat.le_of_ble_eq_true rfl) (c := 4) rfl (St4_k f1) ((sf_X4_holesOf (h := h) f1).mono (fun v h9 hp => ?_))
  obtain ⟨e1, e2⟩ := hp
  rw [e1, e2]
  refine w_istore (pc := 8) C dX4_wind_8 (by decide) ?_
  refine w_iload_n (pc := 10) C dX4_wind_10 rfl ?_
  refine w_iconst (pc := 11) C (v := 0) dX4_wind_11 (by decide) ?_
  refine w_bipush (pc := 12) C (v := 99) dX4_wind_12 (by decide) ?_
  refine w_cSN0_3 (pc := 14) C cl_X4_112 ls_X9_isBetween (by decide) dX4_wind_14 (Nat.le_of_ble_eq_true rfl) ((sf_X9_isBetween (h := h) ).mono (fun v h9 hp => ?_))
  obtain ⟨e1, e2⟩ := hp
  rw [e1, e2]
  refine w_if_eq (pc := 17) C (tgt := 41) dX4_wind_17 (by decide) ?_
  obtain ⟨hv1, hv2⟩ := hv
  refine ⟨fun c7 => ?_, fun c7 => ?_⟩
  · have hv := hv1 c7
    refine w_iconst (pc := 41) C (v := (-1)) dX4_wind_41 (by decide) ?_
    exact w_iret (pc := 42) C dX4_wind_42 hv
  · have hv := hv2 c7
    refine w_iload_n (pc := 20) C dX4_wind_20 rfl ?_
    refine w_iconst (pc := 21) C (v := 0) dX4_wind_21 (by decide) ?_
    refine w_iload (pc := 22) C dX4_wind_22 rfl ?_
    refine w_iconst (pc := 24) C (v := 1) dX4_wind_24 (by decide) ?_
    refine w_isub (pc := 25) C dX4_wind_25 ?_
    refine w_cSN0_3 (pc := 26) C cl_X4_112 ls_X9_isBetween (by decide) dX4_wind_26 (Nat.le_of_ble_eq_true rfl) ((sf_X9_isBetween (h := h) ).mono (fun v h9 hp => ?_))
    obtain ⟨e1, e2⟩ := hp
    rw [e1, e2]
    refine w_if_eq (pc := 29) C (tgt := 41) dX4_wind_29 (by decide) ?_
    obtain ⟨hv1, hv2⟩ := hv
    refine ⟨fun c6 => ?_, fun c6 => ?_⟩
    · have hv := hv1 c6
      refine w_iconst (pc := 41) C (v := (-1)) dX4_wind_41 (by decide) ?_
      exact w_iret (pc := 42) C dX4_wind_42 hv
    · have hv := hv2 c6
      refine w_iload_n (pc := 32) C dX4_wind_32 rfl ?_
      refine w_iconst (pc := 33) C (v := 0) dX4_wind_33 (by decide) ?_
      refine w_iconst (pc := 34) C (v := 1) dX4_wind_34 (by decide) ?_
      refine w_cSN0_3 (pc := 35) C cl_X4_112 ls_X9_isBetween (by decide) dX4_wind_35 (Nat.le_of_ble_eq_true rfl) ((sf_X9_isBetween (h := h) ).mono (fun v h9 hp => ?_))
      obtain ⟨e1, e2⟩ := hp
      rw [e1, e2]
      refine w_if_ne (pc := 38) C (tgt := 43) dX4_wind_38 (by decide) ?_
      obtain ⟨hv1, hv2⟩ := hv
      refine ⟨fun c5 => ?_, fun c5 => ?_⟩
      · have hv := hv1 c5
        refine w_aload_n (pc := 43) C dX4_wind_43 rfl ?_
        refine w_aload_n (pc := 44) C dX4_wind_44 rfl ?_
        refine w_getR (pc := 45) C fl_X4_46 rfl dX4_wind_45 (St4_k f1) (St4_r10 f1) ?_
        obtain ⟨f2, hv⟩ := hv
        refine w_cV0_1 (pc := 48) C cl_X4_141 lv_X4_stepOfHole (by decide) dX4_wind_48 (Nat.le_of_ble_eq_true rfl) (c := 4) rfl (St4_k f1) ((sf_X4_stepOfHole (h := h) f1 (St4_k10 f1) f2).mono (fun v h9 hp => ?_))
        obtain ⟨e1, e2⟩ := hp
        rw [e1, e2]
        refine w_iload_n (pc := 51) C dX4_wind_51 rfl ?_
        refine w_iload (pc := 52) C dX4_wind_52 rfl ?_
        refine w_imul (pc := 54) C dX4_wind_54 ?_
        refine w_iload_n (pc := 55) C dX4_wind_55 rfl ?_
        refine w_iadd (pc := 56) C dX4_wind_56 ?_
        refine w_i2l (pc := 57) C dX4_wind_57 ?_
        refine w_aload_n (pc := 58) C dX4_wind_58 rfl ?_
        refine w_getR (pc := 59) C fl_X4_46 rfl dX4_wind_59 (St4_k f1) (St4_r10 f1) ?_
        refine w_getL (pc := 62) C fl_X4_131 rfl dX4_wind_62 (St4_k10 f1) ?_
        refine w_lmul (pc := 65) C dX4_wind_65 ?_
        refine w_lstore (pc := 66) C dX4_wind_66 (by decide) ?_
        refine w_aload_n (pc := 68) C dX4_wind_68 rfl ?_
        refine w_getR (pc := 69) C fl_X4_43 rfl dX4_wind_69 (St4_k f1) (St4_r9 f1) ?_
        refine w_getL (pc := 72) C fl_X4_135 rfl dX4_wind_72 (St4_k9 f1) ?_
        refine w_aload_n (pc := 75) C dX4_wind_75 rfl ?_
        refine w_getR (pc := 76) C fl_X4_46 rfl dX4_wind_76 (St4_k f1) (St4_r10 f1) ?_
        refine w_getL (pc := 79) C fl_X4_135 rfl dX4_wind_79 (St4_k10 f1) ?_
        refine w_lmul (pc := 82) C dX4_wind_82 ?_
        refine w_lstore (pc := 83) C dX4_wind_83 (by decide) ?_
        refine w_lload (pc := 85) C dX4_wind_85 rfl ?_
        refine w_lconst (pc := 87) C (v := 0) dX4_wind_87 (by decide) ?_
        refine w_lcmp_gt (pc := 88) C (tgt := 95) dX4_wind_88 dX4_wind_89 (by decide) ?_
        obtain ⟨hv1, hv2⟩ := hv
        refine ⟨fun c4 => ?_, fun c4 => ?_⟩
        · have hv := hv1 c4
          refine w_iload_n (pc := 95) C dX4_wind_95 rfl ?_
          refine w_iconst (pc := 96) C (v := 1) dX4_wind_96 (by decide) ?_
          refine w_icmp_ne (pc := 97) C (tgt := 106) dX4_wind_97 (by decide) ?_
          obtain ⟨hv1, hv2⟩ := hv
          refine ⟨fun c3 => ?_, fun c3 => ?_⟩
          · have hv := hv1 c3
            refine w_lload (pc := 106) C dX4_wind_106 rfl ?_
            refine w_sub ?_ hv
            exact ⟨rfl, rfl, trivial⟩
          · have hv := hv2 c3
            refine w_lload (pc := 100) C dX4_wind_100 rfl ?_
            refine w_lneg (pc := 102) C dX4_wind_102 ?_
            refine w_goto (pc := 103) C (tgt := 108) dX4_wind_103 (by decide) ?_
            refine w_sub ?_ hv
            exact ⟨rfl, rfl, trivial⟩
        · have hv := hv2 c4
          refine w_bipush (pc := 92) C (v := (-4)) dX4_wind_92 (by decide) ?_
          exact w_iret (pc := 94) C dX4_wind_94 hv
      · have hv := hv2 c5
        refine w_iconst (pc := 41) C (v := (-1)) dX4_wind_41 (by decide) ?_
        exact w_iret (pc := 42) C dX4_wind_42 hv
set_option maxRecDepth 20000 in
set_option maxHeartbeats 2000000 in
theorem V_X4_wind_108 {X : Ctx} (C : C_X4_wind X) {k n : Nat} {Q : Pq} {h : Hp} {v0 : Nat} {v7 s0 : Int64}
    (hv : St4 h v0 ∧ 0 < (Int64.toInt (gl h (v0 + 3) 1)) ∧ ¬ v7 = 0 ∧ -9223372036854775807 ≤ (Int64.toInt ((((gl h (v0 + 2) 0) * (gl h (v0 + 3) 1)) + ((fmL s0 (gl h (v0 + 3) 1)) * (gl h (v0 + 2) 1))) % v7)) ∧ 0 < (Int64.toInt v7) ∧ (((gl (fpt h (v0 + 3) ((((gl h (v0 + 2) 0) * (gl h (v0 + 3) 1)) + ((fmL s0 (gl h (v0 + 3) 1)) * (gl h (v0 + 2) 1))) % v7) v7) (v0 + 3) 1) ≤ 1000000000 → Q (some (.int 0)) (fcp (fpt h (v0 + 3) ((((gl h (v0 + 2) 0) * (gl h (v0 + 3) 1)) + ((fmL s0 (gl h (v0 + 3) 1)) * (gl h (v0 + 2) 1))) % v7) v7) (v0 + 2) (v0 + 3))) ∧
    (¬ (gl (fpt h (v0 + 3) ((((gl h (v0 + 2) 0) * (gl h (v0 + 3) 1)) + ((fmL s0 (gl h (v0 + 3) 1)) * (gl h (v0 + 2) 1))) % v7) v7) (v0 + 3) 1) ≤ 1000000000 → Q (some (.int (-4))) (fpt h (v0 + 3) ((((gl h (v0 + 2) 0) * (gl h (v0 + 3) 1)) + ((fmL s0 (gl h (v0 + 3) 1)) * (gl h (v0 + 2) 1))) % v7) v7)))) :
    Wj X k n Q 108 [(0, .ref v0), (7, .long v7)] [.long s0] h := by
  refine w_aload_n (pc := 108) C dX4_wind_108 rfl ?_
  obtain ⟨f1, hv⟩ := hv
  refine w_getR (pc := 109) C fl_X4_46 rfl dX4_wind_109 (St4_k f1) (St4_r10 f1) ?_
  refine w_getL (pc := 112) C fl_X4_135 rfl dX4_wind_112 (St4_k10 f1) ?_
  obtain ⟨f2, hv⟩ := hv
  refine w_cS0_2 (pc := 115) C cl_X4_144 ls_J9_floorMod_f86c9 (by decide) dX4_wind_115 (Nat.le_of_ble_eq_true rfl) ((sf_J9_floorMod_f86c9 (h := h) f2).mono (fun v h9 hp => ?_))
  obtain ⟨e1, e2⟩ := hp
  rw [e1, e2]
  refine w_aload_n (pc := 118) C dX4_wind_118 rfl ?_
  refine w_getR (pc := 119) C fl_X4_43 rfl dX4_wind_119 (St4_k f1) (St4_r9 f1) ?_
  refine w_getL (pc := 122) C fl_X4_135 rfl dX4_wind_122 (St4_k9 f1) ?_
  refine w_lmul (pc := 125) C dX4_wind_125 ?_
  refine w_lstore (pc := 126) C dX4_wind_126 (by decide) ?_
  refine w_aload_n (pc := 128) C dX4_wind_128 rfl ?_
  refine w_getR (pc := 129) C fl_X4_46 rfl dX4_wind_129 (St4_k f1) (St4_r10 f1) ?_
  refine w_aload_n (pc := 132) C dX4_wind_132 rfl ?_
  refine w_getR (pc := 133) C fl_X4_43 rfl dX4_wind_133 (St4_k f1) (St4_r9 f1) ?_
  refine w_getL (pc := 136) C fl_X4_131 rfl dX4_wind_136 (St4_k9 f1) ?_
  refine w_aload_n (pc := 139) C dX4_wind_139 rfl ?_
  refine w_getR (pc := 140) C fl_X4_46 rfl dX4_wind_140 (St4_k f1) (St4_r10 f1) ?_
  refine w_getL (pc := 143) C fl_X4_135 rfl dX4_wind_143 (St4_k10 f1) ?_
  refine w_lmul (pc := 146) C dX4_wind_146 ?_
  refine w_lload (pc := 147) C dX4_wind_147 rfl ?_
  refine w_ladd (pc := 149) C dX4_wind_149 ?_
  refine w_lload (pc := 150) C dX4_wind_150 rfl ?_
  obtain ⟨f3, hv⟩ := hv
  refine w_lrem (pc := 152) C dX4_wind_152 f3 ?_
  refine w_lload (pc := 153) C dX4_wind_153 rfl ?_
  obtain ⟨f4, hv⟩ := hv
  obtain ⟨f5, hv⟩ := hv
  refine w_cV0_2 (pc := 155) C cl_X4_127 lv_X2_put (by decide) dX4_wind_155 (Nat.le_of_ble_eq_true rfl) (c := 2) rfl (St4_k10 f1) ((sf_X2_put (h := h) (St4_k10 f1) f4 f5).mono (fun v h9 hp => ?_))
  obtain ⟨e1, e2⟩ := hp
  rw [e1, e2]
  refine w_aload_n (pc := 158) C dX4_wind_158 rfl ?_
  refine w_getR (pc := 159) C fl_X4_46 rfl dX4_wind_159 (St4_k f1) (St4_r10 f1) ?_
  refine w_getL (pc := 162) C fl_X4_135 rfl dX4_wind_162 (St4_k10 f1) ?_
  refine w_ldc2 (pc := 165) C ctl_X4_150 dX4_wind_165 ?_
  refine w_lcmp_le (pc := 168) C (tgt := 175) dX4_wind_168 dX4_wind_169 (by decide) ?_
  obtain ⟨hv1, hv2⟩ := hv
  refine ⟨fun c6 => ?_, fun c6 => ?_⟩
  · have hv := hv1 c6
    refine w_aload_n (pc := 175) C dX4_wind_175 rfl ?_
    refine w_getR (pc := 176) C fl_X4_43 rfl dX4_wind_176 (St4_k f1) (St4_r9 f1) ?_
    refine w_aload_n (pc := 179) C dX4_wind_179 rfl ?_
    refine w_getR (pc := 180) C fl_X4_46 rfl dX4_wind_180 (St4_k f1) (St4_r10 f1) ?_
    refine w_cV0_1 (pc := 183) C cl_X4_85 lv_X2_copyFrom (by decide) dX4_wind_183 (Nat.le_of_ble_eq_true rfl) (c := 2) rfl (St4_k9 f1) ((sf_X2_copyFrom (h := (fpt h (v0 + 3) ((((gl h (v0 + 2) 0) * (gl h (v0 + 3) 1)) + ((fmL s0 (gl h (v0 + 3) 1)) * (gl h (v0 + 2) 1))) % v7) v7)) (St4_k9 f1) (St4_k10 f1)).mono (fun v h9 hp => ?_))
    obtain ⟨e1, e2⟩ := hp
    rw [e1, e2]
    refine w_iconst (pc := 186) C (v := 0) dX4_wind_186 (by decide) ?_
    exact w_iret (pc := 187) C dX4_wind_187 hv
  · have hv := hv2 c6
    refine w_bipush (pc := 172) C (v := (-4)) dX4_wind_172 (by decide) ?_
    exact w_iret (pc := 174) C dX4_wind_174 hv
theorem dX4_scribe_0 : decode cX4_scribe 0 = .ok (.iconst 0, 1) := by decide +kernel
theorem dX4_scribe_1 : decode cX4_scribe 1 = .ok (.istore_n 1, 1) := by decide +kernel
theorem dX4_scribe_2 : decode cX4_scribe 2 = .ok (.iconst 0, 1) := by decide +kernel
theorem dX4_scribe_3 : decode cX4_scribe 3 = .ok (.istore_n 2, 1) := by decide +kernel
theorem dX4_scribe_4 : decode cX4_scribe 4 = .ok (.iload_n 2, 1) := by decide +kernel
theorem dX4_scribe_5 : decode cX4_scribe 5 = .ok (.aload_n 0, 1) := by decide +kernel
theorem dX4_scribe_6 : decode cX4_scribe 6 = .ok (.getfield 33, 3) := by decide +kernel
theorem dX4_scribe_9 : decode cX4_scribe 9 = .ok (.if_icmp .ge 21, 3) := by decide +kernel
theorem dX4_scribe_12 : decode cX4_scribe 12 = .ok (.aload_n 0, 1) := by decide +kernel
theorem dX4_scribe_13 : decode cX4_scribe 13 = .ok (.iload_n 2, 1) := by decide +kernel
theorem dX4_scribe_14 : decode cX4_scribe 14 = .ok (.invokevirtual 156, 3) := by decide +kernel
theorem dX4_scribe_17 : decode cX4_scribe 17 = .ok (.ifCond .ge 13, 3) := by decide +kernel
theorem dX4_scribe_20 : decode cX4_scribe 20 = .ok (.iload_n 2, 1) := by decide +kernel
theorem dX4_scribe_21 : decode cX4_scribe 21 = .ok (.iconst 1, 1) := by decide +kernel
theorem dX4_scribe_22 : decode cX4_scribe 22 = .ok (.iadd, 1) := by decide +kernel
theorem dX4_scribe_23 : decode cX4_scribe 23 = .ok (.istore_n 1, 1) := by decide +kernel
theorem dX4_scribe_24 : decode cX4_scribe 24 = .ok (.iinc 2 1, 3) := by decide +kernel
theorem dX4_scribe_27 : decode cX4_scribe 27 = .ok (.goto (-23), 3) := by decide +kernel
theorem dX4_scribe_30 : decode cX4_scribe 30 = .ok (.aload_n 0, 1) := by decide +kernel
theorem dX4_scribe_31 : decode cX4_scribe 31 = .ok (.iload_n 1, 1) := by decide +kernel
theorem dX4_scribe_32 : decode cX4_scribe 32 = .ok (.invokevirtual 109, 3) := by decide +kernel
theorem dX4_scribe_35 : decode cX4_scribe 35 = .ok (.ifCond .eq 14, 3) := by decide +kernel
theorem dX4_scribe_38 : decode cX4_scribe 38 = .ok (.aload_n 0, 1) := by decide +kernel
theorem dX4_scribe_39 : decode cX4_scribe 39 = .ok (.iload_n 1, 1) := by decide +kernel
theorem dX4_scribe_40 : decode cX4_scribe 40 = .ok (.invokevirtual 156, 3) := by decide +kernel
theorem dX4_scribe_43 : decode cX4_scribe 43 = .ok (.ifCond .ne 6, 3) := by decide +kernel
theorem dX4_scribe_46 : decode cX4_scribe 46 = .ok (.bipush (-2), 2) := by decide +kernel
theorem dX4_scribe_48 : decode cX4_scribe 48 = .ok (.ireturn, 1) := by decide +kernel
theorem dX4_scribe_49 : decode cX4_scribe 49 = .ok (.aload_n 0, 1) := by decide +kernel
theorem dX4_scribe_50 : decode cX4_scribe 50 = .ok (.getfield 33, 3) := by decide +kernel
theorem dX4_scribe_53 : decode cX4_scribe 53 = .ok (.bipush 60, 2) := by decide +kernel
theorem dX4_scribe_55 : decode cX4_scribe 55 = .ok (.if_icmp .lt 6, 3) := by decide +kernel
theorem dX4_scribe_58 : decode cX4_scribe 58 = .ok (.bipush (-3), 2) := by decide +kernel
theorem dX4_scribe_60 : decode cX4_scribe 60 = .ok (.ireturn, 1) := by decide +kernel
theorem dX4_scribe_61 : decode cX4_scribe 61 = .ok (.aload_n 0, 1) := by decide +kernel
theorem dX4_scribe_62 : decode cX4_scribe 62 = .ok (.getfield 33, 3) := by decide +kernel
theorem dX4_scribe_65 : decode cX4_scribe 65 = .ok (.istore_n 2, 1) := by decide +kernel
theorem dX4_scribe_66 : decode cX4_scribe 66 = .ok (.iload_n 2, 1) := by decide +kernel
theorem dX4_scribe_67 : decode cX4_scribe 67 = .ok (.iload_n 1, 1) := by decide +kernel
theorem dX4_scribe_68 : decode cX4_scribe 68 = .ok (.if_icmp .le 43, 3) := by decide +kernel
theorem dX4_scribe_71 : decode cX4_scribe 71 = .ok (.iload_n 2, 1) := by decide +kernel
theorem dX4_scribe_72 : decode cX4_scribe 72 = .ok (.bipush 60, 2) := by decide +kernel
theorem dX4_scribe_74 : decode cX4_scribe 74 = .ok (.if_icmp .ge 37, 3) := by decide +kernel
theorem dX4_scribe_77 : decode cX4_scribe 77 = .ok (.aload_n 0, 1) := by decide +kernel
theorem dX4_scribe_78 : decode cX4_scribe 78 = .ok (.getfield 59, 3) := by decide +kernel
theorem dX4_scribe_81 : decode cX4_scribe 81 = .ok (.iload_n 2, 1) := by decide +kernel
theorem dX4_scribe_82 : decode cX4_scribe 82 = .ok (.aload_n 0, 1) := by decide +kernel
theorem dX4_scribe_83 : decode cX4_scribe 83 = .ok (.getfield 59, 3) := by decide +kernel
theorem dX4_scribe_86 : decode cX4_scribe 86 = .ok (.iload_n 2, 1) := by decide +kernel
theorem dX4_scribe_87 : decode cX4_scribe 87 = .ok (.iconst 1, 1) := by decide +kernel
theorem dX4_scribe_88 : decode cX4_scribe 88 = .ok (.isub, 1) := by decide +kernel
theorem dX4_scribe_89 : decode cX4_scribe 89 = .ok (.laload, 1) := by decide +kernel
theorem dX4_scribe_90 : decode cX4_scribe 90 = .ok (.lastore, 1) := by decide +kernel
theorem dX4_scribe_91 : decode cX4_scribe 91 = .ok (.aload_n 0, 1) := by decide +kernel
theorem dX4_scribe_92 : decode cX4_scribe 92 = .ok (.getfield 63, 3) := by decide +kernel
theorem dX4_scribe_95 : decode cX4_scribe 95 = .ok (.iload_n 2, 1) := by decide +kernel
theorem dX4_scribe_96 : decode cX4_scribe 96 = .ok (.aload_n 0, 1) := by decide +kernel
theorem dX4_scribe_97 : decode cX4_scribe 97 = .ok (.getfield 63, 3) := by decide +kernel
theorem dX4_scribe_100 : decode cX4_scribe 100 = .ok (.iload_n 2, 1) := by decide +kernel
theorem dX4_scribe_101 : decode cX4_scribe 101 = .ok (.iconst 1, 1) := by decide +kernel
theorem dX4_scribe_102 : decode cX4_scribe 102 = .ok (.isub, 1) := by decide +kernel
theorem dX4_scribe_103 : decode cX4_scribe 103 = .ok (.laload, 1) := by decide +kernel
theorem dX4_scribe_104 : decode cX4_scribe 104 = .ok (.lastore, 1) := by decide +kernel
theorem dX4_scribe_105 : decode cX4_scribe 105 = .ok (.iinc 2 (-1), 3) := by decide +kernel
theorem dX4_scribe_108 : decode cX4_scribe 108 = .ok (.goto (-42), 3) := by decide +kernel
theorem dX4_scribe_111 : decode cX4_scribe 111 = .ok (.iload_n 1, 1) := by decide +kernel
theorem dX4_scribe_112 : decode cX4_scribe 112 = .ok (.bipush 60, 2) := by decide +kernel
theorem dX4_scribe_114 : decode cX4_scribe 114 = .ok (.if_icmp .ge 29, 3) := by decide +kernel
theorem dX4_scribe_117 : decode cX4_scribe 117 = .ok (.aload_n 0, 1) := by decide +kernel
theorem dX4_scribe_118 : decode cX4_scribe 118 = .ok (.getfield 59, 3) := by decide +kernel
theorem dX4_scribe_121 : decode cX4_scribe 121 = .ok (.iload_n 1, 1) := by decide +kernel
theorem dX4_scribe_122 : decode cX4_scribe 122 = .ok (.aload_n 0, 1) := by decide +kernel
theorem dX4_scribe_123 : decode cX4_scribe 123 = .ok (.getfield 43, 3) := by decide +kernel
theorem dX4_scribe_126 : decode cX4_scribe 126 = .ok (.getfield 131, 3) := by decide +kernel
theorem dX4_scribe_129 : decode cX4_scribe 129 = .ok (.lastore, 1) := by decide +kernel
theorem dX4_scribe_130 : decode cX4_scribe 130 = .ok (.aload_n 0, 1) := by decide +kernel
theorem dX4_scribe_131 : decode cX4_scribe 131 = .ok (.getfield 63, 3) := by decide +kernel
theorem dX4_scribe_134 : decode cX4_scribe 134 = .ok (.iload_n 1, 1) := by decide +kernel
theorem dX4_scribe_135 : decode cX4_scribe 135 = .ok (.aload_n 0, 1) := by decide +kernel
theorem dX4_scribe_136 : decode cX4_scribe 136 = .ok (.getfield 43, 3) := by decide +kernel
theorem dX4_scribe_139 : decode cX4_scribe 139 = .ok (.getfield 135, 3) := by decide +kernel
theorem dX4_scribe_142 : decode cX4_scribe 142 = .ok (.lastore, 1) := by decide +kernel
theorem dX4_scribe_143 : decode cX4_scribe 143 = .ok (.aload_n 0, 1) := by decide +kernel
theorem dX4_scribe_144 : decode cX4_scribe 144 = .ok (.dup, 1) := by decide +kernel
theorem dX4_scribe_145 : decode cX4_scribe 145 = .ok (.getfield 33, 3) := by decide +kernel
theorem dX4_scribe_148 : decode cX4_scribe 148 = .ok (.iconst 1, 1) := by decide +kernel
theorem dX4_scribe_149 : decode cX4_scribe 149 = .ok (.iadd, 1) := by decide +kernel
theorem dX4_scribe_150 : decode cX4_scribe 150 = .ok (.putfield 33, 3) := by decide +kernel
theorem dX4_scribe_153 : decode cX4_scribe 153 = .ok (.aload_n 0, 1) := by decide +kernel
theorem dX4_scribe_154 : decode cX4_scribe 154 = .ok (.getfield 33, 3) := by decide +kernel
theorem dX4_scribe_157 : decode cX4_scribe 157 = .ok (.ireturn, 1) := by decide +kernel
set_option maxRecDepth 20000 in
set_option maxHeartbeats 2000000 in
theorem V_X4_scribe_0 {X : Ctx} (C : C_X4_scribe X) {k n : Nat} {Q : Pq} {h : Hp} {v0 : Nat}
    (hv : Wj X k n Q 4 [(0, .ref v0), (1, .int 0), (2, .int 0)] [] h) :
    Wj X k n Q 0 [(0, .ref v0)] [] h := by
  refine w_iconst (pc := 0) C (v := 0) dX4_scribe_0 (by decide) ?_
  refine w_istore_n (pc := 1) C dX4_scribe_1 (by decide) ?_
  refine w_iconst (pc := 2) C (v := 0) dX4_scribe_2 (by decide) ?_
  refine w_istore_n (pc := 3) C dX4_scribe_3 (by decide) ?_
  refine w_sub ?_ hv
  exact ⟨rfl, rfl, rfl, trivial⟩
set_option maxRecDepth 20000 in
set_option maxHeartbeats 2000000 in
theorem V_X4_scribe_4 {X : Ctx} (C : C_X4_scribe X) {k n : Nat} {Q : Pq} {h : Hp} {v0 : Nat} {v1 v2 : Int32}
    (hv : St4 h v0 ∧ (((gi h v0 7) ≤ v2 → Wj X k n Q 30 [(0, .ref v0), (1, .int v1)] [] h) ∧
    (¬ (gi h v0 7) ≤ v2 → ((0 ≤ (cmpL (hMu h v0 v2 * gl h (v0 + 2) 1) (gl h (v0 + 2) 0 * hMl h v0 v2)) → Wj X k n Q 30 [(0, .ref v0), (1, .int v1)] [] h) ∧
    (¬ 0 ≤ (cmpL (hMu h v0 v2 * gl h (v0 + 2) 1) (gl h (v0 + 2) 0 * hMl h v0 v2)) → Wj X k n Q 4 [(0, .ref v0), (1, .int (v2 + 1)), (2, .int (v2 + Int32.ofInt 1))] [] h))))) :
    Wj X k n Q 4 [(0, .ref v0), (1, .int v1), (2, .int v2)] [] h := by
  refine w_iload_n (pc := 4) C dX4_scribe_4 rfl ?_
  refine w_aload_n (pc := 5) C dX4_scribe_5 rfl ?_
  obtain ⟨f1, hv⟩ := hv
  refine w_getI (pc := 6) C fl_X4_33 rfl dX4_scribe_6 (St4_k f1) ?_
  refine w_icmp_ge (pc := 9) C (tgt := 30) dX4_scribe_9 (by decide) ?_
  obtain ⟨hv1, hv2⟩ := hv
  refine ⟨fun c3 => ?_, fun c3 => ?_⟩
  · have hv := hv1 c3
    refine w_sub ?_ hv
    exact ⟨rfl, rfl, trivial⟩
  · have hv := hv2 c3
    refine w_aload_n (pc := 12) C dX4_scribe_12 rfl ?_
    refine w_iload_n (pc := 13) C dX4_scribe_13 rfl ?_
    refine w_cV0_1 (pc := 14) C cl_X4_156 lv_X4_compareMark (by decide) dX4_scribe_14 (Nat.le_of_ble_eq_true rfl) (c := 4) rfl (St4_k f1) ((sf_X4_compareMark (h := h) f1).mono (fun v h9 hp => ?_))
    obtain ⟨e1, e2⟩ := hp
    rw [e1, e2]
    refine w_if_ge (pc := 17) C (tgt := 30) dX4_scribe_17 (by decide) ?_
    obtain ⟨hv1, hv2⟩ := hv
    refine ⟨fun c2 => ?_, fun c2 => ?_⟩
    · have hv := hv1 c2
      refine w_sub ?_ hv
      exact ⟨rfl, rfl, trivial⟩
    · have hv := hv2 c2
      refine w_iload_n (pc := 20) C dX4_scribe_20 rfl ?_
      refine w_iconst (pc := 21) C (v := 1) dX4_scribe_21 (by decide) ?_
      refine w_iadd (pc := 22) C dX4_scribe_22 ?_
      refine w_istore_n (pc := 23) C dX4_scribe_23 (by decide) ?_
      refine w_iinc (pc := 24) C dX4_scribe_24 rfl (by decide) ?_
      refine w_goto (pc := 27) C (tgt := 4) dX4_scribe_27 (by decide) ?_
      refine w_sub ?_ hv
      exact ⟨rfl, rfl, rfl, trivial⟩
set_option maxRecDepth 20000 in
set_option maxHeartbeats 2000000 in
theorem V_X4_scribe_30 {X : Ctx} (C : C_X4_scribe X) {k n : Nat} {Q : Pq} {h : Hp} {v0 : Nat} {v1 : Int32}
    (hv : St4 h v0 ∧ (((hIs h v0 7 v1) = 0 → Wj X k n Q 49 [(0, .ref v0), (1, .int v1)] [] h) ∧
    (¬ (hIs h v0 7 v1) = 0 → ((¬ (cmpL (hMu h v0 v1 * gl h (v0 + 2) 1) (gl h (v0 + 2) 0 * hMl h v0 v1)) = 0 → Wj X k n Q 49 [(0, .ref v0), (1, .int v1)] [] h) ∧
    ((cmpL (hMu h v0 v1 * gl h (v0 + 2) 1) (gl h (v0 + 2) 0 * hMl h v0 v1)) = 0 → Q (some (.int (-2))) h))))) :
    Wj X k n Q 30 [(0, .ref v0), (1, .int v1)] [] h := by
  refine w_aload_n (pc := 30) C dX4_scribe_30 rfl ?_
  refine w_iload_n (pc := 31) C dX4_scribe_31 rfl ?_
  obtain ⟨f1, hv⟩ := hv
  refine w_cV0_1 (pc := 32) C cl_X4_109 lv_X4_isMark (by decide) dX4_scribe_32 (Nat.le_of_ble_eq_true rfl) (c := 4) rfl (St4_k f1) ((sf_X4_isMark (h := h) f1).mono (fun v h9 hp => ?_))
  obtain ⟨e1, e2⟩ := hp
  rw [e1, e2]
  refine w_if_eq (pc := 35) C (tgt := 49) dX4_scribe_35 (by decide) ?_
  obtain ⟨hv1, hv2⟩ := hv
  refine ⟨fun c3 => ?_, fun c3 => ?_⟩
  · have hv := hv1 c3
    refine w_sub ?_ hv
    exact ⟨rfl, rfl, trivial⟩
  · have hv := hv2 c3
    refine w_aload_n (pc := 38) C dX4_scribe_38 rfl ?_
    refine w_iload_n (pc := 39) C dX4_scribe_39 rfl ?_
    refine w_cV0_1 (pc := 40) C cl_X4_156 lv_X4_compareMark (by decide) dX4_scribe_40 (Nat.le_of_ble_eq_true rfl) (c := 4) rfl (St4_k f1) ((sf_X4_compareMark (h := h) f1).mono (fun v h9 hp => ?_))
    obtain ⟨e1, e2⟩ := hp
    rw [e1, e2]
    refine w_if_ne (pc := 43) C (tgt := 49) dX4_scribe_43 (by decide) ?_
    obtain ⟨hv1, hv2⟩ := hv
    refine ⟨fun c2 => ?_, fun c2 => ?_⟩
    · have hv := hv1 c2
      refine w_sub ?_ hv
      exact ⟨rfl, rfl, trivial⟩
    · have hv := hv2 c2
      refine w_bipush (pc := 46) C (v := (-2)) dX4_scribe_46 (by decide) ?_
      exact w_iret (pc := 48) C dX4_scribe_48 hv
set_option maxRecDepth 20000 in
set_option maxHeartbeats 2000000 in
theorem V_X4_scribe_49 {X : Ctx} (C : C_X4_scribe X) {k n : Nat} {Q : Pq} {h : Hp} {v0 : Nat} {v1 : Int32}
    (hv : St4 h v0 ∧ (((gi h v0 7) < 60 → Wj X k n Q 66 [(0, .ref v0), (1, .int v1), (2, .int (gi h v0 7))] [] h) ∧
    (¬ (gi h v0 7) < 60 → Q (some (.int (-3))) h))) :
    Wj X k n Q 49 [(0, .ref v0), (1, .int v1)] [] h := by
  refine w_aload_n (pc := 49) C dX4_scribe_49 rfl ?_
  obtain ⟨f1, hv⟩ := hv
  refine w_getI (pc := 50) C fl_X4_33 rfl dX4_scribe_50 (St4_k f1) ?_
  refine w_bipush (pc := 53) C (v := 60) dX4_scribe_53 (by decide) ?_
  refine w_icmp_lt (pc := 55) C (tgt := 61) dX4_scribe_55 (by decide) ?_
  obtain ⟨hv1, hv2⟩ := hv
  refine ⟨fun c2 => ?_, fun c2 => ?_⟩
  · have hv := hv1 c2
    refine w_aload_n (pc := 61) C dX4_scribe_61 rfl ?_
    refine w_getI (pc := 62) C fl_X4_33 rfl dX4_scribe_62 (St4_k f1) ?_
    refine w_istore_n (pc := 65) C dX4_scribe_65 (by decide) ?_
    refine w_sub ?_ hv
    exact ⟨rfl, rfl, rfl, trivial⟩
  · have hv := hv2 c2
    refine w_bipush (pc := 58) C (v := (-3)) dX4_scribe_58 (by decide) ?_
    exact w_iret (pc := 60) C dX4_scribe_60 hv
set_option maxRecDepth 20000 in
set_option maxHeartbeats 2000000 in
theorem V_X4_scribe_66 {X : Ctx} (C : C_X4_scribe X) {k n : Nat} {Q : Pq} {h : Hp} {v0 : Nat} {v1 v2 : Int32}
    (hv : ((v2 ≤ v1 → Wj X k n Q 111 [(0, .ref v0), (1, .int v1)] [] h) ∧
    (¬ v2 ≤ v1 → ((60 ≤ v2 → Wj X k n Q 111 [(0, .ref v0), (1, .int v1)] [] h) ∧
    (¬ 60 ≤ v2 → St4 h v0 ∧ inb (v2 - 1) 60 ∧ inb v2 60 ∧ Wj X k n Q 66 [(0, .ref v0), (1, .int v1), (2, .int (v2 + Int32.ofInt (-1)))] [] (sl (sl h (v0 + 7) (ix v2) (gl h (v0 + 7) (ix (v2 - 1)))) (v0 + 8) (ix v2) (gl (sl h (v0 + 7) (ix v2) (gl h (v0 + 7) (ix (v2 - 1)))) (v0 + 8) (ix (v2 - 1))))))))) :
    Wj X k n Q 66 [(0, .ref v0), (1, .int v1), (2, .int v2)] [] h := by
  refine w_iload_n (pc := 66) C dX4_scribe_66 rfl ?_
  refine w_iload_n (pc := 67) C dX4_scribe_67 rfl ?_
  refine w_icmp_le (pc := 68) C (tgt := 111) dX4_scribe_68 (by decide) ?_
  obtain ⟨hv1, hv2⟩ := hv
  refine ⟨fun c5 => ?_, fun c5 => ?_⟩
  · have hv := hv1 c5
    refine w_sub ?_ hv
    exact ⟨rfl, rfl, trivial⟩
  · have hv := hv2 c5
    refine w_iload_n (pc := 71) C dX4_scribe_71 rfl ?_
    refine w_bipush (pc := 72) C (v := 60) dX4_scribe_72 (by decide) ?_
    refine w_icmp_ge (pc := 74) C (tgt := 111) dX4_scribe_74 (by decide) ?_
    obtain ⟨hv1, hv2⟩ := hv
    refine ⟨fun c4 => ?_, fun c4 => ?_⟩
    · have hv := hv1 c4
      refine w_sub ?_ hv
      exact ⟨rfl, rfl, trivial⟩
    · have hv := hv2 c4
      refine w_aload_n (pc := 77) C dX4_scribe_77 rfl ?_
      obtain ⟨f1, hv⟩ := hv
      refine w_getR (pc := 78) C fl_X4_59 rfl dX4_scribe_78 (St4_k f1) (St4_r14 f1) ?_
      refine w_iload_n (pc := 81) C dX4_scribe_81 rfl ?_
      refine w_aload_n (pc := 82) C dX4_scribe_82 rfl ?_
      refine w_getR (pc := 83) C fl_X4_59 rfl dX4_scribe_83 (St4_k f1) (St4_r14 f1) ?_
      refine w_iload_n (pc := 86) C dX4_scribe_86 rfl ?_
      refine w_iconst (pc := 87) C (v := 1) dX4_scribe_87 (by decide) ?_
      refine w_isub (pc := 88) C dX4_scribe_88 ?_
      obtain ⟨f2, hv⟩ := hv
      refine w_lald (pc := 89) C dX4_scribe_89 (St4_k14 f1) (inbl (St4_l14 f1) f2) ?_
      obtain ⟨f3, hv⟩ := hv
      refine w_last (pc := 90) C dX4_scribe_90 (St4_k14 f1) (inbl (St4_l14 f1) f3) ?_
      refine w_aload_n (pc := 91) C dX4_scribe_91 rfl ?_
      refine w_getR (pc := 92) C fl_X4_63 rfl dX4_scribe_92 (St4_k f1) (St4_r15 f1) ?_
      refine w_iload_n (pc := 95) C dX4_scribe_95 rfl ?_
      refine w_aload_n (pc := 96) C dX4_scribe_96 rfl ?_
      refine w_getR (pc := 97) C fl_X4_63 rfl dX4_scribe_97 (St4_k f1) (St4_r15 f1) ?_
      refine w_iload_n (pc := 100) C dX4_scribe_100 rfl ?_
      refine w_iconst (pc := 101) C (v := 1) dX4_scribe_101 (by decide) ?_
      refine w_isub (pc := 102) C dX4_scribe_102 ?_
      refine w_lald (pc := 103) C dX4_scribe_103 (St4_k15 f1) (inbl (St4_l15 f1) f2) ?_
      refine w_last (pc := 104) C dX4_scribe_104 (St4_k15 f1) (inbl (St4_l15 f1) f3) ?_
      refine w_iinc (pc := 105) C dX4_scribe_105 rfl (by decide) ?_
      refine w_goto (pc := 108) C (tgt := 66) dX4_scribe_108 (by decide) ?_
      refine w_sub ?_ hv
      exact ⟨rfl, rfl, rfl, trivial⟩
set_option maxRecDepth 20000 in
set_option maxHeartbeats 2000000 in
theorem V_X4_scribe_111 {X : Ctx} (C : C_X4_scribe X) {k n : Nat} {Q : Pq} {h : Hp} {v0 : Nat} {v1 : Int32}
    (hv : ((60 ≤ v1 → Wj X k n Q 143 [(0, .ref v0)] [] h) ∧
    (¬ 60 ≤ v1 → St4 h v0 ∧ inb v1 60 ∧ Wj X k n Q 143 [(0, .ref v0)] [] (sl (sl h (v0 + 7) (ix v1) (gl h (v0 + 2) 0)) (v0 + 8) (ix v1) (gl (sl h (v0 + 7) (ix v1) (gl h (v0 + 2) 0)) (v0 + 2) 1))))) :
    Wj X k n Q 111 [(0, .ref v0), (1, .int v1)] [] h := by
  refine w_iload_n (pc := 111) C dX4_scribe_111 rfl ?_
  refine w_bipush (pc := 112) C (v := 60) dX4_scribe_112 (by decide) ?_
  refine w_icmp_ge (pc := 114) C (tgt := 143) dX4_scribe_114 (by decide) ?_
  obtain ⟨hv1, hv2⟩ := hv
  refine ⟨fun c3 => ?_, fun c3 => ?_⟩
  · have hv := hv1 c3
    refine w_sub ?_ hv
    exact ⟨rfl, trivial⟩
  · have hv := hv2 c3
    refine w_aload_n (pc := 117) C dX4_scribe_117 rfl ?_
    obtain ⟨f1, hv⟩ := hv
    refine w_getR (pc := 118) C fl_X4_59 rfl dX4_scribe_118 (St4_k f1) (St4_r14 f1) ?_
    refine w_iload_n (pc := 121) C dX4_scribe_121 rfl ?_
    refine w_aload_n (pc := 122) C dX4_scribe_122 rfl ?_
    refine w_getR (pc := 123) C fl_X4_43 rfl dX4_scribe_123 (St4_k f1) (St4_r9 f1) ?_
    refine w_getL (pc := 126) C fl_X4_131 rfl dX4_scribe_126 (St4_k9 f1) ?_
    obtain ⟨f2, hv⟩ := hv
    refine w_last (pc := 129) C dX4_scribe_129 (St4_k14 f1) (inbl (St4_l14 f1) f2) ?_
    refine w_aload_n (pc := 130) C dX4_scribe_130 rfl ?_
    refine w_getR (pc := 131) C fl_X4_63 rfl dX4_scribe_131 (St4_k f1) (St4_r15 f1) ?_
    refine w_iload_n (pc := 134) C dX4_scribe_134 rfl ?_
    refine w_aload_n (pc := 135) C dX4_scribe_135 rfl ?_
    refine w_getR (pc := 136) C fl_X4_43 rfl dX4_scribe_136 (St4_k f1) (St4_r9 f1) ?_
    refine w_getL (pc := 139) C fl_X4_135 rfl dX4_scribe_139 (St4_k9 f1) ?_
    refine w_last (pc := 142) C dX4_scribe_142 (St4_k15 f1) (inbl (St4_l15 f1) f2) ?_
    refine w_sub ?_ hv
    exact ⟨rfl, trivial⟩
set_option maxRecDepth 20000 in
set_option maxHeartbeats 2000000 in
theorem V_X4_scribe_143 {X : Ctx} (C : C_X4_scribe X) {k n : Nat} {Q : Pq} {h : Hp} {v0 : Nat}
    (hv : St4 h v0 ∧ Q (some (.int (gi (si h v0 7 ((gi h v0 7) + 1)) v0 7))) (si h v0 7 ((gi h v0 7) + 1))) :
    Wj X k n Q 143 [(0, .ref v0)] [] h := by
  refine w_aload_n (pc := 143) C dX4_scribe_143 rfl ?_
  refine w_dup (pc := 144) C dX4_scribe_144 rfl ?_
  obtain ⟨f1, hv⟩ := hv
  refine w_getI (pc := 145) C fl_X4_33 rfl dX4_scribe_145 (St4_k f1) ?_
  refine w_iconst (pc := 148) C (v := 1) dX4_scribe_148 (by decide) ?_
  refine w_iadd (pc := 149) C dX4_scribe_149 ?_
  refine w_putI (pc := 150) C fl_X4_33 rfl rfl dX4_scribe_150 (St4_k f1) ?_
  refine w_aload_n (pc := 153) C dX4_scribe_153 rfl ?_
  refine w_getI (pc := 154) C fl_X4_33 rfl dX4_scribe_154 (St4_k f1) ?_
  exact w_iret (pc := 157) C dX4_scribe_157 hv
theorem dX4_gapBehind_0 : decode cX4_gapBehind 0 = .ok (.aload_n 0, 1) := by decide +kernel
theorem dX4_gapBehind_1 : decode cX4_gapBehind 1 = .ok (.iload_n 1, 1) := by decide +kernel
theorem dX4_gapBehind_2 : decode cX4_gapBehind 2 = .ok (.iconst 1, 1) := by decide +kernel
theorem dX4_gapBehind_3 : decode cX4_gapBehind 3 = .ok (.iadd, 1) := by decide +kernel
theorem dX4_gapBehind_4 : decode cX4_gapBehind 4 = .ok (.invokevirtual 109, 3) := by decide +kernel
theorem dX4_gapBehind_7 : decode cX4_gapBehind 7 = .ok (.ifCond .eq 9, 3) := by decide +kernel
theorem dX4_gapBehind_10 : decode cX4_gapBehind 10 = .ok (.iload_n 1, 1) := by decide +kernel
theorem dX4_gapBehind_11 : decode cX4_gapBehind 11 = .ok (.iconst 1, 1) := by decide +kernel
theorem dX4_gapBehind_12 : decode cX4_gapBehind 12 = .ok (.iadd, 1) := by decide +kernel
theorem dX4_gapBehind_13 : decode cX4_gapBehind 13 = .ok (.goto 4, 3) := by decide +kernel
theorem dX4_gapBehind_16 : decode cX4_gapBehind 16 = .ok (.iconst 0, 1) := by decide +kernel
theorem dX4_gapBehind_17 : decode cX4_gapBehind 17 = .ok (.istore_n 3, 1) := by decide +kernel
theorem dX4_gapBehind_18 : decode cX4_gapBehind 18 = .ok (.aload_n 0, 1) := by decide +kernel
theorem dX4_gapBehind_19 : decode cX4_gapBehind 19 = .ok (.iload_n 1, 1) := by decide +kernel
theorem dX4_gapBehind_20 : decode cX4_gapBehind 20 = .ok (.invokevirtual 163, 3) := by decide +kernel
theorem dX4_gapBehind_23 : decode cX4_gapBehind 23 = .ok (.aload_n 0, 1) := by decide +kernel
theorem dX4_gapBehind_24 : decode cX4_gapBehind 24 = .ok (.iload_n 3, 1) := by decide +kernel
theorem dX4_gapBehind_25 : decode cX4_gapBehind 25 = .ok (.invokevirtual 163, 3) := by decide +kernel
theorem dX4_gapBehind_28 : decode cX4_gapBehind 28 = .ok (.lmul, 1) := by decide +kernel
theorem dX4_gapBehind_29 : decode cX4_gapBehind 29 = .ok (.lstore 4, 2) := by decide +kernel
theorem dX4_gapBehind_31 : decode cX4_gapBehind 31 = .ok (.aload_n 0, 1) := by decide +kernel
theorem dX4_gapBehind_32 : decode cX4_gapBehind 32 = .ok (.iload_n 3, 1) := by decide +kernel
theorem dX4_gapBehind_33 : decode cX4_gapBehind 33 = .ok (.invokevirtual 159, 3) := by decide +kernel
theorem dX4_gapBehind_36 : decode cX4_gapBehind 36 = .ok (.aload_n 0, 1) := by decide +kernel
theorem dX4_gapBehind_37 : decode cX4_gapBehind 37 = .ok (.iload_n 1, 1) := by decide +kernel
theorem dX4_gapBehind_38 : decode cX4_gapBehind 38 = .ok (.invokevirtual 163, 3) := by decide +kernel
theorem dX4_gapBehind_41 : decode cX4_gapBehind 41 = .ok (.lmul, 1) := by decide +kernel
theorem dX4_gapBehind_42 : decode cX4_gapBehind 42 = .ok (.aload_n 0, 1) := by decide +kernel
theorem dX4_gapBehind_43 : decode cX4_gapBehind 43 = .ok (.iload_n 1, 1) := by decide +kernel
theorem dX4_gapBehind_44 : decode cX4_gapBehind 44 = .ok (.invokevirtual 159, 3) := by decide +kernel
theorem dX4_gapBehind_47 : decode cX4_gapBehind 47 = .ok (.aload_n 0, 1) := by decide +kernel
theorem dX4_gapBehind_48 : decode cX4_gapBehind 48 = .ok (.iload_n 3, 1) := by decide +kernel
theorem dX4_gapBehind_49 : decode cX4_gapBehind 49 = .ok (.invokevirtual 163, 3) := by decide +kernel
theorem dX4_gapBehind_52 : decode cX4_gapBehind 52 = .ok (.lmul, 1) := by decide +kernel
theorem dX4_gapBehind_53 : decode cX4_gapBehind 53 = .ok (.lsub, 1) := by decide +kernel
theorem dX4_gapBehind_54 : decode cX4_gapBehind 54 = .ok (.lstore 6, 2) := by decide +kernel
theorem dX4_gapBehind_56 : decode cX4_gapBehind 56 = .ok (.aload_n 2, 1) := by decide +kernel
theorem dX4_gapBehind_57 : decode cX4_gapBehind 57 = .ok (.lload 6, 2) := by decide +kernel
theorem dX4_gapBehind_59 : decode cX4_gapBehind 59 = .ok (.lconst 0, 1) := by decide +kernel
theorem dX4_gapBehind_60 : decode cX4_gapBehind 60 = .ok (.lcmp, 1) := by decide +kernel
theorem dX4_gapBehind_61 : decode cX4_gapBehind 61 = .ok (.ifCond .gt 11, 3) := by decide +kernel
theorem dX4_gapBehind_64 : decode cX4_gapBehind 64 = .ok (.lload 6, 2) := by decide +kernel
theorem dX4_gapBehind_66 : decode cX4_gapBehind 66 = .ok (.lload 4, 2) := by decide +kernel
theorem dX4_gapBehind_68 : decode cX4_gapBehind 68 = .ok (.ladd, 1) := by decide +kernel
theorem dX4_gapBehind_69 : decode cX4_gapBehind 69 = .ok (.goto 5, 3) := by decide +kernel
theorem dX4_gapBehind_72 : decode cX4_gapBehind 72 = .ok (.lload 6, 2) := by decide +kernel
theorem dX4_gapBehind_74 : decode cX4_gapBehind 74 = .ok (.lload 4, 2) := by decide +kernel
theorem dX4_gapBehind_76 : decode cX4_gapBehind 76 = .ok (.invokevirtual 127, 3) := by decide +kernel
theorem dX4_gapBehind_79 : decode cX4_gapBehind 79 = .ok (.return_, 1) := by decide +kernel
set_option maxRecDepth 20000 in
set_option maxHeartbeats 2000000 in
theorem V_X4_gapBehind_0 {X : Ctx} (C : C_X4_gapBehind X) {k n : Nat} {Q : Pq} {h : Hp} {v0 v2 : Nat} {v1 : Int32}
    (hv : St4 h v0 ∧ (((hIs h v0 7 (v1 + 1)) = 0 → Wj X k n Q 17 [(0, .ref v0), (1, .int v1), (2, .ref v2)] [.int 0] h) ∧
    (¬ (hIs h v0 7 (v1 + 1)) = 0 → Wj X k n Q 17 [(0, .ref v0), (1, .int v1), (2, .ref v2)] [.int (v1 + 1)] h))) :
    Wj X k n Q 0 [(0, .ref v0), (1, .int v1), (2, .ref v2)] [] h := by
  refine w_aload_n (pc := 0) C dX4_gapBehind_0 rfl ?_
  refine w_iload_n (pc := 1) C dX4_gapBehind_1 rfl ?_
  refine w_iconst (pc := 2) C (v := 1) dX4_gapBehind_2 (by decide) ?_
  refine w_iadd (pc := 3) C dX4_gapBehind_3 ?_
  obtain ⟨f1, hv⟩ := hv
  refine w_cV0_1 (pc := 4) C cl_X4_109 lv_X4_isMark (by decide) dX4_gapBehind_4 (Nat.le_of_ble_eq_true rfl) (c := 4) rfl (St4_k f1) ((sf_X4_isMark (h := h) f1).mono (fun v h9 hp => ?_))
  obtain ⟨e1, e2⟩ := hp
  rw [e1, e2]
  refine w_if_eq (pc := 7) C (tgt := 16) dX4_gapBehind_7 (by decide) ?_
  obtain ⟨hv1, hv2⟩ := hv
  refine ⟨fun c2 => ?_, fun c2 => ?_⟩
  · have hv := hv1 c2
    refine w_iconst (pc := 16) C (v := 0) dX4_gapBehind_16 (by decide) ?_
    refine w_sub ?_ hv
    exact ⟨rfl, rfl, rfl, trivial⟩
  · have hv := hv2 c2
    refine w_iload_n (pc := 10) C dX4_gapBehind_10 rfl ?_
    refine w_iconst (pc := 11) C (v := 1) dX4_gapBehind_11 (by decide) ?_
    refine w_iadd (pc := 12) C dX4_gapBehind_12 ?_
    refine w_goto (pc := 13) C (tgt := 17) dX4_gapBehind_13 (by decide) ?_
    refine w_sub ?_ hv
    exact ⟨rfl, rfl, rfl, trivial⟩
set_option maxRecDepth 20000 in
set_option maxHeartbeats 2000000 in
theorem V_X4_gapBehind_17 {X : Ctx} (C : C_X4_gapBehind X) {k n : Nat} {Q : Pq} {h : Hp} {v0 v2 : Nat} {v1 s0 : Int32}
    (hv : St4 h v0 ∧ ((0 < (((hMu h v0 s0) * (hMl h v0 v1)) - ((hMu h v0 v1) * (hMl h v0 s0))) → kd h v2 = 3 ∧ -9223372036854775807 ≤ (Int64.toInt (((hMu h v0 s0) * (hMl h v0 v1)) - ((hMu h v0 v1) * (hMl h v0 s0)))) ∧ 0 < (Int64.toInt ((hMl h v0 v1) * (hMl h v0 s0))) ∧ Q none (fpt h v2 (((hMu h v0 s0) * (hMl h v0 v1)) - ((hMu h v0 v1) * (hMl h v0 s0))) ((hMl h v0 v1) * (hMl h v0 s0)))) ∧
    (¬ 0 < (((hMu h v0 s0) * (hMl h v0 v1)) - ((hMu h v0 v1) * (hMl h v0 s0))) → kd h v2 = 3 ∧ -9223372036854775807 ≤ (Int64.toInt ((((hMu h v0 s0) * (hMl h v0 v1)) - ((hMu h v0 v1) * (hMl h v0 s0))) + ((hMl h v0 v1) * (hMl h v0 s0)))) ∧ 0 < (Int64.toInt ((hMl h v0 v1) * (hMl h v0 s0))) ∧ Q none (fpt h v2 ((((hMu h v0 s0) * (hMl h v0 v1)) - ((hMu h v0 v1) * (hMl h v0 s0))) + ((hMl h v0 v1) * (hMl h v0 s0))) ((hMl h v0 v1) * (hMl h v0 s0)))))) :
    Wj X k n Q 17 [(0, .ref v0), (1, .int v1), (2, .ref v2)] [.int s0] h := by
  refine w_istore_n (pc := 17) C dX4_gapBehind_17 (by decide) ?_
  refine w_aload_n (pc := 18) C dX4_gapBehind_18 rfl ?_
  refine w_iload_n (pc := 19) C dX4_gapBehind_19 rfl ?_
  obtain ⟨f1, hv⟩ := hv
  refine w_cV0_1 (pc := 20) C cl_X4_163 lv_X4_markLow (by decide) dX4_gapBehind_20 (Nat.le_of_ble_eq_true rfl) (c := 4) rfl (St4_k f1) ((sf_X4_markLow (h := h) f1).mono (fun v h9 hp => ?_))
  obtain ⟨e1, e2⟩ := hp
  rw [e1, e2]
  refine w_aload_n (pc := 23) C dX4_gapBehind_23 rfl ?_
  refine w_iload_n (pc := 24) C dX4_gapBehind_24 rfl ?_
  refine w_cV0_1 (pc := 25) C cl_X4_163 lv_X4_markLow (by decide) dX4_gapBehind_25 (Nat.le_of_ble_eq_true rfl) (c := 4) rfl (St4_k f1) ((sf_X4_markLow (h := h) f1).mono (fun v h9 hp => ?_))
  obtain ⟨e1, e2⟩ := hp
  rw [e1, e2]
  refine w_lmul (pc := 28) C dX4_gapBehind_28 ?_
  refine w_lstore (pc := 29) C dX4_gapBehind_29 (by decide) ?_
  refine w_aload_n (pc := 31) C dX4_gapBehind_31 rfl ?_
  refine w_iload_n (pc := 32) C dX4_gapBehind_32 rfl ?_
  refine w_cV0_1 (pc := 33) C cl_X4_159 lv_X4_markUp (by decide) dX4_gapBehind_33 (Nat.le_of_ble_eq_true rfl) (c := 4) rfl (St4_k f1) ((sf_X4_markUp (h := h) f1).mono (fun v h9 hp => ?_))
  obtain ⟨e1, e2⟩ := hp
  rw [e1, e2]
  refine w_aload_n (pc := 36) C dX4_gapBehind_36 rfl ?_
  refine w_iload_n (pc := 37) C dX4_gapBehind_37 rfl ?_
  refine w_cV0_1 (pc := 38) C cl_X4_163 lv_X4_markLow (by decide) dX4_gapBehind_38 (Nat.le_of_ble_eq_true rfl) (c := 4) rfl (St4_k f1) ((sf_X4_markLow (h := h) f1).mono (fun v h9 hp => ?_))
  obtain ⟨e1, e2⟩ := hp
  rw [e1, e2]
  refine w_lmul (pc := 41) C dX4_gapBehind_41 ?_
  refine w_aload_n (pc := 42) C dX4_gapBehind_42 rfl ?_
  refine w_iload_n (pc := 43) C dX4_gapBehind_43 rfl ?_
  refine w_cV0_1 (pc := 44) C cl_X4_159 lv_X4_markUp (by decide) dX4_gapBehind_44 (Nat.le_of_ble_eq_true rfl) (c := 4) rfl (St4_k f1) ((sf_X4_markUp (h := h) f1).mono (fun v h9 hp => ?_))
  obtain ⟨e1, e2⟩ := hp
  rw [e1, e2]
  refine w_aload_n (pc := 47) C dX4_gapBehind_47 rfl ?_
  refine w_iload_n (pc := 48) C dX4_gapBehind_48 rfl ?_
  refine w_cV0_1 (pc := 49) C cl_X4_163 lv_X4_markLow (by decide) dX4_gapBehind_49 (Nat.le_of_ble_eq_true rfl) (c := 4) rfl (St4_k f1) ((sf_X4_markLow (h := h) f1).mono (fun v h9 hp => ?_))
  obtain ⟨e1, e2⟩ := hp
  rw [e1, e2]
  refine w_lmul (pc := 52) C dX4_gapBehind_52 ?_
  refine w_lsub (pc := 53) C dX4_gapBehind_53 ?_
  refine w_lstore (pc := 54) C dX4_gapBehind_54 (by decide) ?_
  refine w_aload_n (pc := 56) C dX4_gapBehind_56 rfl ?_
  refine w_lload (pc := 57) C dX4_gapBehind_57 rfl ?_
  refine w_lconst (pc := 59) C (v := 0) dX4_gapBehind_59 (by decide) ?_
  refine w_lcmp_gt (pc := 60) C (tgt := 72) dX4_gapBehind_60 dX4_gapBehind_61 (by decide) ?_
  obtain ⟨hv1, hv2⟩ := hv
  refine ⟨fun c8 => ?_, fun c8 => ?_⟩
  · have hv := hv1 c8
    refine w_lload (pc := 72) C dX4_gapBehind_72 rfl ?_
    refine w_lload (pc := 74) C dX4_gapBehind_74 rfl ?_
    obtain ⟨f2, hv⟩ := hv
    obtain ⟨f3, hv⟩ := hv
    obtain ⟨f4, hv⟩ := hv
    refine w_cV0_2 (pc := 76) C cl_X4_127 lv_X2_put (by decide) dX4_gapBehind_76 (Nat.le_of_ble_eq_true rfl) (c := 2) rfl f2 ((sf_X2_put (h := h) f2 f3 f4).mono (fun v h9 hp => ?_))
    obtain ⟨e1, e2⟩ := hp
    rw [e1, e2]
    exact w_vret (pc := 79) C dX4_gapBehind_79 hv
  · have hv := hv2 c8
    refine w_lload (pc := 64) C dX4_gapBehind_64 rfl ?_
    refine w_lload (pc := 66) C dX4_gapBehind_66 rfl ?_
    refine w_ladd (pc := 68) C dX4_gapBehind_68 ?_
    refine w_goto (pc := 69) C (tgt := 74) dX4_gapBehind_69 (by decide) ?_
    refine w_lload (pc := 74) C dX4_gapBehind_74 rfl ?_
    obtain ⟨f5, hv⟩ := hv
    obtain ⟨f6, hv⟩ := hv
    obtain ⟨f7, hv⟩ := hv
    refine w_cV0_2 (pc := 76) C cl_X4_127 lv_X2_put (by decide) dX4_gapBehind_76 (Nat.le_of_ble_eq_true rfl) (c := 2) rfl f5 ((sf_X2_put (h := h) f5 f6 f7).mono (fun v h9 hp => ?_))
    obtain ⟨e1, e2⟩ := hp
    rw [e1, e2]
    exact w_vret (pc := 79) C dX4_gapBehind_79 hv
theorem dX4_wayToMark_0 : decode cX4_wayToMark 0 = .ok (.aload_n 0, 1) := by decide +kernel
theorem dX4_wayToMark_1 : decode cX4_wayToMark 1 = .ok (.iload_n 1, 1) := by decide +kernel
theorem dX4_wayToMark_2 : decode cX4_wayToMark 2 = .ok (.invokevirtual 163, 3) := by decide +kernel
theorem dX4_wayToMark_5 : decode cX4_wayToMark 5 = .ok (.aload_n 0, 1) := by decide +kernel
theorem dX4_wayToMark_6 : decode cX4_wayToMark 6 = .ok (.getfield 43, 3) := by decide +kernel
theorem dX4_wayToMark_9 : decode cX4_wayToMark 9 = .ok (.getfield 135, 3) := by decide +kernel
theorem dX4_wayToMark_12 : decode cX4_wayToMark 12 = .ok (.lmul, 1) := by decide +kernel
theorem dX4_wayToMark_13 : decode cX4_wayToMark 13 = .ok (.lstore_n 3, 1) := by decide +kernel
theorem dX4_wayToMark_14 : decode cX4_wayToMark 14 = .ok (.aload_n 0, 1) := by decide +kernel
theorem dX4_wayToMark_15 : decode cX4_wayToMark 15 = .ok (.iload_n 1, 1) := by decide +kernel
theorem dX4_wayToMark_16 : decode cX4_wayToMark 16 = .ok (.invokevirtual 159, 3) := by decide +kernel
theorem dX4_wayToMark_19 : decode cX4_wayToMark 19 = .ok (.aload_n 0, 1) := by decide +kernel
theorem dX4_wayToMark_20 : decode cX4_wayToMark 20 = .ok (.getfield 43, 3) := by decide +kernel
theorem dX4_wayToMark_23 : decode cX4_wayToMark 23 = .ok (.getfield 135, 3) := by decide +kernel
theorem dX4_wayToMark_26 : decode cX4_wayToMark 26 = .ok (.lmul, 1) := by decide +kernel
theorem dX4_wayToMark_27 : decode cX4_wayToMark 27 = .ok (.aload_n 0, 1) := by decide +kernel
theorem dX4_wayToMark_28 : decode cX4_wayToMark 28 = .ok (.getfield 43, 3) := by decide +kernel
theorem dX4_wayToMark_31 : decode cX4_wayToMark 31 = .ok (.getfield 131, 3) := by decide +kernel
theorem dX4_wayToMark_34 : decode cX4_wayToMark 34 = .ok (.aload_n 0, 1) := by decide +kernel
theorem dX4_wayToMark_35 : decode cX4_wayToMark 35 = .ok (.iload_n 1, 1) := by decide +kernel
theorem dX4_wayToMark_36 : decode cX4_wayToMark 36 = .ok (.invokevirtual 163, 3) := by decide +kernel
theorem dX4_wayToMark_39 : decode cX4_wayToMark 39 = .ok (.lmul, 1) := by decide +kernel
theorem dX4_wayToMark_40 : decode cX4_wayToMark 40 = .ok (.lsub, 1) := by decide +kernel
theorem dX4_wayToMark_41 : decode cX4_wayToMark 41 = .ok (.lstore 5, 2) := by decide +kernel
theorem dX4_wayToMark_43 : decode cX4_wayToMark 43 = .ok (.aload_n 2, 1) := by decide +kernel
theorem dX4_wayToMark_44 : decode cX4_wayToMark 44 = .ok (.lload 5, 2) := by decide +kernel
theorem dX4_wayToMark_46 : decode cX4_wayToMark 46 = .ok (.lconst 0, 1) := by decide +kernel
theorem dX4_wayToMark_47 : decode cX4_wayToMark 47 = .ok (.lcmp, 1) := by decide +kernel
theorem dX4_wayToMark_48 : decode cX4_wayToMark 48 = .ok (.ifCond .ge 10, 3) := by decide +kernel
theorem dX4_wayToMark_51 : decode cX4_wayToMark 51 = .ok (.lload 5, 2) := by decide +kernel
theorem dX4_wayToMark_53 : decode cX4_wayToMark 53 = .ok (.lload_n 3, 1) := by decide +kernel
theorem dX4_wayToMark_54 : decode cX4_wayToMark 54 = .ok (.ladd, 1) := by decide +kernel
theorem dX4_wayToMark_55 : decode cX4_wayToMark 55 = .ok (.goto 5, 3) := by decide +kernel
theorem dX4_wayToMark_58 : decode cX4_wayToMark 58 = .ok (.lload 5, 2) := by decide +kernel
theorem dX4_wayToMark_60 : decode cX4_wayToMark 60 = .ok (.lload_n 3, 1) := by decide +kernel
theorem dX4_wayToMark_61 : decode cX4_wayToMark 61 = .ok (.invokevirtual 127, 3) := by decide +kernel
theorem dX4_wayToMark_64 : decode cX4_wayToMark 64 = .ok (.return_, 1) := by decide +kernel
set_option maxRecDepth 20000 in
set_option maxHeartbeats 2000000 in
theorem V_X4_wayToMark_0 {X : Ctx} (C : C_X4_wayToMark X) {k n : Nat} {Q : Pq} {h : Hp} {v0 v2 : Nat} {v1 : Int32}
    (hv : St4 h v0 ∧ ((0 ≤ (((hMu h v0 v1) * (gl h (v0 + 2) 1)) - ((gl h (v0 + 2) 0) * (hMl h v0 v1))) → kd h v2 = 3 ∧ -9223372036854775807 ≤ (Int64.toInt (((hMu h v0 v1) * (gl h (v0 + 2) 1)) - ((gl h (v0 + 2) 0) * (hMl h v0 v1)))) ∧ 0 < (Int64.toInt ((hMl h v0 v1) * (gl h (v0 + 2) 1))) ∧ Q none (fpt h v2 (((hMu h v0 v1) * (gl h (v0 + 2) 1)) - ((gl h (v0 + 2) 0) * (hMl h v0 v1))) ((hMl h v0 v1) * (gl h (v0 + 2) 1)))) ∧
    (¬ 0 ≤ (((hMu h v0 v1) * (gl h (v0 + 2) 1)) - ((gl h (v0 + 2) 0) * (hMl h v0 v1))) → kd h v2 = 3 ∧ -9223372036854775807 ≤ (Int64.toInt ((((hMu h v0 v1) * (gl h (v0 + 2) 1)) - ((gl h (v0 + 2) 0) * (hMl h v0 v1))) + ((hMl h v0 v1) * (gl h (v0 + 2) 1)))) ∧ 0 < (Int64.toInt ((hMl h v0 v1) * (gl h (v0 + 2) 1))) ∧ Q none (fpt h v2 ((((hMu h v0 v1) * (gl h (v0 + 2) 1)) - ((gl h (v0 + 2) 0) * (hMl h v0 v1))) + ((hMl h v0 v1) * (gl h (v0 + 2) 1))) ((hMl h v0 v1) * (gl h (v0 + 2) 1)))))) :
    Wj X k n Q 0 [(0, .ref v0), (1, .int v1), (2, .ref v2)] [] h := by
  refine w_aload_n (pc := 0) C dX4_wayToMark_0 rfl ?_
  refine w_iload_n (pc := 1) C dX4_wayToMark_1 rfl ?_
  obtain ⟨f1, hv⟩ := hv
  refine w_cV0_1 (pc := 2) C cl_X4_163 lv_X4_markLow (by decide) dX4_wayToMark_2 (Nat.le_of_ble_eq_true rfl) (c := 4) rfl (St4_k f1) ((sf_X4_markLow (h := h) f1).mono (fun v h9 hp => ?_))
  obtain ⟨e1, e2⟩ := hp
  rw [e1, e2]
  refine w_aload_n (pc := 5) C dX4_wayToMark_5 rfl ?_
  refine w_getR (pc := 6) C fl_X4_43 rfl dX4_wayToMark_6 (St4_k f1) (St4_r9 f1) ?_
  refine w_getL (pc := 9) C fl_X4_135 rfl dX4_wayToMark_9 (St4_k9 f1) ?_
  refine w_lmul (pc := 12) C dX4_wayToMark_12 ?_
  refine w_lstore_n (pc := 13) C dX4_wayToMark_13 (by decide) ?_
  refine w_aload_n (pc := 14) C dX4_wayToMark_14 rfl ?_
  refine w_iload_n (pc := 15) C dX4_wayToMark_15 rfl ?_
  refine w_cV0_1 (pc := 16) C cl_X4_159 lv_X4_markUp (by decide) dX4_wayToMark_16 (Nat.le_of_ble_eq_true rfl) (c := 4) rfl (St4_k f1) ((sf_X4_markUp (h := h) f1).mono (fun v h9 hp => ?_))
  obtain ⟨e1, e2⟩ := hp
  rw [e1, e2]
  refine w_aload_n (pc := 19) C dX4_wayToMark_19 rfl ?_
  refine w_getR (pc := 20) C fl_X4_43 rfl dX4_wayToMark_20 (St4_k f1) (St4_r9 f1) ?_
  refine w_getL (pc := 23) C fl_X4_135 rfl dX4_wayToMark_23 (St4_k9 f1) ?_
  refine w_lmul (pc := 26) C dX4_wayToMark_26 ?_
  refine w_aload_n (pc := 27) C dX4_wayToMark_27 rfl ?_
  refine w_getR (pc := 28) C fl_X4_43 rfl dX4_wayToMark_28 (St4_k f1) (St4_r9 f1) ?_
  refine w_getL (pc := 31) C fl_X4_131 rfl dX4_wayToMark_31 (St4_k9 f1) ?_
  refine w_aload_n (pc := 34) C dX4_wayToMark_34 rfl ?_
  refine w_iload_n (pc := 35) C dX4_wayToMark_35 rfl ?_
  refine w_cV0_1 (pc := 36) C cl_X4_163 lv_X4_markLow (by decide) dX4_wayToMark_36 (Nat.le_of_ble_eq_true rfl) (c := 4) rfl (St4_k f1) ((sf_X4_markLow (h := h) f1).mono (fun v h9 hp => ?_))
  obtain ⟨e1, e2⟩ := hp
  rw [e1, e2]
  refine w_lmul (pc := 39) C dX4_wayToMark_39 ?_
  refine w_lsub (pc := 40) C dX4_wayToMark_40 ?_
  refine w_lstore (pc := 41) C dX4_wayToMark_41 (by decide) ?_
  refine w_aload_n (pc := 43) C dX4_wayToMark_43 rfl ?_
  refine w_lload (pc := 44) C dX4_wayToMark_44 rfl ?_
  refine w_lconst (pc := 46) C (v := 0) dX4_wayToMark_46 (by decide) ?_
  refine w_lcmp_ge (pc := 47) C (tgt := 58) dX4_wayToMark_47 dX4_wayToMark_48 (by decide) ?_
  obtain ⟨hv1, hv2⟩ := hv
  refine ⟨fun c8 => ?_, fun c8 => ?_⟩
  · have hv := hv1 c8
    refine w_lload (pc := 58) C dX4_wayToMark_58 rfl ?_
    refine w_lload_n (pc := 60) C dX4_wayToMark_60 rfl ?_
    obtain ⟨f2, hv⟩ := hv
    obtain ⟨f3, hv⟩ := hv
    obtain ⟨f4, hv⟩ := hv
    refine w_cV0_2 (pc := 61) C cl_X4_127 lv_X2_put (by decide) dX4_wayToMark_61 (Nat.le_of_ble_eq_true rfl) (c := 2) rfl f2 ((sf_X2_put (h := h) f2 f3 f4).mono (fun v h9 hp => ?_))
    obtain ⟨e1, e2⟩ := hp
    rw [e1, e2]
    exact w_vret (pc := 64) C dX4_wayToMark_64 hv
  · have hv := hv2 c8
    refine w_lload (pc := 51) C dX4_wayToMark_51 rfl ?_
    refine w_lload_n (pc := 53) C dX4_wayToMark_53 rfl ?_
    refine w_ladd (pc := 54) C dX4_wayToMark_54 ?_
    refine w_goto (pc := 55) C (tgt := 60) dX4_wayToMark_55 (by decide) ?_
    refine w_lload_n (pc := 60) C dX4_wayToMark_60 rfl ?_
    obtain ⟨f5, hv⟩ := hv
    obtain ⟨f6, hv⟩ := hv
    obtain ⟨f7, hv⟩ := hv
    refine w_cV0_2 (pc := 61) C cl_X4_127 lv_X2_put (by decide) dX4_wayToMark_61 (Nat.le_of_ble_eq_true rfl) (c := 2) rfl f5 ((sf_X2_put (h := h) f5 f6 f7).mono (fun v h9 hp => ?_))
    obtain ⟨e1, e2⟩ := hp
    rw [e1, e2]
    exact w_vret (pc := 64) C dX4_wayToMark_64 hv
theorem dX4_copyFrom_0 : decode cX4_copyFrom 0 = .ok (.aload_n 0, 1) := by decide +kernel
theorem dX4_copyFrom_1 : decode cX4_copyFrom 1 = .ok (.aload_n 1, 1) := by decide +kernel
theorem dX4_copyFrom_2 : decode cX4_copyFrom 2 = .ok (.getfield 9, 3) := by decide +kernel
theorem dX4_copyFrom_5 : decode cX4_copyFrom 5 = .ok (.putfield 9, 3) := by decide +kernel
theorem dX4_copyFrom_8 : decode cX4_copyFrom 8 = .ok (.aload_n 0, 1) := by decide +kernel
theorem dX4_copyFrom_9 : decode cX4_copyFrom 9 = .ok (.aload_n 1, 1) := by decide +kernel
theorem dX4_copyFrom_10 : decode cX4_copyFrom 10 = .ok (.getfield 15, 3) := by decide +kernel
theorem dX4_copyFrom_13 : decode cX4_copyFrom 13 = .ok (.putfield 15, 3) := by decide +kernel
theorem dX4_copyFrom_16 : decode cX4_copyFrom 16 = .ok (.aload_n 0, 1) := by decide +kernel
theorem dX4_copyFrom_17 : decode cX4_copyFrom 17 = .ok (.aload_n 1, 1) := by decide +kernel
theorem dX4_copyFrom_18 : decode cX4_copyFrom 18 = .ok (.getfield 18, 3) := by decide +kernel
theorem dX4_copyFrom_21 : decode cX4_copyFrom 21 = .ok (.putfield 18, 3) := by decide +kernel
theorem dX4_copyFrom_24 : decode cX4_copyFrom 24 = .ok (.aload_n 0, 1) := by decide +kernel
theorem dX4_copyFrom_25 : decode cX4_copyFrom 25 = .ok (.aload_n 1, 1) := by decide +kernel
theorem dX4_copyFrom_26 : decode cX4_copyFrom 26 = .ok (.getfield 21, 3) := by decide +kernel
theorem dX4_copyFrom_29 : decode cX4_copyFrom 29 = .ok (.putfield 21, 3) := by decide +kernel
theorem dX4_copyFrom_32 : decode cX4_copyFrom 32 = .ok (.aload_n 0, 1) := by decide +kernel
theorem dX4_copyFrom_33 : decode cX4_copyFrom 33 = .ok (.aload_n 1, 1) := by decide +kernel
theorem dX4_copyFrom_34 : decode cX4_copyFrom 34 = .ok (.getfield 24, 3) := by decide +kernel
theorem dX4_copyFrom_37 : decode cX4_copyFrom 37 = .ok (.putfield 24, 3) := by decide +kernel
theorem dX4_copyFrom_40 : decode cX4_copyFrom 40 = .ok (.aload_n 0, 1) := by decide +kernel
theorem dX4_copyFrom_41 : decode cX4_copyFrom 41 = .ok (.aload_n 1, 1) := by decide +kernel
theorem dX4_copyFrom_42 : decode cX4_copyFrom 42 = .ok (.getfield 27, 3) := by decide +kernel
theorem dX4_copyFrom_45 : decode cX4_copyFrom 45 = .ok (.putfield 27, 3) := by decide +kernel
theorem dX4_copyFrom_48 : decode cX4_copyFrom 48 = .ok (.aload_n 0, 1) := by decide +kernel
theorem dX4_copyFrom_49 : decode cX4_copyFrom 49 = .ok (.aload_n 1, 1) := by decide +kernel
theorem dX4_copyFrom_50 : decode cX4_copyFrom 50 = .ok (.getfield 30, 3) := by decide +kernel
theorem dX4_copyFrom_53 : decode cX4_copyFrom 53 = .ok (.putfield 30, 3) := by decide +kernel
theorem dX4_copyFrom_56 : decode cX4_copyFrom 56 = .ok (.aload_n 0, 1) := by decide +kernel
theorem dX4_copyFrom_57 : decode cX4_copyFrom 57 = .ok (.aload_n 1, 1) := by decide +kernel
theorem dX4_copyFrom_58 : decode cX4_copyFrom 58 = .ok (.getfield 33, 3) := by decide +kernel
theorem dX4_copyFrom_61 : decode cX4_copyFrom 61 = .ok (.putfield 33, 3) := by decide +kernel
theorem dX4_copyFrom_64 : decode cX4_copyFrom 64 = .ok (.aload_n 0, 1) := by decide +kernel
theorem dX4_copyFrom_65 : decode cX4_copyFrom 65 = .ok (.aload_n 1, 1) := by decide +kernel
theorem dX4_copyFrom_66 : decode cX4_copyFrom 66 = .ok (.getfield 66, 3) := by decide +kernel
theorem dX4_copyFrom_69 : decode cX4_copyFrom 69 = .ok (.putfield 66, 3) := by decide +kernel
theorem dX4_copyFrom_72 : decode cX4_copyFrom 72 = .ok (.aload_n 0, 1) := by decide +kernel
theorem dX4_copyFrom_73 : decode cX4_copyFrom 73 = .ok (.getfield 39, 3) := by decide +kernel
theorem dX4_copyFrom_76 : decode cX4_copyFrom 76 = .ok (.aload_n 1, 1) := by decide +kernel
theorem dX4_copyFrom_77 : decode cX4_copyFrom 77 = .ok (.getfield 39, 3) := by decide +kernel
theorem dX4_copyFrom_80 : decode cX4_copyFrom 80 = .ok (.invokevirtual 85, 3) := by decide +kernel
theorem dX4_copyFrom_83 : decode cX4_copyFrom 83 = .ok (.aload_n 0, 1) := by decide +kernel
theorem dX4_copyFrom_84 : decode cX4_copyFrom 84 = .ok (.getfield 43, 3) := by decide +kernel
theorem dX4_copyFrom_87 : decode cX4_copyFrom 87 = .ok (.aload_n 1, 1) := by decide +kernel
theorem dX4_copyFrom_88 : decode cX4_copyFrom 88 = .ok (.getfield 43, 3) := by decide +kernel
theorem dX4_copyFrom_91 : decode cX4_copyFrom 91 = .ok (.invokevirtual 85, 3) := by decide +kernel
theorem dX4_copyFrom_94 : decode cX4_copyFrom 94 = .ok (.aload_n 1, 1) := by decide +kernel
theorem dX4_copyFrom_95 : decode cX4_copyFrom 95 = .ok (.getfield 49, 3) := by decide +kernel
theorem dX4_copyFrom_98 : decode cX4_copyFrom 98 = .ok (.iconst 0, 1) := by decide +kernel
theorem dX4_copyFrom_99 : decode cX4_copyFrom 99 = .ok (.aload_n 0, 1) := by decide +kernel
theorem dX4_copyFrom_100 : decode cX4_copyFrom 100 = .ok (.getfield 49, 3) := by decide +kernel
theorem dX4_copyFrom_103 : decode cX4_copyFrom 103 = .ok (.iconst 0, 1) := by decide +kernel
theorem dX4_copyFrom_104 : decode cX4_copyFrom 104 = .ok (.bipush 18, 2) := by decide +kernel
theorem dX4_copyFrom_106 : decode cX4_copyFrom 106 = .ok (.invokestatic 89, 3) := by decide +kernel
theorem dX4_copyFrom_109 : decode cX4_copyFrom 109 = .ok (.aload_n 1, 1) := by decide +kernel
theorem dX4_copyFrom_110 : decode cX4_copyFrom 110 = .ok (.getfield 53, 3) := by decide +kernel
theorem dX4_copyFrom_113 : decode cX4_copyFrom 113 = .ok (.iconst 0, 1) := by decide +kernel
theorem dX4_copyFrom_114 : decode cX4_copyFrom 114 = .ok (.aload_n 0, 1) := by decide +kernel
theorem dX4_copyFrom_115 : decode cX4_copyFrom 115 = .ok (.getfield 53, 3) := by decide +kernel
theorem dX4_copyFrom_118 : decode cX4_copyFrom 118 = .ok (.iconst 0, 1) := by decide +kernel
theorem dX4_copyFrom_119 : decode cX4_copyFrom 119 = .ok (.bipush 18, 2) := by decide +kernel
theorem dX4_copyFrom_121 : decode cX4_copyFrom 121 = .ok (.invokestatic 89, 3) := by decide +kernel
theorem dX4_copyFrom_124 : decode cX4_copyFrom 124 = .ok (.aload_n 1, 1) := by decide +kernel
theorem dX4_copyFrom_125 : decode cX4_copyFrom 125 = .ok (.getfield 56, 3) := by decide +kernel
theorem dX4_copyFrom_128 : decode cX4_copyFrom 128 = .ok (.iconst 0, 1) := by decide +kernel
theorem dX4_copyFrom_129 : decode cX4_copyFrom 129 = .ok (.aload_n 0, 1) := by decide +kernel
theorem dX4_copyFrom_130 : decode cX4_copyFrom 130 = .ok (.getfield 56, 3) := by decide +kernel
theorem dX4_copyFrom_133 : decode cX4_copyFrom 133 = .ok (.iconst 0, 1) := by decide +kernel
theorem dX4_copyFrom_134 : decode cX4_copyFrom 134 = .ok (.bipush 12, 2) := by decide +kernel
theorem dX4_copyFrom_136 : decode cX4_copyFrom 136 = .ok (.invokestatic 89, 3) := by decide +kernel
theorem dX4_copyFrom_139 : decode cX4_copyFrom 139 = .ok (.aload_n 1, 1) := by decide +kernel
theorem dX4_copyFrom_140 : decode cX4_copyFrom 140 = .ok (.getfield 59, 3) := by decide +kernel
theorem dX4_copyFrom_143 : decode cX4_copyFrom 143 = .ok (.iconst 0, 1) := by decide +kernel
theorem dX4_copyFrom_144 : decode cX4_copyFrom 144 = .ok (.aload_n 0, 1) := by decide +kernel
theorem dX4_copyFrom_145 : decode cX4_copyFrom 145 = .ok (.getfield 59, 3) := by decide +kernel
theorem dX4_copyFrom_148 : decode cX4_copyFrom 148 = .ok (.iconst 0, 1) := by decide +kernel
theorem dX4_copyFrom_149 : decode cX4_copyFrom 149 = .ok (.bipush 60, 2) := by decide +kernel
theorem dX4_copyFrom_151 : decode cX4_copyFrom 151 = .ok (.invokestatic 89, 3) := by decide +kernel
theorem dX4_copyFrom_154 : decode cX4_copyFrom 154 = .ok (.aload_n 1, 1) := by decide +kernel
theorem dX4_copyFrom_155 : decode cX4_copyFrom 155 = .ok (.getfield 63, 3) := by decide +kernel
theorem dX4_copyFrom_158 : decode cX4_copyFrom 158 = .ok (.iconst 0, 1) := by decide +kernel
theorem dX4_copyFrom_159 : decode cX4_copyFrom 159 = .ok (.aload_n 0, 1) := by decide +kernel
theorem dX4_copyFrom_160 : decode cX4_copyFrom 160 = .ok (.getfield 63, 3) := by decide +kernel
theorem dX4_copyFrom_163 : decode cX4_copyFrom 163 = .ok (.iconst 0, 1) := by decide +kernel
theorem dX4_copyFrom_164 : decode cX4_copyFrom 164 = .ok (.bipush 60, 2) := by decide +kernel
theorem dX4_copyFrom_166 : decode cX4_copyFrom 166 = .ok (.invokestatic 89, 3) := by decide +kernel
theorem dX4_copyFrom_169 : decode cX4_copyFrom 169 = .ok (.return_, 1) := by decide +kernel
set_option maxRecDepth 20000 in
set_option maxHeartbeats 2000000 in
theorem V_X4_copyFrom_0 {X : Ctx} (C : C_X4_copyFrom X) {k n : Nat} {Q : Pq} {h : Hp} {v0 v1 : Nat}
    (hv : St4 h v1 ∧ St4 h v0 ∧ Wj X k n Q 24 [(0, .ref v0), (1, .ref v1)] [] (si (si (si h v0 0 (gi h v1 0)) v0 1 (gi (si h v0 0 (gi h v1 0)) v1 1)) v0 2 (gi (si (si h v0 0 (gi h v1 0)) v0 1 (gi (si h v0 0 (gi h v1 0)) v1 1)) v1 2))) :
    Wj X k n Q 0 [(0, .ref v0), (1, .ref v1)] [] h := by
  refine w_aload_n (pc := 0) C dX4_copyFrom_0 rfl ?_
  refine w_aload_n (pc := 1) C dX4_copyFrom_1 rfl ?_
  obtain ⟨f1, hv⟩ := hv
  refine w_getI (pc := 2) C fl_X4_9 rfl dX4_copyFrom_2 (St4_k f1) ?_
  obtain ⟨f2, hv⟩ := hv
  refine w_putI (pc := 5) C fl_X4_9 rfl rfl dX4_copyFrom_5 (St4_k f2) ?_
  refine w_aload_n (pc := 8) C dX4_copyFrom_8 rfl ?_
  refine w_aload_n (pc := 9) C dX4_copyFrom_9 rfl ?_
  refine w_getI (pc := 10) C fl_X4_15 rfl dX4_copyFrom_10 (St4_k f1) ?_
  refine w_putI (pc := 13) C fl_X4_15 rfl rfl dX4_copyFrom_13 (St4_k f2) ?_
  refine w_aload_n (pc := 16) C dX4_copyFrom_16 rfl ?_
  refine w_aload_n (pc := 17) C dX4_copyFrom_17 rfl ?_
  refine w_getI (pc := 18) C fl_X4_18 rfl dX4_copyFrom_18 (St4_k f1) ?_
  refine w_putI (pc := 21) C fl_X4_18 rfl rfl dX4_copyFrom_21 (St4_k f2) ?_
  refine w_sub ?_ hv
  exact ⟨rfl, rfl, trivial⟩
set_option maxRecDepth 20000 in
set_option maxHeartbeats 2000000 in
theorem V_X4_copyFrom_24 {X : Ctx} (C : C_X4_copyFrom X) {k n : Nat} {Q : Pq} {h : Hp} {v0 v1 : Nat}
    (hv : St4 h v1 ∧ St4 h v0 ∧ Wj X k n Q 48 [(0, .ref v0), (1, .ref v1)] [] (si (si (si h v0 3 (gi h v1 3)) v0 4 (gi (si h v0 3 (gi h v1 3)) v1 4)) v0 5 (gi (si (si h v0 3 (gi h v1 3)) v0 4 (gi (si h v0 3 (gi h v1 3)) v1 4)) v1 5))) :
    Wj X k n Q 24 [(0, .ref v0), (1, .ref v1)] [] h := by
  refine w_aload_n (pc := 24) C dX4_copyFrom_24 rfl ?_
  refine w_aload_n (pc := 25) C dX4_copyFrom_25 rfl ?_
  obtain ⟨f1, hv⟩ := hv
  refine w_getI (pc := 26) C fl_X4_21 rfl dX4_copyFrom_26 (St4_k f1) ?_
  obtain ⟨f2, hv⟩ := hv
  refine w_putI (pc := 29) C fl_X4_21 rfl rfl dX4_copyFrom_29 (St4_k f2) ?_
  refine w_aload_n (pc := 32) C dX4_copyFrom_32 rfl ?_
  refine w_aload_n (pc := 33) C dX4_copyFrom_33 rfl ?_
  refine w_getI (pc := 34) C fl_X4_24 rfl dX4_copyFrom_34 (St4_k f1) ?_
  refine w_putI (pc := 37) C fl_X4_24 rfl rfl dX4_copyFrom_37 (St4_k f2) ?_
  refine w_aload_n (pc := 40) C dX4_copyFrom_40 rfl ?_
  refine w_aload_n (pc := 41) C dX4_copyFrom_41 rfl ?_
  refine w_getI (pc := 42) C fl_X4_27 rfl dX4_copyFrom_42 (St4_k f1) ?_
  refine w_putI (pc := 45) C fl_X4_27 rfl rfl dX4_copyFrom_45 (St4_k f2) ?_
  refine w_sub ?_ hv
  exact ⟨rfl, rfl, trivial⟩
set_option maxRecDepth 20000 in
set_option maxHeartbeats 2000000 in
theorem V_X4_copyFrom_48 {X : Ctx} (C : C_X4_copyFrom X) {k n : Nat} {Q : Pq} {h : Hp} {v0 v1 : Nat}
    (hv : St4 h v1 ∧ St4 h v0 ∧ Wj X k n Q 72 [(0, .ref v0), (1, .ref v1)] [] (si (si (si h v0 6 (gi h v1 6)) v0 7 (gi (si h v0 6 (gi h v1 6)) v1 7)) v0 16 (gi (si (si h v0 6 (gi h v1 6)) v0 7 (gi (si h v0 6 (gi h v1 6)) v1 7)) v1 16))) :
    Wj X k n Q 48 [(0, .ref v0), (1, .ref v1)] [] h := by
  refine w_aload_n (pc := 48) C dX4_copyFrom_48 rfl ?_
  refine w_aload_n (pc := 49) C dX4_copyFrom_49 rfl ?_
  obtain ⟨f1, hv⟩ := hv
  refine w_getI (pc := 50) C fl_X4_30 rfl dX4_copyFrom_50 (St4_k f1) ?_
  obtain ⟨f2, hv⟩ := hv
  refine w_putI (pc := 53) C fl_X4_30 rfl rfl dX4_copyFrom_53 (St4_k f2) ?_
  refine w_aload_n (pc := 56) C dX4_copyFrom_56 rfl ?_
  refine w_aload_n (pc := 57) C dX4_copyFrom_57 rfl ?_
  refine w_getI (pc := 58) C fl_X4_33 rfl dX4_copyFrom_58 (St4_k f1) ?_
  refine w_putI (pc := 61) C fl_X4_33 rfl rfl dX4_copyFrom_61 (St4_k f2) ?_
  refine w_aload_n (pc := 64) C dX4_copyFrom_64 rfl ?_
  refine w_aload_n (pc := 65) C dX4_copyFrom_65 rfl ?_
  refine w_getI (pc := 66) C fl_X4_66 rfl dX4_copyFrom_66 (St4_k f1) ?_
  refine w_putI (pc := 69) C fl_X4_66 rfl rfl dX4_copyFrom_69 (St4_k f2) ?_
  refine w_sub ?_ hv
  exact ⟨rfl, rfl, trivial⟩
set_option maxRecDepth 20000 in
set_option maxHeartbeats 2000000 in
theorem V_X4_copyFrom_72 {X : Ctx} (C : C_X4_copyFrom X) {k n : Nat} {Q : Pq} {h : Hp} {v0 v1 : Nat}
    (hv : St4 h v0 ∧ St4 h v1 ∧ Wj X k n Q 139 [(0, .ref v0), (1, .ref v1)] [] (siA (siA (siA (fcp (fcp h (v0 + 1) (v1 + 1)) (v0 + 2) (v1 + 2)) (v0 + 4) (va_cpy (fun j => gi h (v1 + 4) j) (fun j => gi h (v0 + 4) j) (ix 0) (ix 0) (ix 18))) (v0 + 5) (va_cpy (fun j => gi (siA h (v0 + 4) (va_cpy (fun j => gi h (v1 + 4) j) (fun j => gi h (v0 + 4) j) (ix 0) (ix 0) (ix 18))) (v1 + 5) j) (fun j => gi (siA h (v0 + 4) (va_cpy (fun j => gi h (v1 + 4) j) (fun j => gi h (v0 + 4) j) (ix 0) (ix 0) (ix 18))) (v0 + 5) j) (ix 0) (ix 0) (ix 18))) (v0 + 6) (va_cpy (fun j => gi (siA (siA h (v0 + 4) (va_cpy (fun j => gi h (v1 + 4) j) (fun j => gi h (v0 + 4) j) (ix 0) (ix 0) (ix 18))) (v0 + 5) (va_cpy (fun j => gi (siA h (v0 + 4) (va_cpy (fun j => gi h (v1 + 4) j) (fun j => gi h (v0 + 4) j) (ix 0) (ix 0) (ix 18))) (v1 + 5) j) (fun j => gi (siA h (v0 + 4) (va_cpy (fun j => gi h (v1 + 4) j) (fun j => gi h (v0 + 4) j) (ix 0) (ix 0) (ix 18))) (v0 + 5) j) (ix 0) (ix 0) (ix 18))) (v1 + 6) j) (fun j => gi (siA (siA h (v0 + 4) (va_cpy (fun j => gi h (v1 + 4) j) (fun j => gi h (v0 + 4) j) (ix 0) (ix 0) (ix 18))) (v0 + 5) (va_cpy (fun j => gi (siA h (v0 + 4) (va_cpy (fun j => gi h (v1 + 4) j) (fun j => gi h (v0 + 4) j) (ix 0) (ix 0) (ix 18))) (v1 + 5) j) (fun j => gi (siA h (v0 + 4) (va_cpy (fun j => gi h (v1 + 4) j) (fun j => gi h (v0 + 4) j) (ix 0) (ix 0) (ix 18))) (v0 + 5) j) (ix 0) (ix 0) (ix 18))) (v0 + 6) j) (ix 0) (ix 0) (ix 12)))) :
    Wj X k n Q 72 [(0, .ref v0), (1, .ref v1)] [] h := by
  refine w_aload_n (pc := 72) C dX4_copyFrom_72 rfl ?_
  obtain ⟨f1, hv⟩ := hv
  refine w_getR (pc := 73) C fl_X4_39 rfl dX4_copyFrom_73 (St4_k f1) (St4_r8 f1) ?_
  refine w_aload_n (pc := 76) C dX4_copyFrom_76 rfl ?_
  obtain ⟨f2, hv⟩ := hv
  refine w_getR (pc := 77) C fl_X4_39 rfl dX4_copyFrom_77 (St4_k f2) (St4_r8 f2) ?_
  refine w_cV0_1 (pc := 80) C cl_X4_85 lv_X2_copyFrom (by decide) dX4_copyFrom_80 (Nat.le_of_ble_eq_true rfl) (c := 2) rfl (St4_k8 f1) ((sf_X2_copyFrom (h := h) (St4_k8 f1) (St4_k8 f2)).mono (fun v h9 hp => ?_))
  obtain ⟨e1, e2⟩ := hp
  rw [e1, e2]
  refine w_aload_n (pc := 83) C dX4_copyFrom_83 rfl ?_
  refine w_getR (pc := 84) C fl_X4_43 rfl dX4_copyFrom_84 (St4_k f1) (St4_r9 f1) ?_
  refine w_aload_n (pc := 87) C dX4_copyFrom_87 rfl ?_
  refine w_getR (pc := 88) C fl_X4_43 rfl dX4_copyFrom_88 (St4_k f2) (St4_r9 f2) ?_
  refine w_cV0_1 (pc := 91) C cl_X4_85 lv_X2_copyFrom (by decide) dX4_copyFrom_91 (Nat.le_of_ble_eq_true rfl) (c := 2) rfl (St4_k9 f1) ((sf_X2_copyFrom (h := (fcp h (v0 + 1) (v1 + 1))) (St4_k9 f1) (St4_k9 f2)).mono (fun v h9 hp => ?_))
  obtain ⟨e1, e2⟩ := hp
  rw [e1, e2]
  refine w_aload_n (pc := 94) C dX4_copyFrom_94 rfl ?_
  refine w_getR (pc := 95) C fl_X4_49 rfl dX4_copyFrom_95 (St4_k f2) (St4_r11 f2) ?_
  refine w_iconst (pc := 98) C (v := 0) dX4_copyFrom_98 (by decide) ?_
  refine w_aload_n (pc := 99) C dX4_copyFrom_99 rfl ?_
  refine w_getR (pc := 100) C fl_X4_49 rfl dX4_copyFrom_100 (St4_k f1) (St4_r11 f1) ?_
  refine w_iconst (pc := 103) C (v := 0) dX4_copyFrom_103 (by decide) ?_
  refine w_bipush (pc := 104) C (v := 18) dX4_copyFrom_104 (by decide) ?_
  refine w_acopyI (pc := 106) C ay_X4_89 aw_1 aw_2 aw_3 dX4_copyFrom_106 (by decide) (Nat.le_of_ble_eq_true rfl) (St4_k11 f2) (St4_k11 f1) (by decide) (by decide) (by decide) (le_ix (m := 18) (by decide) (by decide) (ln_le (St4_l11 f2) (by decide))) (le_ix (m := 18) (by decide) (by decide) (ln_le (St4_l11 f1) (by decide))) ?_
  refine w_aload_n (pc := 109) C dX4_copyFrom_109 rfl ?_
  refine w_getR (pc := 110) C fl_X4_53 rfl dX4_copyFrom_110 (St4_k f2) (St4_r12 f2) ?_
  refine w_iconst (pc := 113) C (v := 0) dX4_copyFrom_113 (by decide) ?_
  refine w_aload_n (pc := 114) C dX4_copyFrom_114 rfl ?_
  refine w_getR (pc := 115) C fl_X4_53 rfl dX4_copyFrom_115 (St4_k f1) (St4_r12 f1) ?_
  refine w_iconst (pc := 118) C (v := 0) dX4_copyFrom_118 (by decide) ?_
  refine w_bipush (pc := 119) C (v := 18) dX4_copyFrom_119 (by decide) ?_
  refine w_acopyI (pc := 121) C ay_X4_89 aw_1 aw_2 aw_3 dX4_copyFrom_121 (by decide) (Nat.le_of_ble_eq_true rfl) (St4_k12 f2) (St4_k12 f1) (by decide) (by decide) (by decide) (le_ix (m := 18) (by decide) (by decide) (ln_le (St4_l12 f2) (by decide))) (le_ix (m := 18) (by decide) (by decide) (ln_le (St4_l12 f1) (by decide))) ?_
  refine w_aload_n (pc := 124) C dX4_copyFrom_124 rfl ?_
  refine w_getR (pc := 125) C fl_X4_56 rfl dX4_copyFrom_125 (St4_k f2) (St4_r13 f2) ?_
  refine w_iconst (pc := 128) C (v := 0) dX4_copyFrom_128 (by decide) ?_
  refine w_aload_n (pc := 129) C dX4_copyFrom_129 rfl ?_
  refine w_getR (pc := 130) C fl_X4_56 rfl dX4_copyFrom_130 (St4_k f1) (St4_r13 f1) ?_
  refine w_iconst (pc := 133) C (v := 0) dX4_copyFrom_133 (by decide) ?_
  refine w_bipush (pc := 134) C (v := 12) dX4_copyFrom_134 (by decide) ?_
  refine w_acopyI (pc := 136) C ay_X4_89 aw_1 aw_2 aw_3 dX4_copyFrom_136 (by decide) (Nat.le_of_ble_eq_true rfl) (St4_k13 f2) (St4_k13 f1) (by decide) (by decide) (by decide) (le_ix (m := 12) (by decide) (by decide) (ln_le (St4_l13 f2) (by decide))) (le_ix (m := 12) (by decide) (by decide) (ln_le (St4_l13 f1) (by decide))) ?_
  refine w_sub ?_ hv
  exact ⟨rfl, rfl, trivial⟩
set_option maxRecDepth 20000 in
set_option maxHeartbeats 2000000 in
theorem V_X4_copyFrom_139 {X : Ctx} (C : C_X4_copyFrom X) {k n : Nat} {Q : Pq} {h : Hp} {v0 v1 : Nat}
    (hv : St4 h v1 ∧ St4 h v0 ∧ Q none (slA (slA h (v0 + 7) (va_cpy (fun j => gl h (v1 + 7) j) (fun j => gl h (v0 + 7) j) (ix 0) (ix 0) (ix 60))) (v0 + 8) (va_cpy (fun j => gl (slA h (v0 + 7) (va_cpy (fun j => gl h (v1 + 7) j) (fun j => gl h (v0 + 7) j) (ix 0) (ix 0) (ix 60))) (v1 + 8) j) (fun j => gl (slA h (v0 + 7) (va_cpy (fun j => gl h (v1 + 7) j) (fun j => gl h (v0 + 7) j) (ix 0) (ix 0) (ix 60))) (v0 + 8) j) (ix 0) (ix 0) (ix 60)))) :
    Wj X k n Q 139 [(0, .ref v0), (1, .ref v1)] [] h := by
  refine w_aload_n (pc := 139) C dX4_copyFrom_139 rfl ?_
  obtain ⟨f1, hv⟩ := hv
  refine w_getR (pc := 140) C fl_X4_59 rfl dX4_copyFrom_140 (St4_k f1) (St4_r14 f1) ?_
  refine w_iconst (pc := 143) C (v := 0) dX4_copyFrom_143 (by decide) ?_
  refine w_aload_n (pc := 144) C dX4_copyFrom_144 rfl ?_
  obtain ⟨f2, hv⟩ := hv
  refine w_getR (pc := 145) C fl_X4_59 rfl dX4_copyFrom_145 (St4_k f2) (St4_r14 f2) ?_
  refine w_iconst (pc := 148) C (v := 0) dX4_copyFrom_148 (by decide) ?_
  refine w_bipush (pc := 149) C (v := 60) dX4_copyFrom_149 (by decide) ?_
  refine w_acopyL (pc := 151) C ay_X4_89 aw_1 aw_2 aw_3 dX4_copyFrom_151 (by decide) (Nat.le_of_ble_eq_true rfl) (St4_k14 f1) (St4_k14 f2) (by decide) (by decide) (by decide) (le_ix (m := 60) (by decide) (by decide) (ln_le (St4_l14 f1) (by decide))) (le_ix (m := 60) (by decide) (by decide) (ln_le (St4_l14 f2) (by decide))) ?_
  refine w_aload_n (pc := 154) C dX4_copyFrom_154 rfl ?_
  refine w_getR (pc := 155) C fl_X4_63 rfl dX4_copyFrom_155 (St4_k f1) (St4_r15 f1) ?_
  refine w_iconst (pc := 158) C (v := 0) dX4_copyFrom_158 (by decide) ?_
  refine w_aload_n (pc := 159) C dX4_copyFrom_159 rfl ?_
  refine w_getR (pc := 160) C fl_X4_63 rfl dX4_copyFrom_160 (St4_k f2) (St4_r15 f2) ?_
  refine w_iconst (pc := 163) C (v := 0) dX4_copyFrom_163 (by decide) ?_
  refine w_bipush (pc := 164) C (v := 60) dX4_copyFrom_164 (by decide) ?_
  refine w_acopyL (pc := 166) C ay_X4_89 aw_1 aw_2 aw_3 dX4_copyFrom_166 (by decide) (Nat.le_of_ble_eq_true rfl) (St4_k15 f1) (St4_k15 f2) (by decide) (by decide) (by decide) (le_ix (m := 60) (by decide) (by decide) (ln_le (St4_l15 f1) (by decide))) (le_ix (m := 60) (by decide) (by decide) (ln_le (St4_l15 f2) (by decide))) ?_
  exact w_vret (pc := 169) C dX4_copyFrom_169 hv
theorem dX4_init_0 : decode cX4_init 0 = .ok (.aload_n 0, 1) := by decide +kernel
theorem dX4_init_1 : decode cX4_init 1 = .ok (.invokespecial 3, 3) := by decide +kernel
theorem dX4_init_4 : decode cX4_init 4 = .ok (.aload_n 0, 1) := by decide +kernel
theorem dX4_init_5 : decode cX4_init 5 = .ok (.bipush 40, 2) := by decide +kernel
theorem dX4_init_7 : decode cX4_init 7 = .ok (.putfield 9, 3) := by decide +kernel
theorem dX4_init_10 : decode cX4_init 10 = .ok (.aload_n 0, 1) := by decide +kernel
theorem dX4_init_11 : decode cX4_init 11 = .ok (.bipush 50, 2) := by decide +kernel
theorem dX4_init_13 : decode cX4_init 13 = .ok (.putfield 15, 3) := by decide +kernel
theorem dX4_init_16 : decode cX4_init 16 = .ok (.aload_n 0, 1) := by decide +kernel
theorem dX4_init_17 : decode cX4_init 17 = .ok (.iconst 0, 1) := by decide +kernel
theorem dX4_init_18 : decode cX4_init 18 = .ok (.putfield 18, 3) := by decide +kernel
theorem dX4_init_21 : decode cX4_init 21 = .ok (.aload_n 0, 1) := by decide +kernel
theorem dX4_init_22 : decode cX4_init 22 = .ok (.iconst 0, 1) := by decide +kernel
theorem dX4_init_23 : decode cX4_init 23 = .ok (.putfield 21, 3) := by decide +kernel
theorem dX4_init_26 : decode cX4_init 26 = .ok (.aload_n 0, 1) := by decide +kernel
theorem dX4_init_27 : decode cX4_init 27 = .ok (.iconst 0, 1) := by decide +kernel
theorem dX4_init_28 : decode cX4_init 28 = .ok (.putfield 24, 3) := by decide +kernel
theorem dX4_init_31 : decode cX4_init 31 = .ok (.aload_n 0, 1) := by decide +kernel
theorem dX4_init_32 : decode cX4_init 32 = .ok (.iconst 0, 1) := by decide +kernel
theorem dX4_init_33 : decode cX4_init 33 = .ok (.putfield 27, 3) := by decide +kernel
theorem dX4_init_36 : decode cX4_init 36 = .ok (.aload_n 0, 1) := by decide +kernel
theorem dX4_init_37 : decode cX4_init 37 = .ok (.iconst 0, 1) := by decide +kernel
theorem dX4_init_38 : decode cX4_init 38 = .ok (.putfield 30, 3) := by decide +kernel
theorem dX4_init_41 : decode cX4_init 41 = .ok (.aload_n 0, 1) := by decide +kernel
theorem dX4_init_42 : decode cX4_init 42 = .ok (.iconst 0, 1) := by decide +kernel
theorem dX4_init_43 : decode cX4_init 43 = .ok (.putfield 33, 3) := by decide +kernel
theorem dX4_init_46 : decode cX4_init 46 = .ok (.aload_n 0, 1) := by decide +kernel
theorem dX4_init_47 : decode cX4_init 47 = .ok (.new 36, 3) := by decide +kernel
theorem dX4_init_50 : decode cX4_init 50 = .ok (.dup, 1) := by decide +kernel
theorem dX4_init_51 : decode cX4_init 51 = .ok (.invokespecial 38, 3) := by decide +kernel
theorem dX4_init_54 : decode cX4_init 54 = .ok (.putfield 39, 3) := by decide +kernel
theorem dX4_init_57 : decode cX4_init 57 = .ok (.aload_n 0, 1) := by decide +kernel
theorem dX4_init_58 : decode cX4_init 58 = .ok (.new 36, 3) := by decide +kernel
theorem dX4_init_61 : decode cX4_init 61 = .ok (.dup, 1) := by decide +kernel
theorem dX4_init_62 : decode cX4_init 62 = .ok (.invokespecial 38, 3) := by decide +kernel
theorem dX4_init_65 : decode cX4_init 65 = .ok (.putfield 43, 3) := by decide +kernel
theorem dX4_init_68 : decode cX4_init 68 = .ok (.aload_n 0, 1) := by decide +kernel
theorem dX4_init_69 : decode cX4_init 69 = .ok (.new 36, 3) := by decide +kernel
theorem dX4_init_72 : decode cX4_init 72 = .ok (.dup, 1) := by decide +kernel
theorem dX4_init_73 : decode cX4_init 73 = .ok (.invokespecial 38, 3) := by decide +kernel
theorem dX4_init_76 : decode cX4_init 76 = .ok (.putfield 46, 3) := by decide +kernel
theorem dX4_init_79 : decode cX4_init 79 = .ok (.aload_n 0, 1) := by decide +kernel
theorem dX4_init_80 : decode cX4_init 80 = .ok (.bipush 18, 2) := by decide +kernel
theorem dX4_init_82 : decode cX4_init 82 = .ok (.newarray .int, 2) := by decide +kernel
theorem dX4_init_84 : decode cX4_init 84 = .ok (.putfield 49, 3) := by decide +kernel
theorem dX4_init_87 : decode cX4_init 87 = .ok (.aload_n 0, 1) := by decide +kernel
theorem dX4_init_88 : decode cX4_init 88 = .ok (.bipush 18, 2) := by decide +kernel
theorem dX4_init_90 : decode cX4_init 90 = .ok (.newarray .int, 2) := by decide +kernel
theorem dX4_init_92 : decode cX4_init 92 = .ok (.putfield 53, 3) := by decide +kernel
theorem dX4_init_95 : decode cX4_init 95 = .ok (.aload_n 0, 1) := by decide +kernel
theorem dX4_init_96 : decode cX4_init 96 = .ok (.bipush 12, 2) := by decide +kernel
theorem dX4_init_98 : decode cX4_init 98 = .ok (.newarray .int, 2) := by decide +kernel
theorem dX4_init_100 : decode cX4_init 100 = .ok (.putfield 56, 3) := by decide +kernel
theorem dX4_init_103 : decode cX4_init 103 = .ok (.aload_n 0, 1) := by decide +kernel
theorem dX4_init_104 : decode cX4_init 104 = .ok (.bipush 60, 2) := by decide +kernel
theorem dX4_init_106 : decode cX4_init 106 = .ok (.newarray .long, 2) := by decide +kernel
theorem dX4_init_108 : decode cX4_init 108 = .ok (.putfield 59, 3) := by decide +kernel
theorem dX4_init_111 : decode cX4_init 111 = .ok (.aload_n 0, 1) := by decide +kernel
theorem dX4_init_112 : decode cX4_init 112 = .ok (.bipush 60, 2) := by decide +kernel
theorem dX4_init_114 : decode cX4_init 114 = .ok (.newarray .long, 2) := by decide +kernel
theorem dX4_init_116 : decode cX4_init 116 = .ok (.putfield 63, 3) := by decide +kernel
theorem dX4_init_119 : decode cX4_init 119 = .ok (.aload_n 0, 1) := by decide +kernel
theorem dX4_init_120 : decode cX4_init 120 = .ok (.iconst 1, 1) := by decide +kernel
theorem dX4_init_121 : decode cX4_init 121 = .ok (.putfield 66, 3) := by decide +kernel
theorem dX4_init_124 : decode cX4_init 124 = .ok (.return_, 1) := by decide +kernel
set_option maxRecDepth 20000 in
set_option maxHeartbeats 2000000 in
theorem V_X4_init_0 {X : Ctx} (C : C_X4_init X) {k n : Nat} {Q : Pq} {h : Hp} {v0 : Nat}
    (hv : kd h v0 = 5 ∧ Wj X k n Q 21 [(0, .ref v0)] [] (si (si (si h v0 0 40) v0 1 50) v0 2 0)) :
    Wj X k n Q 0 [(0, .ref v0)] [] h := by
  refine w_aload_n (pc := 0) C dX4_init_0 rfl ?_
  refine w_objInit (pc := 1) C oi_X4_3 ow_1 ow_2 dX4_init_1 (by decide) (Nat.le_of_ble_eq_true rfl) ?_
  refine w_aload_n (pc := 4) C dX4_init_4 rfl ?_
  refine w_bipush (pc := 5) C (v := 40) dX4_init_5 (by decide) ?_
  obtain ⟨f1, hv⟩ := hv
  refine w_putI (pc := 7) C fl_X4_9 rfl rfl dX4_init_7 f1 ?_
  refine w_aload_n (pc := 10) C dX4_init_10 rfl ?_
  refine w_bipush (pc := 11) C (v := 50) dX4_init_11 (by decide) ?_
  refine w_putI (pc := 13) C fl_X4_15 rfl rfl dX4_init_13 f1 ?_
  refine w_aload_n (pc := 16) C dX4_init_16 rfl ?_
  refine w_iconst (pc := 17) C (v := 0) dX4_init_17 (by decide) ?_
  refine w_putI (pc := 18) C fl_X4_18 rfl rfl dX4_init_18 f1 ?_
  refine w_sub ?_ hv
  exact ⟨rfl, trivial⟩
set_option maxRecDepth 20000 in
set_option maxHeartbeats 2000000 in
theorem V_X4_init_21 {X : Ctx} (C : C_X4_init X) {k n : Nat} {Q : Pq} {h : Hp} {v0 : Nat}
    (hv : kd h v0 = 5 ∧ Wj X k n Q 36 [(0, .ref v0)] [] (si (si (si h v0 3 0) v0 4 0) v0 5 0)) :
    Wj X k n Q 21 [(0, .ref v0)] [] h := by
  refine w_aload_n (pc := 21) C dX4_init_21 rfl ?_
  refine w_iconst (pc := 22) C (v := 0) dX4_init_22 (by decide) ?_
  obtain ⟨f1, hv⟩ := hv
  refine w_putI (pc := 23) C fl_X4_21 rfl rfl dX4_init_23 f1 ?_
  refine w_aload_n (pc := 26) C dX4_init_26 rfl ?_
  refine w_iconst (pc := 27) C (v := 0) dX4_init_27 (by decide) ?_
  refine w_putI (pc := 28) C fl_X4_24 rfl rfl dX4_init_28 f1 ?_
  refine w_aload_n (pc := 31) C dX4_init_31 rfl ?_
  refine w_iconst (pc := 32) C (v := 0) dX4_init_32 (by decide) ?_
  refine w_putI (pc := 33) C fl_X4_27 rfl rfl dX4_init_33 f1 ?_
  refine w_sub ?_ hv
  exact ⟨rfl, trivial⟩
set_option maxRecDepth 20000 in
set_option maxHeartbeats 2000000 in
theorem V_X4_init_36 {X : Ctx} (C : C_X4_init X) {k n : Nat} {Q : Pq} {h : Hp} {v0 : Nat}
    (hv : kd h v0 = 5 ∧ k + 1 ≤ mcX X ∧ n + 2 ≤ msX X ∧ S_X2_init (lX X) (dtX X) 0 0 [.ref (hn h)] (nw (si (si h v0 6 0) v0 7 0) 3 0) (QV fun h4 =>
    kd h4 v0 = 5 ∧ Wj X (k + 1) (n + 2) Q 57 [(0, .ref v0)] [] (sr h4 v0 8 (some (hn h))))) :
    Wj X k n Q 36 [(0, .ref v0)] [] h := by
  refine w_aload_n (pc := 36) C dX4_init_36 rfl ?_
  refine w_iconst (pc := 37) C (v := 0) dX4_init_37 (by decide) ?_
  obtain ⟨f1, hv⟩ := hv
  refine w_putI (pc := 38) C fl_X4_30 rfl rfl dX4_init_38 f1 ?_
  refine w_aload_n (pc := 41) C dX4_init_41 rfl ?_
  refine w_iconst (pc := 42) C (v := 0) dX4_init_42 (by decide) ?_
  refine w_putI (pc := 43) C fl_X4_33 rfl rfl dX4_init_43 f1 ?_
  refine w_aload_n (pc := 46) C dX4_init_46 rfl ?_
  obtain ⟨f2, hv⟩ := hv
  obtain ⟨f3, hv⟩ := hv
  refine w_new (pc := 47) C nl_X4_36 (N := 2) rfl dX4_init_47 f2 f3 ?_
  refine w_dup (pc := 50) C dX4_init_50 rfl ?_
  refine w_cIN0_0 (pc := 51) C cl_X4_38 li_X2_init (by decide) dX4_init_51 (Nat.le_of_ble_eq_true rfl) (hv.mono (fun v h4 hp => ?_))
  obtain ⟨rfl, hv⟩ := hp
  obtain ⟨f5, hv⟩ := hv
  refine w_putRF (pc := 54) C fl_X4_39 rfl rfl rfl dX4_init_54 f5 ?_
  refine w_sub ?_ hv
  exact ⟨rfl, trivial⟩
set_option maxRecDepth 20000 in
set_option maxHeartbeats 2000000 in
theorem V_X4_init_57 {X : Ctx} (C : C_X4_init X) {k n : Nat} {Q : Pq} {h : Hp} {v0 : Nat}
    (hv : k + 1 ≤ mcX X ∧ n + 2 ≤ msX X ∧ S_X2_init (lX X) (dtX X) 0 0 [.ref (hn h)] (nw h 3 0) (QV fun h3 =>
    kd h3 v0 = 5 ∧ k + 1 + 1 ≤ mcX X ∧ n + 2 + 2 ≤ msX X ∧ S_X2_init (lX X) (dtX X) 0 0 [.ref (hn h3)] (nw (sr h3 v0 9 (some (hn h))) 3 0) (QV fun h7 =>
    kd h7 v0 = 5 ∧ k + 1 + 1 + 1 ≤ mcX X ∧ n + 2 + 2 + 18 ≤ msX X ∧ kd (nw h7 20 18) v0 = 5 ∧ Wj X (k + 1 + 1 + 1) (n + 2 + 2 + 18) Q 87 [(0, .ref v0)] [] (sr (nw (sr h7 v0 10 (some (hn h3))) 20 18) v0 11 (some (hn h7)))))) :
    Wj X k n Q 57 [(0, .ref v0)] [] h := by
  refine w_aload_n (pc := 57) C dX4_init_57 rfl ?_
  obtain ⟨f1, hv⟩ := hv
  obtain ⟨f2, hv⟩ := hv
  refine w_new (pc := 58) C nl_X4_36 (N := 2) rfl dX4_init_58 f1 f2 ?_
  refine w_dup (pc := 61) C dX4_init_61 rfl ?_
  refine w_cIN0_0 (pc := 62) C cl_X4_38 li_X2_init (by decide) dX4_init_62 (Nat.le_of_ble_eq_true rfl) (hv.mono (fun v h3 hp => ?_))
  obtain ⟨rfl, hv⟩ := hp
  obtain ⟨f4, hv⟩ := hv
  refine w_putRF (pc := 65) C fl_X4_43 rfl rfl rfl dX4_init_65 f4 ?_
  refine w_aload_n (pc := 68) C dX4_init_68 rfl ?_
  obtain ⟨f5, hv⟩ := hv
  obtain ⟨f6, hv⟩ := hv
  refine w_new (pc := 69) C nl_X4_36 (N := 2) rfl dX4_init_69 f5 f6 ?_
  refine w_dup (pc := 72) C dX4_init_72 rfl ?_
  refine w_cIN0_0 (pc := 73) C cl_X4_38 li_X2_init (by decide) dX4_init_73 (Nat.le_of_ble_eq_true rfl) (hv.mono (fun v h7 hp => ?_))
  obtain ⟨rfl, hv⟩ := hp
  obtain ⟨f8, hv⟩ := hv
  refine w_putRF (pc := 76) C fl_X4_46 rfl rfl rfl dX4_init_76 f8 ?_
  refine w_aload_n (pc := 79) C dX4_init_79 rfl ?_
  refine w_bipush (pc := 80) C (v := 18) dX4_init_80 (by decide) ?_
  obtain ⟨f9, hv⟩ := hv
  obtain ⟨f10, hv⟩ := hv
  refine w_newa (pc := 82) (atype := .int) 0 (N := 18) C ac_int rfl rfl (by decide) dX4_init_82 (by decide) (by decide) (Nat.le_of_ble_eq_true rfl) f9 f10 ?_
  obtain ⟨f11, hv⟩ := hv
  refine w_putRF (pc := 84) C fl_X4_49 rfl rfl rfl dX4_init_84 f11 ?_
  refine w_sub ?_ hv
  exact ⟨rfl, trivial⟩
set_option maxRecDepth 20000 in
set_option maxHeartbeats 2000000 in
theorem V_X4_init_87 {X : Ctx} (C : C_X4_init X) {k n : Nat} {Q : Pq} {h : Hp} {v0 : Nat}
    (hv : k + 1 ≤ mcX X ∧ n + 18 ≤ msX X ∧ kd (nw h 20 18) v0 = 5 ∧ k + 1 + 1 ≤ mcX X ∧ n + 18 + 12 ≤ msX X ∧ kd (nw (nw h 20 18) 20 12) v0 = 5 ∧ k + 1 + 1 + 1 ≤ mcX X ∧ n + 18 + 12 + 60 ≤ msX X ∧ kd (nw (nw (nw h 20 18) 20 12) 21 60) v0 = 5 ∧ Wj X (k + 1 + 1 + 1) (n + 18 + 12 + 60) Q 111 [(0, .ref v0)] [] (sr (nw (sr (nw (sr (nw h 20 18) v0 12 (some (hn h))) 20 12) v0 13 (some (hn (nw h 20 18)))) 21 60) v0 14 (some (hn (nw (nw h 20 18) 20 12))))) :
    Wj X k n Q 87 [(0, .ref v0)] [] h := by
  refine w_aload_n (pc := 87) C dX4_init_87 rfl ?_
  refine w_bipush (pc := 88) C (v := 18) dX4_init_88 (by decide) ?_
  obtain ⟨f1, hv⟩ := hv
  obtain ⟨f2, hv⟩ := hv
  refine w_newa (pc := 90) (atype := .int) 0 (N := 18) C ac_int rfl rfl (by decide) dX4_init_90 (by decide) (by decide) (Nat.le_of_ble_eq_true rfl) f1 f2 ?_
  obtain ⟨f3, hv⟩ := hv
  refine w_putRF (pc := 92) C fl_X4_53 rfl rfl rfl dX4_init_92 f3 ?_
  refine w_aload_n (pc := 95) C dX4_init_95 rfl ?_
  refine w_bipush (pc := 96) C (v := 12) dX4_init_96 (by decide) ?_
  obtain ⟨f4, hv⟩ := hv
  obtain ⟨f5, hv⟩ := hv
  refine w_newa (pc := 98) (atype := .int) 0 (N := 12) C ac_int rfl rfl (by decide) dX4_init_98 (by decide) (by decide) (Nat.le_of_ble_eq_true rfl) f4 f5 ?_
  obtain ⟨f6, hv⟩ := hv
  refine w_putRF (pc := 100) C fl_X4_56 rfl rfl rfl dX4_init_100 f6 ?_
  refine w_aload_n (pc := 103) C dX4_init_103 rfl ?_
  refine w_bipush (pc := 104) C (v := 60) dX4_init_104 (by decide) ?_
  obtain ⟨f7, hv⟩ := hv
  obtain ⟨f8, hv⟩ := hv
  refine w_newa (pc := 106) (atype := .long) 1 (N := 60) C ac_long rfl rfl (by decide) dX4_init_106 (by decide) (by decide) (Nat.le_of_ble_eq_true rfl) f7 f8 ?_
  obtain ⟨f9, hv⟩ := hv
  refine w_putRF (pc := 108) C fl_X4_59 rfl rfl rfl dX4_init_108 f9 ?_
  refine w_sub ?_ hv
  exact ⟨rfl, trivial⟩
set_option maxRecDepth 20000 in
set_option maxHeartbeats 2000000 in
theorem V_X4_init_111 {X : Ctx} (C : C_X4_init X) {k n : Nat} {Q : Pq} {h : Hp} {v0 : Nat}
    (hv : k + 1 ≤ mcX X ∧ n + 60 ≤ msX X ∧ kd (nw h 21 60) v0 = 5 ∧ Q none (si (sr (nw h 21 60) v0 15 (some (hn h))) v0 16 1)) :
    Wj X k n Q 111 [(0, .ref v0)] [] h := by
  refine w_aload_n (pc := 111) C dX4_init_111 rfl ?_
  refine w_bipush (pc := 112) C (v := 60) dX4_init_112 (by decide) ?_
  obtain ⟨f1, hv⟩ := hv
  obtain ⟨f2, hv⟩ := hv
  refine w_newa (pc := 114) (atype := .long) 1 (N := 60) C ac_long rfl rfl (by decide) dX4_init_114 (by decide) (by decide) (Nat.le_of_ble_eq_true rfl) f1 f2 ?_
  obtain ⟨f3, hv⟩ := hv
  refine w_putRF (pc := 116) C fl_X4_63 rfl rfl rfl dX4_init_116 f3 ?_
  refine w_aload_n (pc := 119) C dX4_init_119 rfl ?_
  refine w_iconst (pc := 120) C (v := 1) dX4_init_120 (by decide) ?_
  refine w_putI (pc := 121) C fl_X4_66 rfl rfl dX4_init_121 f3 ?_
  exact w_vret (pc := 124) C dX4_init_124 hv
