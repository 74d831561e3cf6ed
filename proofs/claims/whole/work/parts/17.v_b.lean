-- readers and small writers (by program: gen_parts.py)
theorem dX2_init_0 : decode cX2_init 0 = .ok (.aload_n 0, 1) := by decide +kernel
theorem dX2_init_1 : decode cX2_init 1 = .ok (.invokespecial 1, 3) := by decide +kernel
theorem dX2_init_4 : decode cX2_init 4 = .ok (.aload_n 0, 1) := by decide +kernel
theorem dX2_init_5 : decode cX2_init 5 = .ok (.lconst 0, 1) := by decide +kernel
theorem dX2_init_6 : decode cX2_init 6 = .ok (.putfield 7, 3) := by decide +kernel
theorem dX2_init_9 : decode cX2_init 9 = .ok (.aload_n 0, 1) := by decide +kernel
theorem dX2_init_10 : decode cX2_init 10 = .ok (.lconst 1, 1) := by decide +kernel
theorem dX2_init_11 : decode cX2_init 11 = .ok (.putfield 13, 3) := by decide +kernel
theorem dX2_init_14 : decode cX2_init 14 = .ok (.return_, 1) := by decide +kernel
set_option maxRecDepth 20000 in
set_option maxHeartbeats 2000000 in
theorem V_X2_init_0 {X : Ctx} (C : C_X2_init X) {k n : Nat} {Q : Pq} {h : Hp} {v0 : Nat}
    (hv : kd h v0 = 3 ∧ Q none (sl (sl h v0 0 0) v0 1 1)) :
    Wj X k n Q 0 [(0, .ref v0)] [] h := by
  refine w_aload_n (pc := 0) C dX2_init_0 rfl ?_
  refine w_objInit (pc := 1) C oi_X2_1 ow_1 ow_2 dX2_init_1 (by decide) (Nat.le_of_ble_eq_true rfl) ?_
  refine w_aload_n (pc := 4) C dX2_init_4 rfl ?_
  refine w_lconst (pc := 5) C (v := 0) dX2_init_5 (by decide) ?_
  obtain ⟨f1, hv⟩ := hv
  refine w_putL (pc := 6) C fl_X2_7 rfl rfl dX2_init_6 f1 ?_
  refine w_aload_n (pc := 9) C dX2_init_9 rfl ?_
  refine w_lconst (pc := 10) C (v := 1) dX2_init_10 (by decide) ?_
  refine w_putL (pc := 11) C fl_X2_13 rfl rfl dX2_init_11 f1 ?_
  exact w_vret (pc := 14) C dX2_init_14 hv
theorem dX2_put_0 : decode cX2_put 0 = .ok (.lload_n 3, 1) := by decide +kernel
theorem dX2_put_1 : decode cX2_put 1 = .ok (.lconst 0, 1) := by decide +kernel
theorem dX2_put_2 : decode cX2_put 2 = .ok (.lcmp, 1) := by decide +kernel
theorem dX2_put_3 : decode cX2_put 3 = .ok (.ifCond .gt 14, 3) := by decide +kernel
theorem dX2_put_6 : decode cX2_put 6 = .ok (.aload_n 0, 1) := by decide +kernel
theorem dX2_put_7 : decode cX2_put 7 = .ok (.lconst 0, 1) := by decide +kernel
theorem dX2_put_8 : decode cX2_put 8 = .ok (.putfield 7, 3) := by decide +kernel
theorem dX2_put_11 : decode cX2_put 11 = .ok (.aload_n 0, 1) := by decide +kernel
theorem dX2_put_12 : decode cX2_put 12 = .ok (.lconst 1, 1) := by decide +kernel
theorem dX2_put_13 : decode cX2_put 13 = .ok (.putfield 13, 3) := by decide +kernel
theorem dX2_put_16 : decode cX2_put 16 = .ok (.return_, 1) := by decide +kernel
theorem dX2_put_17 : decode cX2_put 17 = .ok (.lload_n 1, 1) := by decide +kernel
theorem dX2_put_18 : decode cX2_put 18 = .ok (.lload_n 3, 1) := by decide +kernel
theorem dX2_put_19 : decode cX2_put 19 = .ok (.invokestatic 16, 3) := by decide +kernel
theorem dX2_put_22 : decode cX2_put 22 = .ok (.lstore 5, 2) := by decide +kernel
theorem dX2_put_24 : decode cX2_put 24 = .ok (.aload_n 0, 1) := by decide +kernel
theorem dX2_put_25 : decode cX2_put 25 = .ok (.lload_n 1, 1) := by decide +kernel
theorem dX2_put_26 : decode cX2_put 26 = .ok (.lload 5, 2) := by decide +kernel
theorem dX2_put_28 : decode cX2_put 28 = .ok (.ldiv, 1) := by decide +kernel
theorem dX2_put_29 : decode cX2_put 29 = .ok (.putfield 7, 3) := by decide +kernel
theorem dX2_put_32 : decode cX2_put 32 = .ok (.aload_n 0, 1) := by decide +kernel
theorem dX2_put_33 : decode cX2_put 33 = .ok (.lload_n 3, 1) := by decide +kernel
theorem dX2_put_34 : decode cX2_put 34 = .ok (.lload 5, 2) := by decide +kernel
theorem dX2_put_36 : decode cX2_put 36 = .ok (.ldiv, 1) := by decide +kernel
theorem dX2_put_37 : decode cX2_put 37 = .ok (.putfield 13, 3) := by decide +kernel
theorem dX2_put_40 : decode cX2_put 40 = .ok (.return_, 1) := by decide +kernel
set_option maxRecDepth 20000 in
set_option maxHeartbeats 2000000 in
theorem V_X2_put_0 {X : Ctx} (C : C_X2_put X) {k n : Nat} {Q : Pq} {h : Hp} {v0 : Nat} {v1 v3 : Int64}
    (hv : ((0 < v3 → -9223372036854775807 ≤ (Int64.toInt v1) ∧ 0 < (Int64.toInt v3) ∧ ¬ (cm v1 v3) = 0 ∧ kd h v0 = 3 ∧ Q none (sl (sl h v0 0 (v1 / (cm v1 v3))) v0 1 (v3 / (cm v1 v3)))) ∧
    (¬ 0 < v3 → kd h v0 = 3 ∧ Q none (sl (sl h v0 0 0) v0 1 1)))) :
    Wj X k n Q 0 [(0, .ref v0), (1, .long v1), (3, .long v3)] [] h := by
  refine w_lload_n (pc := 0) C dX2_put_0 rfl ?_
  refine w_lconst (pc := 1) C (v := 0) dX2_put_1 (by decide) ?_
  refine w_lcmp_gt (pc := 2) C (tgt := 17) dX2_put_2 dX2_put_3 (by decide) ?_
  obtain ⟨hv1, hv2⟩ := hv
  refine ⟨fun c6 => ?_, fun c6 => ?_⟩
  · have hv := hv1 c6
    refine w_lload_n (pc := 17) C dX2_put_17 rfl ?_
    refine w_lload_n (pc := 18) C dX2_put_18 rfl ?_
    obtain ⟨f1, hv⟩ := hv
    obtain ⟨f2, hv⟩ := hv
    refine w_cSN0_2 (pc := 19) C cl_X2_16 ls_X9_common (by decide) dX2_put_19 (Nat.le_of_ble_eq_true rfl) ((sf_X9_common (h := h) f1 f2).mono (fun v h9 hp => ?_))
    obtain ⟨e1, e2⟩ := hp
    rw [e1, e2]
    refine w_lstore (pc := 22) C dX2_put_22 (by decide) ?_
    refine w_aload_n (pc := 24) C dX2_put_24 rfl ?_
    refine w_lload_n (pc := 25) C dX2_put_25 rfl ?_
    refine w_lload (pc := 26) C dX2_put_26 rfl ?_
    obtain ⟨f3, hv⟩ := hv
    refine w_ldiv (pc := 28) C dX2_put_28 f3 ?_
    obtain ⟨f4, hv⟩ := hv
    refine w_putL (pc := 29) C fl_X2_7 rfl rfl dX2_put_29 f4 ?_
    refine w_aload_n (pc := 32) C dX2_put_32 rfl ?_
    refine w_lload_n (pc := 33) C dX2_put_33 rfl ?_
    refine w_lload (pc := 34) C dX2_put_34 rfl ?_
    refine w_ldiv (pc := 36) C dX2_put_36 f3 ?_
    refine w_putL (pc := 37) C fl_X2_13 rfl rfl dX2_put_37 f4 ?_
    exact w_vret (pc := 40) C dX2_put_40 hv
  · have hv := hv2 c6
    refine w_aload_n (pc := 6) C dX2_put_6 rfl ?_
    refine w_lconst (pc := 7) C (v := 0) dX2_put_7 (by decide) ?_
    obtain ⟨f5, hv⟩ := hv
    refine w_putL (pc := 8) C fl_X2_7 rfl rfl dX2_put_8 f5 ?_
    refine w_aload_n (pc := 11) C dX2_put_11 rfl ?_
    refine w_lconst (pc := 12) C (v := 1) dX2_put_12 (by decide) ?_
    refine w_putL (pc := 13) C fl_X2_13 rfl rfl dX2_put_13 f5 ?_
    exact w_vret (pc := 16) C dX2_put_16 hv
theorem dX2_copyFrom_0 : decode cX2_copyFrom 0 = .ok (.aload_n 0, 1) := by decide +kernel
theorem dX2_copyFrom_1 : decode cX2_copyFrom 1 = .ok (.aload_n 1, 1) := by decide +kernel
theorem dX2_copyFrom_2 : decode cX2_copyFrom 2 = .ok (.getfield 7, 3) := by decide +kernel
theorem dX2_copyFrom_5 : decode cX2_copyFrom 5 = .ok (.putfield 7, 3) := by decide +kernel
theorem dX2_copyFrom_8 : decode cX2_copyFrom 8 = .ok (.aload_n 0, 1) := by decide +kernel
theorem dX2_copyFrom_9 : decode cX2_copyFrom 9 = .ok (.aload_n 1, 1) := by decide +kernel
theorem dX2_copyFrom_10 : decode cX2_copyFrom 10 = .ok (.getfield 13, 3) := by decide +kernel
theorem dX2_copyFrom_13 : decode cX2_copyFrom 13 = .ok (.putfield 13, 3) := by decide +kernel
theorem dX2_copyFrom_16 : decode cX2_copyFrom 16 = .ok (.return_, 1) := by decide +kernel
set_option maxRecDepth 20000 in
set_option maxHeartbeats 2000000 in
theorem V_X2_copyFrom_0 {X : Ctx} (C : C_X2_copyFrom X) {k n : Nat} {Q : Pq} {h : Hp} {v0 v1 : Nat}
    (hv : kd h v1 = 3 ∧ kd h v0 = 3 ∧ Q none (sl (sl h v0 0 (gl h v1 0)) v0 1 (gl (sl h v0 0 (gl h v1 0)) v1 1))) :
    Wj X k n Q 0 [(0, .ref v0), (1, .ref v1)] [] h := by
  refine w_aload_n (pc := 0) C dX2_copyFrom_0 rfl ?_
  refine w_aload_n (pc := 1) C dX2_copyFrom_1 rfl ?_
  obtain ⟨f1, hv⟩ := hv
  refine w_getL (pc := 2) C fl_X2_7 rfl dX2_copyFrom_2 f1 ?_
  obtain ⟨f2, hv⟩ := hv
  refine w_putL (pc := 5) C fl_X2_7 rfl rfl dX2_copyFrom_5 f2 ?_
  refine w_aload_n (pc := 8) C dX2_copyFrom_8 rfl ?_
  refine w_aload_n (pc := 9) C dX2_copyFrom_9 rfl ?_
  refine w_getL (pc := 10) C fl_X2_13 rfl dX2_copyFrom_10 f1 ?_
  refine w_putL (pc := 13) C fl_X2_13 rfl rfl dX2_copyFrom_13 f2 ?_
  exact w_vret (pc := 16) C dX2_copyFrom_16 hv
theorem dX7_init_0 : decode cX7_init 0 = .ok (.aload_n 0, 1) := by decide +kernel
theorem dX7_init_1 : decode cX7_init 1 = .ok (.invokespecial 3, 3) := by decide +kernel
theorem dX7_init_4 : decode cX7_init 4 = .ok (.aload_n 0, 1) := by decide +kernel
theorem dX7_init_5 : decode cX7_init 5 = .ok (.bipush 80, 2) := by decide +kernel
theorem dX7_init_7 : decode cX7_init 7 = .ok (.newarray .char, 2) := by decide +kernel
theorem dX7_init_9 : decode cX7_init 9 = .ok (.putfield 9, 3) := by decide +kernel
theorem dX7_init_12 : decode cX7_init 12 = .ok (.aload_n 0, 1) := by decide +kernel
theorem dX7_init_13 : decode cX7_init 13 = .ok (.iconst 0, 1) := by decide +kernel
theorem dX7_init_14 : decode cX7_init 14 = .ok (.putfield 15, 3) := by decide +kernel
theorem dX7_init_17 : decode cX7_init 17 = .ok (.return_, 1) := by decide +kernel
set_option maxRecDepth 20000 in
set_option maxHeartbeats 2000000 in
theorem V_X7_init_0 {X : Ctx} (C : C_X7_init X) {k n : Nat} {Q : Pq} {h : Hp} {v0 : Nat}
    (hv : k + 1 ≤ mcX X ∧ n + 80 ≤ msX X ∧ kd (nw h 22 80) v0 = 8 ∧ Q none (si (sr (nw h 22 80) v0 0 (some (hn h))) v0 1 0)) :
    Wj X k n Q 0 [(0, .ref v0)] [] h := by
  refine w_aload_n (pc := 0) C dX7_init_0 rfl ?_
  refine w_objInit (pc := 1) C oi_X7_3 ow_1 ow_2 dX7_init_1 (by decide) (Nat.le_of_ble_eq_true rfl) ?_
  refine w_aload_n (pc := 4) C dX7_init_4 rfl ?_
  refine w_bipush (pc := 5) C (v := 80) dX7_init_5 (by decide) ?_
  obtain ⟨f1, hv⟩ := hv
  obtain ⟨f2, hv⟩ := hv
  refine w_newa (pc := 7) (atype := .char) 2 (N := 80) C ac_char rfl rfl (by decide) dX7_init_7 (by decide) (by decide) (Nat.le_of_ble_eq_true rfl) f1 f2 ?_
  obtain ⟨f3, hv⟩ := hv
  refine w_putRF (pc := 9) C fl_X7_9 rfl rfl rfl dX7_init_9 f3 ?_
  refine w_aload_n (pc := 12) C dX7_init_12 rfl ?_
  refine w_iconst (pc := 13) C (v := 0) dX7_init_13 (by decide) ?_
  refine w_putI (pc := 14) C fl_X7_15 rfl rfl dX7_init_14 f3 ?_
  exact w_vret (pc := 17) C dX7_init_17 hv
theorem dX7_at_0 : decode cX7_at 0 = .ok (.iload_n 1, 1) := by decide +kernel
theorem dX7_at_1 : decode cX7_at 1 = .ok (.ifCond .lt 29, 3) := by decide +kernel
theorem dX7_at_4 : decode cX7_at 4 = .ok (.iload_n 1, 1) := by decide +kernel
theorem dX7_at_5 : decode cX7_at 5 = .ok (.aload_n 0, 1) := by decide +kernel
theorem dX7_at_6 : decode cX7_at 6 = .ok (.getfield 15, 3) := by decide +kernel
theorem dX7_at_9 : decode cX7_at 9 = .ok (.if_icmp .ge 21, 3) := by decide +kernel
theorem dX7_at_12 : decode cX7_at 12 = .ok (.iload_n 1, 1) := by decide +kernel
theorem dX7_at_13 : decode cX7_at 13 = .ok (.aload_n 0, 1) := by decide +kernel
theorem dX7_at_14 : decode cX7_at 14 = .ok (.getfield 9, 3) := by decide +kernel
theorem dX7_at_17 : decode cX7_at 17 = .ok (.arraylength, 1) := by decide +kernel
theorem dX7_at_18 : decode cX7_at 18 = .ok (.if_icmp .ge 12, 3) := by decide +kernel
theorem dX7_at_21 : decode cX7_at 21 = .ok (.aload_n 0, 1) := by decide +kernel
theorem dX7_at_22 : decode cX7_at 22 = .ok (.getfield 9, 3) := by decide +kernel
theorem dX7_at_25 : decode cX7_at 25 = .ok (.iload_n 1, 1) := by decide +kernel
theorem dX7_at_26 : decode cX7_at 26 = .ok (.caload, 1) := by decide +kernel
theorem dX7_at_27 : decode cX7_at 27 = .ok (.goto 4, 3) := by decide +kernel
theorem dX7_at_30 : decode cX7_at 30 = .ok (.iconst (-1), 1) := by decide +kernel
theorem dX7_at_31 : decode cX7_at 31 = .ok (.ireturn, 1) := by decide +kernel
set_option maxRecDepth 20000 in
set_option maxHeartbeats 2000000 in
theorem V_X7_at_0 {X : Ctx} (C : C_X7_at X) {k n : Nat} {Q : Pq} {h : Hp} {v0 : Nat} {v1 : Int32}
    (hv : ((v1 < 0 → Q (some (.int (-1))) h) ∧
    (¬ v1 < 0 → St7 h v0 ∧ (((gi h v0 1) ≤ v1 → Q (some (.int (-1))) h) ∧
    (¬ (gi h v0 1) ≤ v1 → (((Int32.ofNat 80) ≤ v1 → Q (some (.int (-1))) h) ∧
    (¬ (Int32.ofNat 80) ≤ v1 → inb v1 80 ∧ Q (some (.int (gi h (v0 + 1) (ix v1)))) h))))))) :
    Wj X k n Q 0 [(0, .ref v0), (1, .int v1)] [] h := by
  refine w_iload_n (pc := 0) C dX7_at_0 rfl ?_
  refine w_if_lt (pc := 1) C (tgt := 30) dX7_at_1 (by decide) ?_
  obtain ⟨hv1, hv2⟩ := hv
  refine ⟨fun c5 => ?_, fun c5 => ?_⟩
  · have hv := hv1 c5
    refine w_iconst (pc := 30) C (v := (-1)) dX7_at_30 (by decide) ?_
    exact w_iret (pc := 31) C dX7_at_31 hv
  · have hv := hv2 c5
    refine w_iload_n (pc := 4) C dX7_at_4 rfl ?_
    refine w_aload_n (pc := 5) C dX7_at_5 rfl ?_
    obtain ⟨f1, hv⟩ := hv
    refine w_getI (pc := 6) C fl_X7_15 rfl dX7_at_6 (St7_k f1) ?_
    refine w_icmp_ge (pc := 9) C (tgt := 30) dX7_at_9 (by decide) ?_
    obtain ⟨hv1, hv2⟩ := hv
    refine ⟨fun c4 => ?_, fun c4 => ?_⟩
    · have hv := hv1 c4
      refine w_iconst (pc := 30) C (v := (-1)) dX7_at_30 (by decide) ?_
      exact w_iret (pc := 31) C dX7_at_31 hv
    · have hv := hv2 c4
      refine w_iload_n (pc := 12) C dX7_at_12 rfl ?_
      refine w_aload_n (pc := 13) C dX7_at_13 rfl ?_
      refine w_getR (pc := 14) C fl_X7_9 rfl dX7_at_14 (St7_k f1) (St7_r0 f1) ?_
      refine w_alen (pc := 17) 2 (by decide) C dX7_at_17 (St7_k0 f1) ?_
      rw [(St7_l0 f1)]
      refine w_icmp_ge (pc := 18) C (tgt := 30) dX7_at_18 (by decide) ?_
      obtain ⟨hv1, hv2⟩ := hv
      refine ⟨fun c3 => ?_, fun c3 => ?_⟩
      · have hv := hv1 c3
        refine w_iconst (pc := 30) C (v := (-1)) dX7_at_30 (by decide) ?_
        exact w_iret (pc := 31) C dX7_at_31 hv
      · have hv := hv2 c3
        refine w_aload_n (pc := 21) C dX7_at_21 rfl ?_
        refine w_getR (pc := 22) C fl_X7_9 rfl dX7_at_22 (St7_k f1) (St7_r0 f1) ?_
        refine w_iload_n (pc := 25) C dX7_at_25 rfl ?_
        obtain ⟨f2, hv⟩ := hv
        refine w_cald (pc := 26) C dX7_at_26 (St7_k0 f1) (inbl (St7_l0 f1) f2) ?_
        refine w_goto (pc := 27) C (tgt := 31) dX7_at_27 (by decide) ?_
        exact w_iret (pc := 31) C dX7_at_31 hv
theorem dX7_isDigit_0 : decode cX7_isDigit 0 = .ok (.aload_n 0, 1) := by decide +kernel
theorem dX7_isDigit_1 : decode cX7_isDigit 1 = .ok (.iload_n 1, 1) := by decide +kernel
theorem dX7_isDigit_2 : decode cX7_isDigit 2 = .ok (.invokevirtual 19, 3) := by decide +kernel
theorem dX7_isDigit_5 : decode cX7_isDigit 5 = .ok (.bipush 48, 2) := by decide +kernel
theorem dX7_isDigit_7 : decode cX7_isDigit 7 = .ok (.if_icmp .lt 17, 3) := by decide +kernel
theorem dX7_isDigit_10 : decode cX7_isDigit 10 = .ok (.aload_n 0, 1) := by decide +kernel
theorem dX7_isDigit_11 : decode cX7_isDigit 11 = .ok (.iload_n 1, 1) := by decide +kernel
theorem dX7_isDigit_12 : decode cX7_isDigit 12 = .ok (.invokevirtual 19, 3) := by decide +kernel
theorem dX7_isDigit_15 : decode cX7_isDigit 15 = .ok (.bipush 57, 2) := by decide +kernel
theorem dX7_isDigit_17 : decode cX7_isDigit 17 = .ok (.if_icmp .gt 7, 3) := by decide +kernel
theorem dX7_isDigit_20 : decode cX7_isDigit 20 = .ok (.iconst 1, 1) := by decide +kernel
theorem dX7_isDigit_21 : decode cX7_isDigit 21 = .ok (.goto 4, 3) := by decide +kernel
theorem dX7_isDigit_24 : decode cX7_isDigit 24 = .ok (.iconst 0, 1) := by decide +kernel
theorem dX7_isDigit_25 : decode cX7_isDigit 25 = .ok (.ireturn, 1) := by decide +kernel
set_option maxRecDepth 20000 in
set_option maxHeartbeats 2000000 in
theorem V_X7_isDigit_0 {X : Ctx} (C : C_X7_isDigit X) {k n : Nat} {Q : Pq} {h : Hp} {v0 : Nat} {v1 : Int32}
    (hv : St7 h v0 ∧ S_X7_at (lX X) (dtX X) 0 0 [.ref v0, .int v1] h (QI fun x3 h2 =>
    ((x3 < 48 → Q (some (.int 0)) h2) ∧
    (¬ x3 < 48 → St7 h2 v0 ∧ S_X7_at (lX X) (dtX X) 0 0 [.ref v0, .int v1] h2 (QI fun x6 h5 =>
    ((57 < x6 → Q (some (.int 0)) h5) ∧
    (¬ 57 < x6 → Q (some (.int 1)) h5))))))) :
    Wj X k n Q 0 [(0, .ref v0), (1, .int v1)] [] h := by
  refine w_aload_n (pc := 0) C dX7_isDigit_0 rfl ?_
  refine w_iload_n (pc := 1) C dX7_isDigit_1 rfl ?_
  obtain ⟨f1, hv⟩ := hv
  refine w_cV0_1 (pc := 2) C cl_X7_19 lv_X7_at (by decide) dX7_isDigit_2 (Nat.le_of_ble_eq_true rfl) (c := 7) rfl (St7_k f1) (hv.mono (fun v h2 hp => ?_))
  obtain ⟨x3, rfl, hv⟩ := hp
  refine w_bipush (pc := 5) C (v := 48) dX7_isDigit_5 (by decide) ?_
  refine w_icmp_lt (pc := 7) C (tgt := 24) dX7_isDigit_7 (by decide) ?_
  obtain ⟨hv1, hv2⟩ := hv
  refine ⟨fun c8 => ?_, fun c8 => ?_⟩
  · have hv := hv1 c8
    refine w_iconst (pc := 24) C (v := 0) dX7_isDigit_24 (by decide) ?_
    exact w_zret (pc := 25) C dX7_isDigit_25 (by decide) hv
  · have hv := hv2 c8
    refine w_aload_n (pc := 10) C dX7_isDigit_10 rfl ?_
    refine w_iload_n (pc := 11) C dX7_isDigit_11 rfl ?_
    obtain ⟨f4, hv⟩ := hv
    refine w_cV0_1 (pc := 12) C cl_X7_19 lv_X7_at (by decide) dX7_isDigit_12 (Nat.le_of_ble_eq_true rfl) (c := 7) rfl (St7_k f4) (hv.mono (fun v h5 hp => ?_))
    obtain ⟨x6, rfl, hv⟩ := hp
    refine w_bipush (pc := 15) C (v := 57) dX7_isDigit_15 (by decide) ?_
    refine w_icmp_gt (pc := 17) C (tgt := 24) dX7_isDigit_17 (by decide) ?_
    obtain ⟨hv1, hv2⟩ := hv
    refine ⟨fun c7 => ?_, fun c7 => ?_⟩
    · have hv := hv1 c7
      refine w_iconst (pc := 24) C (v := 0) dX7_isDigit_24 (by decide) ?_
      exact w_zret (pc := 25) C dX7_isDigit_25 (by decide) hv
    · have hv := hv2 c7
      refine w_iconst (pc := 20) C (v := 1) dX7_isDigit_20 (by decide) ?_
      refine w_goto (pc := 21) C (tgt := 25) dX7_isDigit_21 (by decide) ?_
      exact w_zret (pc := 25) C dX7_isDigit_25 (by decide) hv
theorem dX8_init_0 : decode cX8_init 0 = .ok (.aload_n 0, 1) := by decide +kernel
theorem dX8_init_1 : decode cX8_init 1 = .ok (.invokespecial 3, 3) := by decide +kernel
theorem dX8_init_4 : decode cX8_init 4 = .ok (.aload_n 0, 1) := by decide +kernel
theorem dX8_init_5 : decode cX8_init 5 = .ok (.bipush 60, 2) := by decide +kernel
theorem dX8_init_7 : decode cX8_init 7 = .ok (.newarray .long, 2) := by decide +kernel
theorem dX8_init_9 : decode cX8_init 9 = .ok (.putfield 9, 3) := by decide +kernel
theorem dX8_init_12 : decode cX8_init 12 = .ok (.aload_n 0, 1) := by decide +kernel
theorem dX8_init_13 : decode cX8_init 13 = .ok (.iconst 0, 1) := by decide +kernel
theorem dX8_init_14 : decode cX8_init 14 = .ok (.putfield 15, 3) := by decide +kernel
theorem dX8_init_17 : decode cX8_init 17 = .ok (.return_, 1) := by decide +kernel
set_option maxRecDepth 20000 in
set_option maxHeartbeats 2000000 in
theorem V_X8_init_0 {X : Ctx} (C : C_X8_init X) {k n : Nat} {Q : Pq} {h : Hp} {v0 : Nat}
    (hv : k + 1 ≤ mcX X ∧ n + 60 ≤ msX X ∧ kd (nw h 21 60) v0 = 9 ∧ Q none (si (sr (nw h 21 60) v0 0 (some (hn h))) v0 1 0)) :
    Wj X k n Q 0 [(0, .ref v0)] [] h := by
  refine w_aload_n (pc := 0) C dX8_init_0 rfl ?_
  refine w_objInit (pc := 1) C oi_X8_3 ow_1 ow_2 dX8_init_1 (by decide) (Nat.le_of_ble_eq_true rfl) ?_
  refine w_aload_n (pc := 4) C dX8_init_4 rfl ?_
  refine w_bipush (pc := 5) C (v := 60) dX8_init_5 (by decide) ?_
  obtain ⟨f1, hv⟩ := hv
  obtain ⟨f2, hv⟩ := hv
  refine w_newa (pc := 7) (atype := .long) 1 (N := 60) C ac_long rfl rfl (by decide) dX8_init_7 (by decide) (by decide) (Nat.le_of_ble_eq_true rfl) f1 f2 ?_
  obtain ⟨f3, hv⟩ := hv
  refine w_putRF (pc := 9) C fl_X8_9 rfl rfl rfl dX8_init_9 f3 ?_
  refine w_aload_n (pc := 12) C dX8_init_12 rfl ?_
  refine w_iconst (pc := 13) C (v := 0) dX8_init_13 (by decide) ?_
  refine w_putI (pc := 14) C fl_X8_15 rfl rfl dX8_init_14 f3 ?_
  exact w_vret (pc := 17) C dX8_init_17 hv
theorem dX8_clear_0 : decode cX8_clear 0 = .ok (.aload_n 0, 1) := by decide +kernel
theorem dX8_clear_1 : decode cX8_clear 1 = .ok (.iconst 0, 1) := by decide +kernel
theorem dX8_clear_2 : decode cX8_clear 2 = .ok (.putfield 15, 3) := by decide +kernel
theorem dX8_clear_5 : decode cX8_clear 5 = .ok (.return_, 1) := by decide +kernel
set_option maxRecDepth 20000 in
set_option maxHeartbeats 2000000 in
theorem V_X8_clear_0 {X : Ctx} (C : C_X8_clear X) {k n : Nat} {Q : Pq} {h : Hp} {v0 : Nat}
    (hv : St8 h v0 ∧ Q none (si h v0 1 0)) :
    Wj X k n Q 0 [(0, .ref v0)] [] h := by
  refine w_aload_n (pc := 0) C dX8_clear_0 rfl ?_
  refine w_iconst (pc := 1) C (v := 0) dX8_clear_1 (by decide) ?_
  obtain ⟨f1, hv⟩ := hv
  refine w_putI (pc := 2) C fl_X8_15 rfl rfl dX8_clear_2 (St8_k f1) ?_
  exact w_vret (pc := 5) C dX8_clear_5 hv
theorem dX8_add_0 : decode cX8_add 0 = .ok (.aload_n 0, 1) := by decide +kernel
theorem dX8_add_1 : decode cX8_add 1 = .ok (.getfield 15, 3) := by decide +kernel
theorem dX8_add_4 : decode cX8_add 4 = .ok (.ifCond .lt 35, 3) := by decide +kernel
theorem dX8_add_7 : decode cX8_add 7 = .ok (.aload_n 0, 1) := by decide +kernel
theorem dX8_add_8 : decode cX8_add 8 = .ok (.getfield 15, 3) := by decide +kernel
theorem dX8_add_11 : decode cX8_add 11 = .ok (.aload_n 0, 1) := by decide +kernel
theorem dX8_add_12 : decode cX8_add 12 = .ok (.getfield 9, 3) := by decide +kernel
theorem dX8_add_15 : decode cX8_add 15 = .ok (.arraylength, 1) := by decide +kernel
theorem dX8_add_16 : decode cX8_add 16 = .ok (.if_icmp .ge 23, 3) := by decide +kernel
theorem dX8_add_19 : decode cX8_add 19 = .ok (.aload_n 0, 1) := by decide +kernel
theorem dX8_add_20 : decode cX8_add 20 = .ok (.getfield 9, 3) := by decide +kernel
theorem dX8_add_23 : decode cX8_add 23 = .ok (.aload_n 0, 1) := by decide +kernel
theorem dX8_add_24 : decode cX8_add 24 = .ok (.getfield 15, 3) := by decide +kernel
theorem dX8_add_27 : decode cX8_add 27 = .ok (.lload_n 1, 1) := by decide +kernel
theorem dX8_add_28 : decode cX8_add 28 = .ok (.lastore, 1) := by decide +kernel
theorem dX8_add_29 : decode cX8_add 29 = .ok (.aload_n 0, 1) := by decide +kernel
theorem dX8_add_30 : decode cX8_add 30 = .ok (.dup, 1) := by decide +kernel
theorem dX8_add_31 : decode cX8_add 31 = .ok (.getfield 15, 3) := by decide +kernel
theorem dX8_add_34 : decode cX8_add 34 = .ok (.iconst 1, 1) := by decide +kernel
theorem dX8_add_35 : decode cX8_add 35 = .ok (.iadd, 1) := by decide +kernel
theorem dX8_add_36 : decode cX8_add 36 = .ok (.putfield 15, 3) := by decide +kernel
theorem dX8_add_39 : decode cX8_add 39 = .ok (.return_, 1) := by decide +kernel
set_option maxRecDepth 20000 in
set_option maxHeartbeats 2000000 in
theorem V_X8_add_0 {X : Ctx} (C : C_X8_add X) {k n : Nat} {Q : Pq} {h : Hp} {v0 : Nat} {v1 : Int64}
    (hv : St8 h v0 ∧ (((gi h v0 1) < 0 → Q none h) ∧
    (¬ (gi h v0 1) < 0 → (((Int32.ofNat 60) ≤ (gi h v0 1) → Q none h) ∧
    (¬ (Int32.ofNat 60) ≤ (gi h v0 1) → inb (gi h v0 1) 60 ∧ Q none (si (sl h (v0 + 1) (ix (gi h v0 1)) v1) v0 1 ((gi h v0 1) + 1))))))) :
    Wj X k n Q 0 [(0, .ref v0), (1, .long v1)] [] h := by
  refine w_aload_n (pc := 0) C dX8_add_0 rfl ?_
  obtain ⟨f1, hv⟩ := hv
  refine w_getI (pc := 1) C fl_X8_15 rfl dX8_add_1 (St8_k f1) ?_
  refine w_if_lt (pc := 4) C (tgt := 39) dX8_add_4 (by decide) ?_
  obtain ⟨hv1, hv2⟩ := hv
  refine ⟨fun c4 => ?_, fun c4 => ?_⟩
  · have hv := hv1 c4
    exact w_vret (pc := 39) C dX8_add_39 hv
  · have hv := hv2 c4
    refine w_aload_n (pc := 7) C dX8_add_7 rfl ?_
    refine w_getI (pc := 8) C fl_X8_15 rfl dX8_add_8 (St8_k f1) ?_
    refine w_aload_n (pc := 11) C dX8_add_11 rfl ?_
    refine w_getR (pc := 12) C fl_X8_9 rfl dX8_add_12 (St8_k f1) (St8_r0 f1) ?_
    refine w_alen (pc := 15) 1 (by decide) C dX8_add_15 (St8_k0 f1) ?_
    rw [(St8_l0 f1)]
    refine w_icmp_ge (pc := 16) C (tgt := 39) dX8_add_16 (by decide) ?_
    obtain ⟨hv1, hv2⟩ := hv
    refine ⟨fun c3 => ?_, fun c3 => ?_⟩
    · have hv := hv1 c3
      exact w_vret (pc := 39) C dX8_add_39 hv
    · have hv := hv2 c3
      refine w_aload_n (pc := 19) C dX8_add_19 rfl ?_
      refine w_getR (pc := 20) C fl_X8_9 rfl dX8_add_20 (St8_k f1) (St8_r0 f1) ?_
      refine w_aload_n (pc := 23) C dX8_add_23 rfl ?_
      refine w_getI (pc := 24) C fl_X8_15 rfl dX8_add_24 (St8_k f1) ?_
      refine w_lload_n (pc := 27) C dX8_add_27 rfl ?_
      obtain ⟨f2, hv⟩ := hv
      refine w_last (pc := 28) C dX8_add_28 (St8_k0 f1) (inbl (St8_l0 f1) f2) ?_
      refine w_aload_n (pc := 29) C dX8_add_29 rfl ?_
      refine w_dup (pc := 30) C dX8_add_30 rfl ?_
      refine w_getI (pc := 31) C fl_X8_15 rfl dX8_add_31 (St8_k f1) ?_
      refine w_iconst (pc := 34) C (v := 1) dX8_add_34 (by decide) ?_
      refine w_iadd (pc := 35) C dX8_add_35 ?_
      refine w_putI (pc := 36) C fl_X8_15 rfl rfl dX8_add_36 (St8_k f1) ?_
      exact w_vret (pc := 39) C dX8_add_39 hv
theorem dX8_number_0 : decode cX8_number 0 = .ok (.iload_n 1, 1) := by decide +kernel
theorem dX8_number_1 : decode cX8_number 1 = .ok (.ifCond .lt 21, 3) := by decide +kernel
theorem dX8_number_4 : decode cX8_number 4 = .ok (.iload_n 1, 1) := by decide +kernel
theorem dX8_number_5 : decode cX8_number 5 = .ok (.aload_n 0, 1) := by decide +kernel
theorem dX8_number_6 : decode cX8_number 6 = .ok (.getfield 9, 3) := by decide +kernel
theorem dX8_number_9 : decode cX8_number 9 = .ok (.arraylength, 1) := by decide +kernel
theorem dX8_number_10 : decode cX8_number 10 = .ok (.if_icmp .ge 12, 3) := by decide +kernel
theorem dX8_number_13 : decode cX8_number 13 = .ok (.aload_n 0, 1) := by decide +kernel
theorem dX8_number_14 : decode cX8_number 14 = .ok (.getfield 9, 3) := by decide +kernel
theorem dX8_number_17 : decode cX8_number 17 = .ok (.iload_n 1, 1) := by decide +kernel
theorem dX8_number_18 : decode cX8_number 18 = .ok (.laload, 1) := by decide +kernel
theorem dX8_number_19 : decode cX8_number 19 = .ok (.goto 4, 3) := by decide +kernel
theorem dX8_number_22 : decode cX8_number 22 = .ok (.lconst 0, 1) := by decide +kernel
theorem dX8_number_23 : decode cX8_number 23 = .ok (.lreturn, 1) := by decide +kernel
set_option maxRecDepth 20000 in
set_option maxHeartbeats 2000000 in
theorem V_X8_number_0 {X : Ctx} (C : C_X8_number X) {k n : Nat} {Q : Pq} {h : Hp} {v0 : Nat} {v1 : Int32}
    (hv : ((v1 < 0 → Q (some (.long 0)) h) ∧
    (¬ v1 < 0 → St8 h v0 ∧ (((Int32.ofNat 60) ≤ v1 → Q (some (.long 0)) h) ∧
    (¬ (Int32.ofNat 60) ≤ v1 → inb v1 60 ∧ Q (some (.long (gl h (v0 + 1) (ix v1)))) h))))) :
    Wj X k n Q 0 [(0, .ref v0), (1, .int v1)] [] h := by
  refine w_iload_n (pc := 0) C dX8_number_0 rfl ?_
  refine w_if_lt (pc := 1) C (tgt := 22) dX8_number_1 (by decide) ?_
  obtain ⟨hv1, hv2⟩ := hv
  refine ⟨fun c4 => ?_, fun c4 => ?_⟩
  · have hv := hv1 c4
    refine w_lconst (pc := 22) C (v := 0) dX8_number_22 (by decide) ?_
    exact w_lret (pc := 23) C dX8_number_23 hv
  · have hv := hv2 c4
    refine w_iload_n (pc := 4) C dX8_number_4 rfl ?_
    refine w_aload_n (pc := 5) C dX8_number_5 rfl ?_
    obtain ⟨f1, hv⟩ := hv
    refine w_getR (pc := 6) C fl_X8_9 rfl dX8_number_6 (St8_k f1) (St8_r0 f1) ?_
    refine w_alen (pc := 9) 1 (by decide) C dX8_number_9 (St8_k0 f1) ?_
    rw [(St8_l0 f1)]
    refine w_icmp_ge (pc := 10) C (tgt := 22) dX8_number_10 (by decide) ?_
    obtain ⟨hv1, hv2⟩ := hv
    refine ⟨fun c3 => ?_, fun c3 => ?_⟩
    · have hv := hv1 c3
      refine w_lconst (pc := 22) C (v := 0) dX8_number_22 (by decide) ?_
      exact w_lret (pc := 23) C dX8_number_23 hv
    · have hv := hv2 c3
      refine w_aload_n (pc := 13) C dX8_number_13 rfl ?_
      refine w_getR (pc := 14) C fl_X8_9 rfl dX8_number_14 (St8_k f1) (St8_r0 f1) ?_
      refine w_iload_n (pc := 17) C dX8_number_17 rfl ?_
      obtain ⟨f2, hv⟩ := hv
      refine w_lald (pc := 18) C dX8_number_18 (St8_k0 f1) (inbl (St8_l0 f1) f2) ?_
      refine w_goto (pc := 19) C (tgt := 23) dX8_number_19 (by decide) ?_
      exact w_lret (pc := 23) C dX8_number_23 hv
theorem dX4_isCircle_0 : decode cX4_isCircle 0 = .ok (.iload_n 1, 1) := by decide +kernel
theorem dX4_isCircle_1 : decode cX4_isCircle 1 = .ok (.ifCond .lt 15, 3) := by decide +kernel
theorem dX4_isCircle_4 : decode cX4_isCircle 4 = .ok (.iload_n 1, 1) := by decide +kernel
theorem dX4_isCircle_5 : decode cX4_isCircle 5 = .ok (.aload_n 0, 1) := by decide +kernel
theorem dX4_isCircle_6 : decode cX4_isCircle 6 = .ok (.getfield 21, 3) := by decide +kernel
theorem dX4_isCircle_9 : decode cX4_isCircle 9 = .ok (.if_icmp .ge 7, 3) := by decide +kernel
theorem dX4_isCircle_12 : decode cX4_isCircle 12 = .ok (.iconst 1, 1) := by decide +kernel
theorem dX4_isCircle_13 : decode cX4_isCircle 13 = .ok (.goto 4, 3) := by decide +kernel
theorem dX4_isCircle_16 : decode cX4_isCircle 16 = .ok (.iconst 0, 1) := by decide +kernel
theorem dX4_isCircle_17 : decode cX4_isCircle 17 = .ok (.ireturn, 1) := by decide +kernel
set_option maxRecDepth 20000 in
set_option maxHeartbeats 2000000 in
theorem V_X4_isCircle_0 {X : Ctx} (C : C_X4_isCircle X) {k n : Nat} {Q : Pq} {h : Hp} {v0 : Nat} {v1 : Int32}
    (hv : ((v1 < 0 → Q (some (.int 0)) h) ∧
    (¬ v1 < 0 → St4 h v0 ∧ (((gi h v0 3) ≤ v1 → Q (some (.int 0)) h) ∧
    (¬ (gi h v0 3) ≤ v1 → Q (some (.int 1)) h))))) :
    Wj X k n Q 0 [(0, .ref v0), (1, .int v1)] [] h := by
  refine w_iload_n (pc := 0) C dX4_isCircle_0 rfl ?_
  refine w_if_lt (pc := 1) C (tgt := 16) dX4_isCircle_1 (by decide) ?_
  obtain ⟨hv1, hv2⟩ := hv
  refine ⟨fun c3 => ?_, fun c3 => ?_⟩
  · have hv := hv1 c3
    refine w_iconst (pc := 16) C (v := 0) dX4_isCircle_16 (by decide) ?_
    exact w_zret (pc := 17) C dX4_isCircle_17 (by decide) hv
  · have hv := hv2 c3
    refine w_iload_n (pc := 4) C dX4_isCircle_4 rfl ?_
    refine w_aload_n (pc := 5) C dX4_isCircle_5 rfl ?_
    obtain ⟨f1, hv⟩ := hv
    refine w_getI (pc := 6) C fl_X4_21 rfl dX4_isCircle_6 (St4_k f1) ?_
    refine w_icmp_ge (pc := 9) C (tgt := 16) dX4_isCircle_9 (by decide) ?_
    obtain ⟨hv1, hv2⟩ := hv
    refine ⟨fun c2 => ?_, fun c2 => ?_⟩
    · have hv := hv1 c2
      refine w_iconst (pc := 16) C (v := 0) dX4_isCircle_16 (by decide) ?_
      exact w_zret (pc := 17) C dX4_isCircle_17 (by decide) hv
    · have hv := hv2 c2
      refine w_iconst (pc := 12) C (v := 1) dX4_isCircle_12 (by decide) ?_
      refine w_goto (pc := 13) C (tgt := 17) dX4_isCircle_13 (by decide) ?_
      exact w_zret (pc := 17) C dX4_isCircle_17 (by decide) hv
theorem dX4_isGear_0 : decode cX4_isGear 0 = .ok (.iload_n 1, 1) := by decide +kernel
theorem dX4_isGear_1 : decode cX4_isGear 1 = .ok (.ifCond .lt 15, 3) := by decide +kernel
theorem dX4_isGear_4 : decode cX4_isGear 4 = .ok (.iload_n 1, 1) := by decide +kernel
theorem dX4_isGear_5 : decode cX4_isGear 5 = .ok (.aload_n 0, 1) := by decide +kernel
theorem dX4_isGear_6 : decode cX4_isGear 6 = .ok (.getfield 24, 3) := by decide +kernel
theorem dX4_isGear_9 : decode cX4_isGear 9 = .ok (.if_icmp .ge 7, 3) := by decide +kernel
theorem dX4_isGear_12 : decode cX4_isGear 12 = .ok (.iconst 1, 1) := by decide +kernel
theorem dX4_isGear_13 : decode cX4_isGear 13 = .ok (.goto 4, 3) := by decide +kernel
theorem dX4_isGear_16 : decode cX4_isGear 16 = .ok (.iconst 0, 1) := by decide +kernel
theorem dX4_isGear_17 : decode cX4_isGear 17 = .ok (.ireturn, 1) := by decide +kernel
set_option maxRecDepth 20000 in
set_option maxHeartbeats 2000000 in
theorem V_X4_isGear_0 {X : Ctx} (C : C_X4_isGear X) {k n : Nat} {Q : Pq} {h : Hp} {v0 : Nat} {v1 : Int32}
    (hv : ((v1 < 0 → Q (some (.int 0)) h) ∧
    (¬ v1 < 0 → St4 h v0 ∧ (((gi h v0 4) ≤ v1 → Q (some (.int 0)) h) ∧
    (¬ (gi h v0 4) ≤ v1 → Q (some (.int 1)) h))))) :
    Wj X k n Q 0 [(0, .ref v0), (1, .int v1)] [] h := by
  refine w_iload_n (pc := 0) C dX4_isGear_0 rfl ?_
  refine w_if_lt (pc := 1) C (tgt := 16) dX4_isGear_1 (by decide) ?_
  obtain ⟨hv1, hv2⟩ := hv
  refine ⟨fun c3 => ?_, fun c3 => ?_⟩
  · have hv := hv1 c3
    refine w_iconst (pc := 16) C (v := 0) dX4_isGear_16 (by decide) ?_
    exact w_zret (pc := 17) C dX4_isGear_17 (by decide) hv
  · have hv := hv2 c3
    refine w_iload_n (pc := 4) C dX4_isGear_4 rfl ?_
    refine w_aload_n (pc := 5) C dX4_isGear_5 rfl ?_
    obtain ⟨f1, hv⟩ := hv
    refine w_getI (pc := 6) C fl_X4_24 rfl dX4_isGear_6 (St4_k f1) ?_
    refine w_icmp_ge (pc := 9) C (tgt := 16) dX4_isGear_9 (by decide) ?_
    obtain ⟨hv1, hv2⟩ := hv
    refine ⟨fun c2 => ?_, fun c2 => ?_⟩
    · have hv := hv1 c2
      refine w_iconst (pc := 16) C (v := 0) dX4_isGear_16 (by decide) ?_
      exact w_zret (pc := 17) C dX4_isGear_17 (by decide) hv
    · have hv := hv2 c2
      refine w_iconst (pc := 12) C (v := 1) dX4_isGear_12 (by decide) ?_
      refine w_goto (pc := 13) C (tgt := 17) dX4_isGear_13 (by decide) ?_
      exact w_zret (pc := 17) C dX4_isGear_17 (by decide) hv
theorem dX4_isMark_0 : decode cX4_isMark 0 = .ok (.iload_n 1, 1) := by decide +kernel
theorem dX4_isMark_1 : decode cX4_isMark 1 = .ok (.ifCond .lt 15, 3) := by decide +kernel
theorem dX4_isMark_4 : decode cX4_isMark 4 = .ok (.iload_n 1, 1) := by decide +kernel
theorem dX4_isMark_5 : decode cX4_isMark 5 = .ok (.aload_n 0, 1) := by decide +kernel
theorem dX4_isMark_6 : decode cX4_isMark 6 = .ok (.getfield 33, 3) := by decide +kernel
theorem dX4_isMark_9 : decode cX4_isMark 9 = .ok (.if_icmp .ge 7, 3) := by decide +kernel
theorem dX4_isMark_12 : decode cX4_isMark 12 = .ok (.iconst 1, 1) := by decide +kernel
theorem dX4_isMark_13 : decode cX4_isMark 13 = .ok (.goto 4, 3) := by decide +kernel
theorem dX4_isMark_16 : decode cX4_isMark 16 = .ok (.iconst 0, 1) := by decide +kernel
theorem dX4_isMark_17 : decode cX4_isMark 17 = .ok (.ireturn, 1) := by decide +kernel
set_option maxRecDepth 20000 in
set_option maxHeartbeats 2000000 in
theorem V_X4_isMark_0 {X : Ctx} (C : C_X4_isMark X) {k n : Nat} {Q : Pq} {h : Hp} {v0 : Nat} {v1 : Int32}
    (hv : ((v1 < 0 → Q (some (.int 0)) h) ∧
    (¬ v1 < 0 → St4 h v0 ∧ (((gi h v0 7) ≤ v1 → Q (some (.int 0)) h) ∧
    (¬ (gi h v0 7) ≤ v1 → Q (some (.int 1)) h))))) :
    Wj X k n Q 0 [(0, .ref v0), (1, .int v1)] [] h := by
  refine w_iload_n (pc := 0) C dX4_isMark_0 rfl ?_
  refine w_if_lt (pc := 1) C (tgt := 16) dX4_isMark_1 (by decide) ?_
  obtain ⟨hv1, hv2⟩ := hv
  refine ⟨fun c3 => ?_, fun c3 => ?_⟩
  · have hv := hv1 c3
    refine w_iconst (pc := 16) C (v := 0) dX4_isMark_16 (by decide) ?_
    exact w_zret (pc := 17) C dX4_isMark_17 (by decide) hv
  · have hv := hv2 c3
    refine w_iload_n (pc := 4) C dX4_isMark_4 rfl ?_
    refine w_aload_n (pc := 5) C dX4_isMark_5 rfl ?_
    obtain ⟨f1, hv⟩ := hv
    refine w_getI (pc := 6) C fl_X4_33 rfl dX4_isMark_6 (St4_k f1) ?_
    refine w_icmp_ge (pc := 9) C (tgt := 16) dX4_isMark_9 (by decide) ?_
    obtain ⟨hv1, hv2⟩ := hv
    refine ⟨fun c2 => ?_, fun c2 => ?_⟩
    · have hv := hv1 c2
      refine w_iconst (pc := 16) C (v := 0) dX4_isMark_16 (by decide) ?_
      exact w_zret (pc := 17) C dX4_isMark_17 (by decide) hv
    · have hv := hv2 c2
      refine w_iconst (pc := 12) C (v := 1) dX4_isMark_12 (by decide) ?_
      refine w_goto (pc := 13) C (tgt := 17) dX4_isMark_13 (by decide) ?_
      exact w_zret (pc := 17) C dX4_isMark_17 (by decide) hv
theorem dX5_tooth_0 : decode cX5_tooth 0 = .ok (.iload_n 1, 1) := by decide +kernel
theorem dX5_tooth_1 : decode cX5_tooth 1 = .ok (.ifCond .lt 18, 3) := by decide +kernel
theorem dX5_tooth_4 : decode cX5_tooth 4 = .ok (.iload_n 1, 1) := by decide +kernel
theorem dX5_tooth_5 : decode cX5_tooth 5 = .ok (.bipush 12, 2) := by decide +kernel
theorem dX5_tooth_7 : decode cX5_tooth 7 = .ok (.if_icmp .ge 12, 3) := by decide +kernel
theorem dX5_tooth_10 : decode cX5_tooth 10 = .ok (.aload_n 0, 1) := by decide +kernel
theorem dX5_tooth_11 : decode cX5_tooth 11 = .ok (.getfield 18, 3) := by decide +kernel
theorem dX5_tooth_14 : decode cX5_tooth 14 = .ok (.iload_n 1, 1) := by decide +kernel
theorem dX5_tooth_15 : decode cX5_tooth 15 = .ok (.iaload, 1) := by decide +kernel
theorem dX5_tooth_16 : decode cX5_tooth 16 = .ok (.goto 4, 3) := by decide +kernel
theorem dX5_tooth_19 : decode cX5_tooth 19 = .ok (.iconst 0, 1) := by decide +kernel
theorem dX5_tooth_20 : decode cX5_tooth 20 = .ok (.ireturn, 1) := by decide +kernel
set_option maxRecDepth 20000 in
set_option maxHeartbeats 2000000 in
theorem V_X5_tooth_0 {X : Ctx} (C : C_X5_tooth X) {k n : Nat} {Q : Pq} {h : Hp} {v0 : Nat} {v1 : Int32}
    (hv : ((v1 < 0 → Q (some (.int 0)) h) ∧
    (¬ v1 < 0 → ((12 ≤ v1 → Q (some (.int 0)) h) ∧
    (¬ 12 ≤ v1 → St5 h v0 ∧ inb v1 12 ∧ Q (some (.int (gi h (v0 + 1) (ix v1)))) h))))) :
    Wj X k n Q 0 [(0, .ref v0), (1, .int v1)] [] h := by
  refine w_iload_n (pc := 0) C dX5_tooth_0 rfl ?_
  refine w_if_lt (pc := 1) C (tgt := 19) dX5_tooth_1 (by decide) ?_
  obtain ⟨hv1, hv2⟩ := hv
  refine ⟨fun c4 => ?_, fun c4 => ?_⟩
  · have hv := hv1 c4
    refine w_iconst (pc := 19) C (v := 0) dX5_tooth_19 (by decide) ?_
    exact w_iret (pc := 20) C dX5_tooth_20 hv
  · have hv := hv2 c4
    refine w_iload_n (pc := 4) C dX5_tooth_4 rfl ?_
    refine w_bipush (pc := 5) C (v := 12) dX5_tooth_5 (by decide) ?_
    refine w_icmp_ge (pc := 7) C (tgt := 19) dX5_tooth_7 (by decide) ?_
    obtain ⟨hv1, hv2⟩ := hv
    refine ⟨fun c3 => ?_, fun c3 => ?_⟩
    · have hv := hv1 c3
      refine w_iconst (pc := 19) C (v := 0) dX5_tooth_19 (by decide) ?_
      exact w_iret (pc := 20) C dX5_tooth_20 hv
    · have hv := hv2 c3
      refine w_aload_n (pc := 10) C dX5_tooth_10 rfl ?_
      obtain ⟨f1, hv⟩ := hv
      refine w_getR (pc := 11) C fl_X5_18 rfl dX5_tooth_11 (St5_k f1) (St5_r2 f1) ?_
      refine w_iload_n (pc := 14) C dX5_tooth_14 rfl ?_
      obtain ⟨f2, hv⟩ := hv
      refine w_iald (pc := 15) C dX5_tooth_15 (St5_k2 f1) (inbl (St5_l2 f1) f2) ?_
      refine w_goto (pc := 16) C (tgt := 20) dX5_tooth_16 (by decide) ?_
      exact w_iret (pc := 20) C dX5_tooth_20 hv
theorem dX5_pack_0 : decode cX5_pack 0 = .ok (.iload_n 0, 1) := by decide +kernel
theorem dX5_pack_1 : decode cX5_pack 1 = .ok (.iload_n 1, 1) := by decide +kernel
theorem dX5_pack_2 : decode cX5_pack 2 = .ok (.iconst 4, 1) := by decide +kernel
theorem dX5_pack_3 : decode cX5_pack 3 = .ok (.ishl, 1) := by decide +kernel
theorem dX5_pack_4 : decode cX5_pack 4 = .ok (.ior, 1) := by decide +kernel
theorem dX5_pack_5 : decode cX5_pack 5 = .ok (.iload_n 2, 1) := by decide +kernel
theorem dX5_pack_6 : decode cX5_pack 6 = .ok (.bipush 8, 2) := by decide +kernel
theorem dX5_pack_8 : decode cX5_pack 8 = .ok (.ishl, 1) := by decide +kernel
theorem dX5_pack_9 : decode cX5_pack 9 = .ok (.ior, 1) := by decide +kernel
theorem dX5_pack_10 : decode cX5_pack 10 = .ok (.iload_n 3, 1) := by decide +kernel
theorem dX5_pack_11 : decode cX5_pack 11 = .ok (.bipush 12, 2) := by decide +kernel
theorem dX5_pack_13 : decode cX5_pack 13 = .ok (.ishl, 1) := by decide +kernel
theorem dX5_pack_14 : decode cX5_pack 14 = .ok (.ior, 1) := by decide +kernel
theorem dX5_pack_15 : decode cX5_pack 15 = .ok (.ireturn, 1) := by decide +kernel
set_option maxRecDepth 20000 in
set_option maxHeartbeats 2000000 in
theorem V_X5_pack_0 {X : Ctx} (C : C_X5_pack X) {k n : Nat} {Q : Pq} {h : Hp} {v0 v1 v2 v3 : Int32}
    (hv : Q (some (.int (((v0 ||| (v1 <<< (4 &&& 31))) ||| (v2 <<< (8 &&& 31))) ||| (v3 <<< (12 &&& 31))))) h) :
    Wj X k n Q 0 [(0, .int v0), (1, .int v1), (2, .int v2), (3, .int v3)] [] h := by
  refine w_iload_n (pc := 0) C dX5_pack_0 rfl ?_
  refine w_iload_n (pc := 1) C dX5_pack_1 rfl ?_
  refine w_iconst (pc := 2) C (v := 4) dX5_pack_2 (by decide) ?_
  refine w_ishl (pc := 3) C dX5_pack_3 ?_
  refine w_ior (pc := 4) C dX5_pack_4 ?_
  refine w_iload_n (pc := 5) C dX5_pack_5 rfl ?_
  refine w_bipush (pc := 6) C (v := 8) dX5_pack_6 (by decide) ?_
  refine w_ishl (pc := 8) C dX5_pack_8 ?_
  refine w_ior (pc := 9) C dX5_pack_9 ?_
  refine w_iload_n (pc := 10) C dX5_pack_10 rfl ?_
  refine w_bipush (pc := 11) C (v := 12) dX5_pack_11 (by decide) ?_
  refine w_ishl (pc := 13) C dX5_pack_13 ?_
  refine w_ior (pc := 14) C dX5_pack_14 ?_
  exact w_iret (pc := 15) C dX5_pack_15 hv
theorem dX5_up_0 : decode cX5_up 0 = .ok (.iload_n 1, 1) := by decide +kernel
theorem dX5_up_1 : decode cX5_up 1 = .ok (.ifCond .lt 19, 3) := by decide +kernel
theorem dX5_up_4 : decode cX5_up 4 = .ok (.iload_n 1, 1) := by decide +kernel
theorem dX5_up_5 : decode cX5_up 5 = .ok (.sipush 3102, 3) := by decide +kernel
theorem dX5_up_8 : decode cX5_up 8 = .ok (.if_icmp .ge 12, 3) := by decide +kernel
theorem dX5_up_11 : decode cX5_up 11 = .ok (.aload_n 0, 1) := by decide +kernel
theorem dX5_up_12 : decode cX5_up 12 = .ok (.getfield 22, 3) := by decide +kernel
theorem dX5_up_15 : decode cX5_up 15 = .ok (.iload_n 1, 1) := by decide +kernel
theorem dX5_up_16 : decode cX5_up 16 = .ok (.iaload, 1) := by decide +kernel
theorem dX5_up_17 : decode cX5_up 17 = .ok (.goto 4, 3) := by decide +kernel
theorem dX5_up_20 : decode cX5_up 20 = .ok (.iconst 0, 1) := by decide +kernel
theorem dX5_up_21 : decode cX5_up 21 = .ok (.ireturn, 1) := by decide +kernel
set_option maxRecDepth 20000 in
set_option maxHeartbeats 2000000 in
theorem V_X5_up_0 {X : Ctx} (C : C_X5_up X) {k n : Nat} {Q : Pq} {h : Hp} {v0 : Nat} {v1 : Int32}
    (hv : ((v1 < 0 → Q (some (.int 0)) h) ∧
    (¬ v1 < 0 → ((3102 ≤ v1 → Q (some (.int 0)) h) ∧
    (¬ 3102 ≤ v1 → St5 h v0 ∧ inb v1 3102 ∧ Q (some (.int (gi h (v0 + 2) (ix v1)))) h))))) :
    Wj X k n Q 0 [(0, .ref v0), (1, .int v1)] [] h := by
  refine w_iload_n (pc := 0) C dX5_up_0 rfl ?_
  refine w_if_lt (pc := 1) C (tgt := 20) dX5_up_1 (by decide) ?_
  obtain ⟨hv1, hv2⟩ := hv
  refine ⟨fun c4 => ?_, fun c4 => ?_⟩
  · have hv := hv1 c4
    refine w_iconst (pc := 20) C (v := 0) dX5_up_20 (by decide) ?_
    exact w_iret (pc := 21) C dX5_up_21 hv
  · have hv := hv2 c4
    refine w_iload_n (pc := 4) C dX5_up_4 rfl ?_
    refine w_sipush (pc := 5) C (v := 3102) dX5_up_5 (by decide) ?_
    refine w_icmp_ge (pc := 8) C (tgt := 20) dX5_up_8 (by decide) ?_
    obtain ⟨hv1, hv2⟩ := hv
    refine ⟨fun c3 => ?_, fun c3 => ?_⟩
    · have hv := hv1 c3
      refine w_iconst (pc := 20) C (v := 0) dX5_up_20 (by decide) ?_
      exact w_iret (pc := 21) C dX5_up_21 hv
    · have hv := hv2 c3
      refine w_aload_n (pc := 11) C dX5_up_11 rfl ?_
      obtain ⟨f1, hv⟩ := hv
      refine w_getR (pc := 12) C fl_X5_22 rfl dX5_up_12 (St5_k f1) (St5_r3 f1) ?_
      refine w_iload_n (pc := 15) C dX5_up_15 rfl ?_
      obtain ⟨f2, hv⟩ := hv
      refine w_iald (pc := 16) C dX5_up_16 (St5_k3 f1) (inbl (St5_l3 f1) f2) ?_
      refine w_goto (pc := 17) C (tgt := 21) dX5_up_17 (by decide) ?_
      exact w_iret (pc := 21) C dX5_up_21 hv
theorem dX5_low_0 : decode cX5_low 0 = .ok (.iload_n 1, 1) := by decide +kernel
theorem dX5_low_1 : decode cX5_low 1 = .ok (.ifCond .lt 19, 3) := by decide +kernel
theorem dX5_low_4 : decode cX5_low 4 = .ok (.iload_n 1, 1) := by decide +kernel
theorem dX5_low_5 : decode cX5_low 5 = .ok (.sipush 3102, 3) := by decide +kernel
theorem dX5_low_8 : decode cX5_low 8 = .ok (.if_icmp .ge 12, 3) := by decide +kernel
theorem dX5_low_11 : decode cX5_low 11 = .ok (.aload_n 0, 1) := by decide +kernel
theorem dX5_low_12 : decode cX5_low 12 = .ok (.getfield 25, 3) := by decide +kernel
theorem dX5_low_15 : decode cX5_low 15 = .ok (.iload_n 1, 1) := by decide +kernel
theorem dX5_low_16 : decode cX5_low 16 = .ok (.iaload, 1) := by decide +kernel
theorem dX5_low_17 : decode cX5_low 17 = .ok (.goto 4, 3) := by decide +kernel
theorem dX5_low_20 : decode cX5_low 20 = .ok (.iconst 1, 1) := by decide +kernel
theorem dX5_low_21 : decode cX5_low 21 = .ok (.ireturn, 1) := by decide +kernel
set_option maxRecDepth 20000 in
set_option maxHeartbeats 2000000 in
theorem V_X5_low_0 {X : Ctx} (C : C_X5_low X) {k n : Nat} {Q : Pq} {h : Hp} {v0 : Nat} {v1 : Int32}
    (hv : ((v1 < 0 → Q (some (.int 1)) h) ∧
    (¬ v1 < 0 → ((3102 ≤ v1 → Q (some (.int 1)) h) ∧
    (¬ 3102 ≤ v1 → St5 h v0 ∧ inb v1 3102 ∧ Q (some (.int (gi h (v0 + 3) (ix v1)))) h))))) :
    Wj X k n Q 0 [(0, .ref v0), (1, .int v1)] [] h := by
  refine w_iload_n (pc := 0) C dX5_low_0 rfl ?_
  refine w_if_lt (pc := 1) C (tgt := 20) dX5_low_1 (by decide) ?_
  obtain ⟨hv1, hv2⟩ := hv
  refine ⟨fun c4 => ?_, fun c4 => ?_⟩
  · have hv := hv1 c4
    refine w_iconst (pc := 20) C (v := 1) dX5_low_20 (by decide) ?_
    exact w_iret (pc := 21) C dX5_low_21 hv
  · have hv := hv2 c4
    refine w_iload_n (pc := 4) C dX5_low_4 rfl ?_
    refine w_sipush (pc := 5) C (v := 3102) dX5_low_5 (by decide) ?_
    refine w_icmp_ge (pc := 8) C (tgt := 20) dX5_low_8 (by decide) ?_
    obtain ⟨hv1, hv2⟩ := hv
    refine ⟨fun c3 => ?_, fun c3 => ?_⟩
    · have hv := hv1 c3
      refine w_iconst (pc := 20) C (v := 1) dX5_low_20 (by decide) ?_
      exact w_iret (pc := 21) C dX5_low_21 hv
    · have hv := hv2 c3
      refine w_aload_n (pc := 11) C dX5_low_11 rfl ?_
      obtain ⟨f1, hv⟩ := hv
      refine w_getR (pc := 12) C fl_X5_25 rfl dX5_low_12 (St5_k f1) (St5_r4 f1) ?_
      refine w_iload_n (pc := 15) C dX5_low_15 rfl ?_
      obtain ⟨f2, hv⟩ := hv
      refine w_iald (pc := 16) C dX5_low_16 (St5_k4 f1) (inbl (St5_l4 f1) f2) ?_
      refine w_goto (pc := 17) C (tgt := 21) dX5_low_17 (by decide) ?_
      exact w_iret (pc := 21) C dX5_low_21 hv
theorem dX10_thrown_0 : decode cX10_thrown 0 = .ok (.aload_n 0, 1) := by decide +kernel
theorem dX10_thrown_1 : decode cX10_thrown 1 = .ok (.getfield 1, 3) := by decide +kernel
theorem dX10_thrown_4 : decode cX10_thrown 4 = .ok (.ireturn, 1) := by decide +kernel
set_option maxRecDepth 20000 in
set_option maxHeartbeats 2000000 in
theorem V_X10_thrown_0 {X : Ctx} (C : C_X10_thrown X) {k n : Nat} {Q : Pq} {h : Hp} {v0 : Nat}
    (hv : St10 h v0 ∧ Q (some (.int (gi h v0 0))) h) :
    Wj X k n Q 0 [(0, .ref v0)] [] h := by
  refine w_aload_n (pc := 0) C dX10_thrown_0 rfl ?_
  obtain ⟨f1, hv⟩ := hv
  refine w_getI (pc := 1) C fl_X10_1 rfl dX10_thrown_1 (St10_k f1) ?_
  exact w_iret (pc := 4) C dX10_thrown_4 hv
theorem dX10_enters_0 : decode cX10_enters 0 = .ok (.aload_n 0, 1) := by decide +kernel
theorem dX10_enters_1 : decode cX10_enters 1 = .ok (.getfield 7, 3) := by decide +kernel
theorem dX10_enters_4 : decode cX10_enters 4 = .ok (.aload_n 0, 1) := by decide +kernel
theorem dX10_enters_5 : decode cX10_enters 5 = .ok (.getfield 11, 3) := by decide +kernel
theorem dX10_enters_8 : decode cX10_enters 8 = .ok (.lload_n 1, 1) := by decide +kernel
theorem dX10_enters_9 : decode cX10_enters 9 = .ok (.lastore, 1) := by decide +kernel
theorem dX10_enters_10 : decode cX10_enters 10 = .ok (.aload_n 0, 1) := by decide +kernel
theorem dX10_enters_11 : decode cX10_enters 11 = .ok (.dup, 1) := by decide +kernel
theorem dX10_enters_12 : decode cX10_enters 12 = .ok (.getfield 11, 3) := by decide +kernel
theorem dX10_enters_15 : decode cX10_enters 15 = .ok (.iconst 1, 1) := by decide +kernel
theorem dX10_enters_16 : decode cX10_enters 16 = .ok (.iadd, 1) := by decide +kernel
theorem dX10_enters_17 : decode cX10_enters 17 = .ok (.putfield 11, 3) := by decide +kernel
theorem dX10_enters_20 : decode cX10_enters 20 = .ok (.return_, 1) := by decide +kernel
set_option maxRecDepth 20000 in
set_option maxHeartbeats 2000000 in
theorem V_X10_enters_0 {X : Ctx} (C : C_X10_enters X) {k n : Nat} {Q : Pq} {h : Hp} {v0 : Nat} {v1 : Int64}
    (hv : St10 h v0 ∧ inb (gi h v0 1) 64 ∧ Q none (si (sl h (v0 + 1) (ix (gi h v0 1)) v1) v0 1 ((gi h v0 1) + 1))) :
    Wj X k n Q 0 [(0, .ref v0), (1, .long v1)] [] h := by
  refine w_aload_n (pc := 0) C dX10_enters_0 rfl ?_
  obtain ⟨f1, hv⟩ := hv
  refine w_getR (pc := 1) C fl_X10_7 rfl dX10_enters_1 (St10_k f1) (St10_r2 f1) ?_
  refine w_aload_n (pc := 4) C dX10_enters_4 rfl ?_
  refine w_getI (pc := 5) C fl_X10_11 rfl dX10_enters_5 (St10_k f1) ?_
  refine w_lload_n (pc := 8) C dX10_enters_8 rfl ?_
  obtain ⟨f2, hv⟩ := hv
  refine w_last (pc := 9) C dX10_enters_9 (St10_k2 f1) (inbl (St10_l2 f1) f2) ?_
  refine w_aload_n (pc := 10) C dX10_enters_10 rfl ?_
  refine w_dup (pc := 11) C dX10_enters_11 rfl ?_
  refine w_getI (pc := 12) C fl_X10_11 rfl dX10_enters_12 (St10_k f1) ?_
  refine w_iconst (pc := 15) C (v := 1) dX10_enters_15 (by decide) ?_
  refine w_iadd (pc := 16) C dX10_enters_16 ?_
  refine w_putI (pc := 17) C fl_X10_11 rfl rfl dX10_enters_17 (St10_k f1) ?_
  exact w_vret (pc := 20) C dX10_enters_20 hv
theorem dX10_reads_0 : decode cX10_reads 0 = .ok (.aload_n 0, 1) := by decide +kernel
theorem dX10_reads_1 : decode cX10_reads 1 = .ok (.aload_n 0, 1) := by decide +kernel
theorem dX10_reads_2 : decode cX10_reads 2 = .ok (.getfield 22, 3) := by decide +kernel
theorem dX10_reads_5 : decode cX10_reads 5 = .ok (.putfield 33, 3) := by decide +kernel
theorem dX10_reads_8 : decode cX10_reads 8 = .ok (.aload_n 0, 1) := by decide +kernel
theorem dX10_reads_9 : decode cX10_reads 9 = .ok (.iconst 0, 1) := by decide +kernel
theorem dX10_reads_10 : decode cX10_reads 10 = .ok (.putfield 22, 3) := by decide +kernel
theorem dX10_reads_13 : decode cX10_reads 13 = .ok (.aload_n 0, 1) := by decide +kernel
theorem dX10_reads_14 : decode cX10_reads 14 = .ok (.iconst 0, 1) := by decide +kernel
theorem dX10_reads_15 : decode cX10_reads 15 = .ok (.putfield 36, 3) := by decide +kernel
theorem dX10_reads_18 : decode cX10_reads 18 = .ok (.return_, 1) := by decide +kernel
set_option maxRecDepth 20000 in
set_option maxHeartbeats 2000000 in
theorem V_X10_reads_0 {X : Ctx} (C : C_X10_reads X) {k n : Nat} {Q : Pq} {h : Hp} {v0 : Nat}
    (hv : St10 h v0 ∧ Q none (si (si (si h v0 6 (gi h v0 4)) v0 4 0) v0 5 0)) :
    Wj X k n Q 0 [(0, .ref v0)] [] h := by
  refine w_aload_n (pc := 0) C dX10_reads_0 rfl ?_
  refine w_aload_n (pc := 1) C dX10_reads_1 rfl ?_
  obtain ⟨f1, hv⟩ := hv
  refine w_getI (pc := 2) C fl_X10_22 rfl dX10_reads_2 (St10_k f1) ?_
  refine w_putI (pc := 5) C fl_X10_33 rfl rfl dX10_reads_5 (St10_k f1) ?_
  refine w_aload_n (pc := 8) C dX10_reads_8 rfl ?_
  refine w_iconst (pc := 9) C (v := 0) dX10_reads_9 (by decide) ?_
  refine w_putI (pc := 10) C fl_X10_22 rfl rfl dX10_reads_10 (St10_k f1) ?_
  refine w_aload_n (pc := 13) C dX10_reads_13 rfl ?_
  refine w_iconst (pc := 14) C (v := 0) dX10_reads_14 (by decide) ?_
  refine w_putI (pc := 15) C fl_X10_36 rfl rfl dX10_reads_15 (St10_k f1) ?_
  exact w_vret (pc := 18) C dX10_reads_18 hv
theorem dX10_worm_0 : decode cX10_worm 0 = .ok (.aload_n 0, 1) := by decide +kernel
theorem dX10_worm_1 : decode cX10_worm 1 = .ok (.getfield 68, 3) := by decide +kernel
theorem dX10_worm_4 : decode cX10_worm 4 = .ok (.iconst 0, 1) := by decide +kernel
theorem dX10_worm_5 : decode cX10_worm 5 = .ok (.iaload, 1) := by decide +kernel
theorem dX10_worm_6 : decode cX10_worm 6 = .ok (.ireturn, 1) := by decide +kernel
set_option maxRecDepth 20000 in
set_option maxHeartbeats 2000000 in
theorem V_X10_worm_0 {X : Ctx} (C : C_X10_worm X) {k n : Nat} {Q : Pq} {h : Hp} {v0 : Nat}
    (hv : St10 h v0 ∧ Q (some (.int (gi h (v0 + 3) (ix 0)))) h) :
    Wj X k n Q 0 [(0, .ref v0)] [] h := by
  refine w_aload_n (pc := 0) C dX10_worm_0 rfl ?_
  obtain ⟨f1, hv⟩ := hv
  refine w_getR (pc := 1) C fl_X10_68 rfl dX10_worm_1 (St10_k f1) (St10_r7 f1) ?_
  refine w_iconst (pc := 4) C (v := 0) dX10_worm_4 (by decide) ?_
  refine w_iald (pc := 5) C dX10_worm_5 (St10_k7 f1) (inbl (St10_l7 f1) (inbd (by decide))) ?_
  exact w_iret (pc := 6) C dX10_worm_6 hv
theorem dX10_circles_0 : decode cX10_circles 0 = .ok (.aload_n 0, 1) := by decide +kernel
theorem dX10_circles_1 : decode cX10_circles 1 = .ok (.getfield 68, 3) := by decide +kernel
theorem dX10_circles_4 : decode cX10_circles 4 = .ok (.iconst 3, 1) := by decide +kernel
theorem dX10_circles_5 : decode cX10_circles 5 = .ok (.iaload, 1) := by decide +kernel
theorem dX10_circles_6 : decode cX10_circles 6 = .ok (.ireturn, 1) := by decide +kernel
set_option maxRecDepth 20000 in
set_option maxHeartbeats 2000000 in
theorem V_X10_circles_0 {X : Ctx} (C : C_X10_circles X) {k n : Nat} {Q : Pq} {h : Hp} {v0 : Nat}
    (hv : St10 h v0 ∧ Q (some (.int (gi h (v0 + 3) (ix 3)))) h) :
    Wj X k n Q 0 [(0, .ref v0)] [] h := by
  refine w_aload_n (pc := 0) C dX10_circles_0 rfl ?_
  obtain ⟨f1, hv⟩ := hv
  refine w_getR (pc := 1) C fl_X10_68 rfl dX10_circles_1 (St10_k f1) (St10_r7 f1) ?_
  refine w_iconst (pc := 4) C (v := 3) dX10_circles_4 (by decide) ?_
  refine w_iald (pc := 5) C dX10_circles_5 (St10_k7 f1) (inbl (St10_l7 f1) (inbd (by decide))) ?_
  exact w_iret (pc := 6) C dX10_circles_6 hv
theorem dX10_holes_0 : decode cX10_holes 0 = .ok (.aload_n 0, 1) := by decide +kernel
theorem dX10_holes_1 : decode cX10_holes 1 = .ok (.getfield 68, 3) := by decide +kernel
theorem dX10_holes_4 : decode cX10_holes 4 = .ok (.bipush 23, 2) := by decide +kernel
theorem dX10_holes_6 : decode cX10_holes 6 = .ok (.iload_n 1, 1) := by decide +kernel
theorem dX10_holes_7 : decode cX10_holes 7 = .ok (.iadd, 1) := by decide +kernel
theorem dX10_holes_8 : decode cX10_holes 8 = .ok (.iaload, 1) := by decide +kernel
theorem dX10_holes_9 : decode cX10_holes 9 = .ok (.ireturn, 1) := by decide +kernel
set_option maxRecDepth 20000 in
set_option maxHeartbeats 2000000 in
theorem V_X10_holes_0 {X : Ctx} (C : C_X10_holes X) {k n : Nat} {Q : Pq} {h : Hp} {v0 : Nat} {v1 : Int32}
    (hv : St10 h v0 ∧ inb (23 + v1) 732 ∧ Q (some (.int (gi h (v0 + 3) (ix (23 + v1))))) h) :
    Wj X k n Q 0 [(0, .ref v0), (1, .int v1)] [] h := by
  refine w_aload_n (pc := 0) C dX10_holes_0 rfl ?_
  obtain ⟨f1, hv⟩ := hv
  refine w_getR (pc := 1) C fl_X10_68 rfl dX10_holes_1 (St10_k f1) (St10_r7 f1) ?_
  refine w_bipush (pc := 4) C (v := 23) dX10_holes_4 (by decide) ?_
  refine w_iload_n (pc := 6) C dX10_holes_6 rfl ?_
  refine w_iadd (pc := 7) C dX10_holes_7 ?_
  obtain ⟨f2, hv⟩ := hv
  refine w_iald (pc := 8) C dX10_holes_8 (St10_k7 f1) (inbl (St10_l7 f1) f2) ?_
  exact w_iret (pc := 9) C dX10_holes_9 hv
theorem dX10_gearMany_0 : decode cX10_gearMany 0 = .ok (.aload_n 0, 1) := by decide +kernel
theorem dX10_gearMany_1 : decode cX10_gearMany 1 = .ok (.getfield 68, 3) := by decide +kernel
theorem dX10_gearMany_4 : decode cX10_gearMany 4 = .ok (.iconst 4, 1) := by decide +kernel
theorem dX10_gearMany_5 : decode cX10_gearMany 5 = .ok (.iaload, 1) := by decide +kernel
theorem dX10_gearMany_6 : decode cX10_gearMany 6 = .ok (.ireturn, 1) := by decide +kernel
set_option maxRecDepth 20000 in
set_option maxHeartbeats 2000000 in
theorem V_X10_gearMany_0 {X : Ctx} (C : C_X10_gearMany X) {k n : Nat} {Q : Pq} {h : Hp} {v0 : Nat}
    (hv : St10 h v0 ∧ Q (some (.int (gi h (v0 + 3) (ix 4)))) h) :
    Wj X k n Q 0 [(0, .ref v0)] [] h := by
  refine w_aload_n (pc := 0) C dX10_gearMany_0 rfl ?_
  obtain ⟨f1, hv⟩ := hv
  refine w_getR (pc := 1) C fl_X10_68 rfl dX10_gearMany_1 (St10_k f1) (St10_r7 f1) ?_
  refine w_iconst (pc := 4) C (v := 4) dX10_gearMany_4 (by decide) ?_
  refine w_iald (pc := 5) C dX10_gearMany_5 (St10_k7 f1) (inbl (St10_l7 f1) (inbd (by decide))) ?_
  exact w_iret (pc := 6) C dX10_gearMany_6 hv
theorem dX10_teeth_0 : decode cX10_teeth 0 = .ok (.aload_n 0, 1) := by decide +kernel
theorem dX10_teeth_1 : decode cX10_teeth 1 = .ok (.getfield 68, 3) := by decide +kernel
theorem dX10_teeth_4 : decode cX10_teeth 4 = .ok (.bipush 41, 2) := by decide +kernel
theorem dX10_teeth_6 : decode cX10_teeth 6 = .ok (.iload_n 1, 1) := by decide +kernel
theorem dX10_teeth_7 : decode cX10_teeth 7 = .ok (.iadd, 1) := by decide +kernel
theorem dX10_teeth_8 : decode cX10_teeth 8 = .ok (.iaload, 1) := by decide +kernel
theorem dX10_teeth_9 : decode cX10_teeth 9 = .ok (.ireturn, 1) := by decide +kernel
set_option maxRecDepth 20000 in
set_option maxHeartbeats 2000000 in
theorem V_X10_teeth_0 {X : Ctx} (C : C_X10_teeth X) {k n : Nat} {Q : Pq} {h : Hp} {v0 : Nat} {v1 : Int32}
    (hv : St10 h v0 ∧ inb (41 + v1) 732 ∧ Q (some (.int (gi h (v0 + 3) (ix (41 + v1))))) h) :
    Wj X k n Q 0 [(0, .ref v0), (1, .int v1)] [] h := by
  refine w_aload_n (pc := 0) C dX10_teeth_0 rfl ?_
  obtain ⟨f1, hv⟩ := hv
  refine w_getR (pc := 1) C fl_X10_68 rfl dX10_teeth_1 (St10_k f1) (St10_r7 f1) ?_
  refine w_bipush (pc := 4) C (v := 41) dX10_teeth_4 (by decide) ?_
  refine w_iload_n (pc := 6) C dX10_teeth_6 rfl ?_
  refine w_iadd (pc := 7) C dX10_teeth_7 ?_
  obtain ⟨f2, hv⟩ := hv
  refine w_iald (pc := 8) C dX10_teeth_8 (St10_k7 f1) (inbl (St10_l7 f1) f2) ?_
  exact w_iret (pc := 9) C dX10_teeth_9 hv
theorem dX10_isNumber_0 : decode cX10_isNumber 0 = .ok (.iload_n 0, 1) := by decide +kernel
theorem dX10_isNumber_1 : decode cX10_isNumber 1 = .ok (.i2l, 1) := by decide +kernel
theorem dX10_isNumber_2 : decode cX10_isNumber 2 = .ok (.ldc2_w 175, 3) := by decide +kernel
theorem dX10_isNumber_5 : decode cX10_isNumber 5 = .ok (.ldc2_w 177, 3) := by decide +kernel
theorem dX10_isNumber_8 : decode cX10_isNumber 8 = .ok (.invokestatic 29, 3) := by decide +kernel
theorem dX10_isNumber_11 : decode cX10_isNumber 11 = .ok (.ireturn, 1) := by decide +kernel
set_option maxRecDepth 20000 in
set_option maxHeartbeats 2000000 in
theorem V_X10_isNumber_0 {X : Ctx} (C : C_X10_isNumber X) {k n : Nat} {Q : Pq} {h : Hp} {v0 : Int32}
    (hv : ((btL (Int32.toInt64 v0) 2 400) = 0 ∨ (btL (Int32.toInt64 v0) 2 400) = 1) ∧ Q (some (.int (btL (Int32.toInt64 v0) 2 400))) h) :
    Wj X k n Q 0 [(0, .int v0)] [] h := by
  refine w_iload_n (pc := 0) C dX10_isNumber_0 rfl ?_
  refine w_i2l (pc := 1) C dX10_isNumber_1 ?_
  refine w_ldc2 (pc := 2) C ctl_X10_175 dX10_isNumber_2 ?_
  refine w_ldc2 (pc := 5) C ctl_X10_177 dX10_isNumber_5 ?_
  refine w_cS0_3 (pc := 8) C cl_X10_29 ls_X10_in (by decide) dX10_isNumber_8 (Nat.le_of_ble_eq_true rfl) ((sf_X10_in (h := h) ).mono (fun v h9 hp => ?_))
  obtain ⟨e1, e2⟩ := hp
  rw [e1, e2]
  obtain ⟨f1, hv⟩ := hv
  exact w_zret (pc := 11) C dX10_isNumber_11 f1 hv
theorem dX10_isRatio_0 : decode cX10_isRatio 0 = .ok (.iload_n 0, 1) := by decide +kernel
theorem dX10_isRatio_1 : decode cX10_isRatio 1 = .ok (.i2l, 1) := by decide +kernel
theorem dX10_isRatio_2 : decode cX10_isRatio 2 = .ok (.lconst 1, 1) := by decide +kernel
theorem dX10_isRatio_3 : decode cX10_isRatio 3 = .ok (.ldc2_w 177, 3) := by decide +kernel
theorem dX10_isRatio_6 : decode cX10_isRatio 6 = .ok (.invokestatic 29, 3) := by decide +kernel
theorem dX10_isRatio_9 : decode cX10_isRatio 9 = .ok (.ifCond .eq 19, 3) := by decide +kernel
theorem dX10_isRatio_12 : decode cX10_isRatio 12 = .ok (.iload_n 1, 1) := by decide +kernel
theorem dX10_isRatio_13 : decode cX10_isRatio 13 = .ok (.i2l, 1) := by decide +kernel
theorem dX10_isRatio_14 : decode cX10_isRatio 14 = .ok (.lconst 1, 1) := by decide +kernel
theorem dX10_isRatio_15 : decode cX10_isRatio 15 = .ok (.ldc2_w 177, 3) := by decide +kernel
theorem dX10_isRatio_18 : decode cX10_isRatio 18 = .ok (.invokestatic 29, 3) := by decide +kernel
theorem dX10_isRatio_21 : decode cX10_isRatio 21 = .ok (.ifCond .eq 7, 3) := by decide +kernel
theorem dX10_isRatio_24 : decode cX10_isRatio 24 = .ok (.iconst 1, 1) := by decide +kernel
theorem dX10_isRatio_25 : decode cX10_isRatio 25 = .ok (.goto 4, 3) := by decide +kernel
theorem dX10_isRatio_28 : decode cX10_isRatio 28 = .ok (.iconst 0, 1) := by decide +kernel
theorem dX10_isRatio_29 : decode cX10_isRatio 29 = .ok (.ireturn, 1) := by decide +kernel
set_option maxRecDepth 20000 in
set_option maxHeartbeats 2000000 in
theorem V_X10_isRatio_0 {X : Ctx} (C : C_X10_isRatio X) {k n : Nat} {Q : Pq} {h : Hp} {v0 v1 : Int32}
    (hv : (((btL (Int32.toInt64 v0) 1 400) = 0 → Q (some (.int 0)) h) ∧
    (¬ (btL (Int32.toInt64 v0) 1 400) = 0 → (((btL (Int32.toInt64 v1) 1 400) = 0 → Q (some (.int 0)) h) ∧
    (¬ (btL (Int32.toInt64 v1) 1 400) = 0 → Q (some (.int 1)) h))))) :
    Wj X k n Q 0 [(0, .int v0), (1, .int v1)] [] h := by
  refine w_iload_n (pc := 0) C dX10_isRatio_0 rfl ?_
  refine w_i2l (pc := 1) C dX10_isRatio_1 ?_
  refine w_lconst (pc := 2) C (v := 1) dX10_isRatio_2 (by decide) ?_
  refine w_ldc2 (pc := 3) C ctl_X10_177 dX10_isRatio_3 ?_
  refine w_cS0_3 (pc := 6) C cl_X10_29 ls_X10_in (by decide) dX10_isRatio_6 (Nat.le_of_ble_eq_true rfl) ((sf_X10_in (h := h) ).mono (fun v h9 hp => ?_))
  obtain ⟨e1, e2⟩ := hp
  rw [e1, e2]
  refine w_if_eq (pc := 9) C (tgt := 28) dX10_isRatio_9 (by decide) ?_
  obtain ⟨hv1, hv2⟩ := hv
  refine ⟨fun c2 => ?_, fun c2 => ?_⟩
  · have hv := hv1 c2
    refine w_iconst (pc := 28) C (v := 0) dX10_isRatio_28 (by decide) ?_
    exact w_zret (pc := 29) C dX10_isRatio_29 (by decide) hv
  · have hv := hv2 c2
    refine w_iload_n (pc := 12) C dX10_isRatio_12 rfl ?_
    refine w_i2l (pc := 13) C dX10_isRatio_13 ?_
    refine w_lconst (pc := 14) C (v := 1) dX10_isRatio_14 (by decide) ?_
    refine w_ldc2 (pc := 15) C ctl_X10_177 dX10_isRatio_15 ?_
    refine w_cS0_3 (pc := 18) C cl_X10_29 ls_X10_in (by decide) dX10_isRatio_18 (Nat.le_of_ble_eq_true rfl) ((sf_X10_in (h := h) ).mono (fun v h9 hp => ?_))
    obtain ⟨e1, e2⟩ := hp
    rw [e1, e2]
    refine w_if_eq (pc := 21) C (tgt := 28) dX10_isRatio_21 (by decide) ?_
    obtain ⟨hv1, hv2⟩ := hv
    refine ⟨fun c1 => ?_, fun c1 => ?_⟩
    · have hv := hv1 c1
      refine w_iconst (pc := 28) C (v := 0) dX10_isRatio_28 (by decide) ?_
      exact w_zret (pc := 29) C dX10_isRatio_29 (by decide) hv
    · have hv := hv2 c1
      refine w_iconst (pc := 24) C (v := 1) dX10_isRatio_24 (by decide) ?_
      refine w_goto (pc := 25) C (tgt := 29) dX10_isRatio_25 (by decide) ?_
      exact w_zret (pc := 29) C dX10_isRatio_29 (by decide) hv
theorem dX10_circlesOf_0 : decode cX10_circlesOf 0 = .ok (.aload_n 0, 1) := by decide +kernel
theorem dX10_circlesOf_1 : decode cX10_circlesOf 1 = .ok (.getfield 68, 3) := by decide +kernel
theorem dX10_circlesOf_4 : decode cX10_circlesOf 4 = .ok (.iload_n 1, 1) := by decide +kernel
theorem dX10_circlesOf_5 : decode cX10_circlesOf 5 = .ok (.bipush 61, 2) := by decide +kernel
theorem dX10_circlesOf_7 : decode cX10_circlesOf 7 = .ok (.imul, 1) := by decide +kernel
theorem dX10_circlesOf_8 : decode cX10_circlesOf 8 = .ok (.iconst 3, 1) := by decide +kernel
theorem dX10_circlesOf_9 : decode cX10_circlesOf 9 = .ok (.iadd, 1) := by decide +kernel
theorem dX10_circlesOf_10 : decode cX10_circlesOf 10 = .ok (.iaload, 1) := by decide +kernel
theorem dX10_circlesOf_11 : decode cX10_circlesOf 11 = .ok (.ireturn, 1) := by decide +kernel
set_option maxRecDepth 20000 in
set_option maxHeartbeats 2000000 in
theorem V_X10_circlesOf_0 {X : Ctx} (C : C_X10_circlesOf X) {k n : Nat} {Q : Pq} {h : Hp} {v0 : Nat} {v1 : Int32}
    (hv : St10 h v0 ∧ inb ((v1 * 61) + 3) 732 ∧ Q (some (.int (gi h (v0 + 3) (ix ((v1 * 61) + 3))))) h) :
    Wj X k n Q 0 [(0, .ref v0), (1, .int v1)] [] h := by
  refine w_aload_n (pc := 0) C dX10_circlesOf_0 rfl ?_
  obtain ⟨f1, hv⟩ := hv
  refine w_getR (pc := 1) C fl_X10_68 rfl dX10_circlesOf_1 (St10_k f1) (St10_r7 f1) ?_
  refine w_iload_n (pc := 4) C dX10_circlesOf_4 rfl ?_
  refine w_bipush (pc := 5) C (v := 61) dX10_circlesOf_5 (by decide) ?_
  refine w_imul (pc := 7) C dX10_circlesOf_7 ?_
  refine w_iconst (pc := 8) C (v := 3) dX10_circlesOf_8 (by decide) ?_
  refine w_iadd (pc := 9) C dX10_circlesOf_9 ?_
  obtain ⟨f2, hv⟩ := hv
  refine w_iald (pc := 10) C dX10_circlesOf_10 (St10_k7 f1) (inbl (St10_l7 f1) f2) ?_
  exact w_iret (pc := 11) C dX10_circlesOf_11 hv
theorem dX10_marks_0 : decode cX10_marks 0 = .ok (.aload_n 0, 1) := by decide +kernel
theorem dX10_marks_1 : decode cX10_marks 1 = .ok (.getfield 68, 3) := by decide +kernel
theorem dX10_marks_4 : decode cX10_marks 4 = .ok (.bipush 60, 2) := by decide +kernel
theorem dX10_marks_6 : decode cX10_marks 6 = .ok (.iaload, 1) := by decide +kernel
theorem dX10_marks_7 : decode cX10_marks 7 = .ok (.ireturn, 1) := by decide +kernel
set_option maxRecDepth 20000 in
set_option maxHeartbeats 2000000 in
theorem V_X10_marks_0 {X : Ctx} (C : C_X10_marks X) {k n : Nat} {Q : Pq} {h : Hp} {v0 : Nat}
    (hv : St10 h v0 ∧ Q (some (.int (gi h (v0 + 3) (ix 60)))) h) :
    Wj X k n Q 0 [(0, .ref v0)] [] h := by
  refine w_aload_n (pc := 0) C dX10_marks_0 rfl ?_
  obtain ⟨f1, hv⟩ := hv
  refine w_getR (pc := 1) C fl_X10_68 rfl dX10_marks_1 (St10_k f1) (St10_r7 f1) ?_
  refine w_bipush (pc := 4) C (v := 60) dX10_marks_4 (by decide) ?_
  refine w_iald (pc := 6) C dX10_marks_6 (St10_k7 f1) (inbl (St10_l7 f1) (inbd (by decide))) ?_
  exact w_iret (pc := 7) C dX10_marks_7 hv
theorem dX10_markUp_0 : decode cX10_markUp 0 = .ok (.aload_n 0, 1) := by decide +kernel
theorem dX10_markUp_1 : decode cX10_markUp 1 = .ok (.getfield 71, 3) := by decide +kernel
theorem dX10_markUp_4 : decode cX10_markUp 4 = .ok (.iconst 2, 1) := by decide +kernel
theorem dX10_markUp_5 : decode cX10_markUp 5 = .ok (.iconst 2, 1) := by decide +kernel
theorem dX10_markUp_6 : decode cX10_markUp 6 = .ok (.iload_n 1, 1) := by decide +kernel
theorem dX10_markUp_7 : decode cX10_markUp 7 = .ok (.imul, 1) := by decide +kernel
theorem dX10_markUp_8 : decode cX10_markUp 8 = .ok (.iadd, 1) := by decide +kernel
theorem dX10_markUp_9 : decode cX10_markUp 9 = .ok (.laload, 1) := by decide +kernel
theorem dX10_markUp_10 : decode cX10_markUp 10 = .ok (.lreturn, 1) := by decide +kernel
set_option maxRecDepth 20000 in
set_option maxHeartbeats 2000000 in
theorem V_X10_markUp_0 {X : Ctx} (C : C_X10_markUp X) {k n : Nat} {Q : Pq} {h : Hp} {v0 : Nat} {v1 : Int32}
    (hv : St10 h v0 ∧ inb (2 + (2 * v1)) 1464 ∧ Q (some (.long (gl h (v0 + 4) (ix (2 + (2 * v1)))))) h) :
    Wj X k n Q 0 [(0, .ref v0), (1, .int v1)] [] h := by
  refine w_aload_n (pc := 0) C dX10_markUp_0 rfl ?_
  obtain ⟨f1, hv⟩ := hv
  refine w_getR (pc := 1) C fl_X10_71 rfl dX10_markUp_1 (St10_k f1) (St10_r8 f1) ?_
  refine w_iconst (pc := 4) C (v := 2) dX10_markUp_4 (by decide) ?_
  refine w_iconst (pc := 5) C (v := 2) dX10_markUp_5 (by decide) ?_
  refine w_iload_n (pc := 6) C dX10_markUp_6 rfl ?_
  refine w_imul (pc := 7) C dX10_markUp_7 ?_
  refine w_iadd (pc := 8) C dX10_markUp_8 ?_
  obtain ⟨f2, hv⟩ := hv
  refine w_lald (pc := 9) C dX10_markUp_9 (St10_k8 f1) (inbl (St10_l8 f1) f2) ?_
  exact w_lret (pc := 10) C dX10_markUp_10 hv
theorem dX10_markLow_0 : decode cX10_markLow 0 = .ok (.aload_n 0, 1) := by decide +kernel
theorem dX10_markLow_1 : decode cX10_markLow 1 = .ok (.getfield 71, 3) := by decide +kernel
theorem dX10_markLow_4 : decode cX10_markLow 4 = .ok (.iconst 2, 1) := by decide +kernel
theorem dX10_markLow_5 : decode cX10_markLow 5 = .ok (.iconst 2, 1) := by decide +kernel
theorem dX10_markLow_6 : decode cX10_markLow 6 = .ok (.iload_n 1, 1) := by decide +kernel
theorem dX10_markLow_7 : decode cX10_markLow 7 = .ok (.imul, 1) := by decide +kernel
theorem dX10_markLow_8 : decode cX10_markLow 8 = .ok (.iadd, 1) := by decide +kernel
theorem dX10_markLow_9 : decode cX10_markLow 9 = .ok (.iconst 1, 1) := by decide +kernel
theorem dX10_markLow_10 : decode cX10_markLow 10 = .ok (.iadd, 1) := by decide +kernel
theorem dX10_markLow_11 : decode cX10_markLow 11 = .ok (.laload, 1) := by decide +kernel
theorem dX10_markLow_12 : decode cX10_markLow 12 = .ok (.lreturn, 1) := by decide +kernel
set_option maxRecDepth 20000 in
set_option maxHeartbeats 2000000 in
theorem V_X10_markLow_0 {X : Ctx} (C : C_X10_markLow X) {k n : Nat} {Q : Pq} {h : Hp} {v0 : Nat} {v1 : Int32}
    (hv : St10 h v0 ∧ inb ((2 + (2 * v1)) + 1) 1464 ∧ Q (some (.long (gl h (v0 + 4) (ix ((2 + (2 * v1)) + 1))))) h) :
    Wj X k n Q 0 [(0, .ref v0), (1, .int v1)] [] h := by
  refine w_aload_n (pc := 0) C dX10_markLow_0 rfl ?_
  obtain ⟨f1, hv⟩ := hv
  refine w_getR (pc := 1) C fl_X10_71 rfl dX10_markLow_1 (St10_k f1) (St10_r8 f1) ?_
  refine w_iconst (pc := 4) C (v := 2) dX10_markLow_4 (by decide) ?_
  refine w_iconst (pc := 5) C (v := 2) dX10_markLow_5 (by decide) ?_
  refine w_iload_n (pc := 6) C dX10_markLow_6 rfl ?_
  refine w_imul (pc := 7) C dX10_markLow_7 ?_
  refine w_iadd (pc := 8) C dX10_markLow_8 ?_
  refine w_iconst (pc := 9) C (v := 1) dX10_markLow_9 (by decide) ?_
  refine w_iadd (pc := 10) C dX10_markLow_10 ?_
  obtain ⟨f2, hv⟩ := hv
  refine w_lald (pc := 11) C dX10_markLow_11 (St10_k8 f1) (inbl (St10_l8 f1) f2) ?_
  exact w_lret (pc := 12) C dX10_markLow_12 hv
