-- differential, ways, hard, divides (by program: gen_parts.py)
theorem dX1_init_0 : decode cX1_init 0 = .ok (.aload_n 0, 1) := by decide +kernel
theorem dX1_init_1 : decode cX1_init 1 = .ok (.invokespecial 3, 3) := by decide +kernel
theorem dX1_init_4 : decode cX1_init 4 = .ok (.aload_n 0, 1) := by decide +kernel
theorem dX1_init_5 : decode cX1_init 5 = .ok (.new 9, 3) := by decide +kernel
theorem dX1_init_8 : decode cX1_init 8 = .ok (.dup, 1) := by decide +kernel
theorem dX1_init_9 : decode cX1_init 9 = .ok (.invokespecial 11, 3) := by decide +kernel
theorem dX1_init_12 : decode cX1_init 12 = .ok (.putfield 12, 3) := by decide +kernel
theorem dX1_init_15 : decode cX1_init 15 = .ok (.aload_n 0, 1) := by decide +kernel
theorem dX1_init_16 : decode cX1_init 16 = .ok (.iconst 0, 1) := by decide +kernel
theorem dX1_init_17 : decode cX1_init 17 = .ok (.putfield 18, 3) := by decide +kernel
theorem dX1_init_20 : decode cX1_init 20 = .ok (.aload_n 0, 1) := by decide +kernel
theorem dX1_init_21 : decode cX1_init 21 = .ok (.iconst (-1), 1) := by decide +kernel
theorem dX1_init_22 : decode cX1_init 22 = .ok (.putfield 22, 3) := by decide +kernel
theorem dX1_init_25 : decode cX1_init 25 = .ok (.aload_n 0, 1) := by decide +kernel
theorem dX1_init_26 : decode cX1_init 26 = .ok (.iconst 1, 1) := by decide +kernel
theorem dX1_init_27 : decode cX1_init 27 = .ok (.putfield 25, 3) := by decide +kernel
theorem dX1_init_30 : decode cX1_init 30 = .ok (.return_, 1) := by decide +kernel
set_option maxRecDepth 20000 in
set_option maxHeartbeats 2000000 in
theorem V_X1_init_0 {X : Ctx} (C : C_X1_init X) {k n : Nat} {Q : Pq} {h : Hp} {v0 : Nat}
    (hv : k + 1 ≤ mcX X ∧ n + 4 ≤ msX X ∧ S_X6_init (lX X) (dtX X) 0 0 [.ref (hn h)] (nw h 7 0) (QV fun h3 =>
    kd h3 v0 = 2 ∧ Q none (si (si (si (sr h3 v0 0 (some (hn h))) v0 1 0) v0 2 (-1)) v0 3 1))) :
    Wj X k n Q 0 [(0, .ref v0)] [] h := by
  refine w_aload_n (pc := 0) C dX1_init_0 rfl ?_
  refine w_objInit (pc := 1) C oi_X1_3 ow_1 ow_2 dX1_init_1 (by decide) (Nat.le_of_ble_eq_true rfl) ?_
  refine w_aload_n (pc := 4) C dX1_init_4 rfl ?_
  obtain ⟨f1, hv⟩ := hv
  obtain ⟨f2, hv⟩ := hv
  refine w_new (pc := 5) C nl_X1_9 (N := 4) rfl dX1_init_5 f1 f2 ?_
  refine w_dup (pc := 8) C dX1_init_8 rfl ?_
  refine w_cIN0_0 (pc := 9) C cl_X1_11 li_X6_init (by decide) dX1_init_9 (Nat.le_of_ble_eq_true rfl) (hv.mono (fun v h3 hp => ?_))
  obtain ⟨rfl, hv⟩ := hp
  obtain ⟨f4, hv⟩ := hv
  refine w_putRF (pc := 12) C fl_X1_12 rfl rfl rfl dX1_init_12 f4 ?_
  refine w_aload_n (pc := 15) C dX1_init_15 rfl ?_
  refine w_iconst (pc := 16) C (v := 0) dX1_init_16 (by decide) ?_
  refine w_putI (pc := 17) C fl_X1_18 rfl rfl dX1_init_17 f4 ?_
  refine w_aload_n (pc := 20) C dX1_init_20 rfl ?_
  refine w_iconst (pc := 21) C (v := (-1)) dX1_init_21 (by decide) ?_
  refine w_putI (pc := 22) C fl_X1_22 rfl rfl dX1_init_22 f4 ?_
  refine w_aload_n (pc := 25) C dX1_init_25 rfl ?_
  refine w_iconst (pc := 26) C (v := 1) dX1_init_26 (by decide) ?_
  refine w_putI (pc := 27) C fl_X1_25 rfl rfl dX1_init_27 f4 ?_
  exact w_vret (pc := 30) C dX1_init_30 hv
theorem dX1_tryNumber_0 : decode cX1_tryNumber 0 = .ok (.iload_n 3, 1) := by decide +kernel
theorem dX1_tryNumber_1 : decode cX1_tryNumber 1 = .ok (.iconst 2, 1) := by decide +kernel
theorem dX1_tryNumber_2 : decode cX1_tryNumber 2 = .ok (.if_icmp .ge 4, 3) := by decide +kernel
theorem dX1_tryNumber_5 : decode cX1_tryNumber 5 = .ok (.return_, 1) := by decide +kernel
theorem dX1_tryNumber_6 : decode cX1_tryNumber 6 = .ok (.aload_n 0, 1) := by decide +kernel
theorem dX1_tryNumber_7 : decode cX1_tryNumber 7 = .ok (.getfield 12, 3) := by decide +kernel
theorem dX1_tryNumber_10 : decode cX1_tryNumber 10 = .ok (.aload_n 1, 1) := by decide +kernel
theorem dX1_tryNumber_11 : decode cX1_tryNumber 11 = .ok (.iload_n 3, 1) := by decide +kernel
theorem dX1_tryNumber_12 : decode cX1_tryNumber 12 = .ok (.invokevirtual 32, 3) := by decide +kernel
theorem dX1_tryNumber_15 : decode cX1_tryNumber 15 = .ok (.aload_n 0, 1) := by decide +kernel
theorem dX1_tryNumber_16 : decode cX1_tryNumber 16 = .ok (.getfield 12, 3) := by decide +kernel
theorem dX1_tryNumber_19 : decode cX1_tryNumber 19 = .ok (.getfield 36, 3) := by decide +kernel
theorem dX1_tryNumber_22 : decode cX1_tryNumber 22 = .ok (.ifCond .ne 4, 3) := by decide +kernel
theorem dX1_tryNumber_25 : decode cX1_tryNumber 25 = .ok (.return_, 1) := by decide +kernel
theorem dX1_tryNumber_26 : decode cX1_tryNumber 26 = .ok (.aload_n 0, 1) := by decide +kernel
theorem dX1_tryNumber_27 : decode cX1_tryNumber 27 = .ok (.aload_n 2, 1) := by decide +kernel
theorem dX1_tryNumber_28 : decode cX1_tryNumber 28 = .ok (.aload_n 1, 1) := by decide +kernel
theorem dX1_tryNumber_29 : decode cX1_tryNumber 29 = .ok (.getfield 39, 3) := by decide +kernel
theorem dX1_tryNumber_32 : decode cX1_tryNumber 32 = .ok (.i2l, 1) := by decide +kernel
theorem dX1_tryNumber_33 : decode cX1_tryNumber 33 = .ok (.iload 4, 2) := by decide +kernel
theorem dX1_tryNumber_35 : decode cX1_tryNumber 35 = .ok (.i2l, 1) := by decide +kernel
theorem dX1_tryNumber_36 : decode cX1_tryNumber 36 = .ok (.lmul, 1) := by decide +kernel
theorem dX1_tryNumber_37 : decode cX1_tryNumber 37 = .ok (.iload_n 3, 1) := by decide +kernel
theorem dX1_tryNumber_38 : decode cX1_tryNumber 38 = .ok (.i2l, 1) := by decide +kernel
theorem dX1_tryNumber_39 : decode cX1_tryNumber 39 = .ok (.invokevirtual 44, 3) := by decide +kernel
theorem dX1_tryNumber_42 : decode cX1_tryNumber 42 = .ok (.putfield 22, 3) := by decide +kernel
theorem dX1_tryNumber_45 : decode cX1_tryNumber 45 = .ok (.aload_n 0, 1) := by decide +kernel
theorem dX1_tryNumber_46 : decode cX1_tryNumber 46 = .ok (.getfield 22, 3) := by decide +kernel
theorem dX1_tryNumber_49 : decode cX1_tryNumber 49 = .ok (.ifCond .lt 14, 3) := by decide +kernel
theorem dX1_tryNumber_52 : decode cX1_tryNumber 52 = .ok (.aload_n 0, 1) := by decide +kernel
theorem dX1_tryNumber_53 : decode cX1_tryNumber 53 = .ok (.iload_n 3, 1) := by decide +kernel
theorem dX1_tryNumber_54 : decode cX1_tryNumber 54 = .ok (.putfield 18, 3) := by decide +kernel
theorem dX1_tryNumber_57 : decode cX1_tryNumber 57 = .ok (.aload_n 0, 1) := by decide +kernel
theorem dX1_tryNumber_58 : decode cX1_tryNumber 58 = .ok (.iload 5, 2) := by decide +kernel
theorem dX1_tryNumber_60 : decode cX1_tryNumber 60 = .ok (.putfield 25, 3) := by decide +kernel
theorem dX1_tryNumber_63 : decode cX1_tryNumber 63 = .ok (.return_, 1) := by decide +kernel
set_option maxRecDepth 20000 in
set_option maxHeartbeats 2000000 in
theorem V_X1_tryNumber_0 {X : Ctx} (C : C_X1_tryNumber X) {k n : Nat} {Q : Pq} {h : Hp} {v0 v1 v2 : Nat} {v3 v4 v5 : Int32}
    (hv : ((2 ≤ v3 → St1 h v0 ∧ S_X6_look (lX X) (dtX X) 0 0 [.ref (v0 + 1), .ref v1, .int v3] h (QV fun h2 =>
    St1 h2 v0 ∧ ((¬ (gi h2 (v0 + 1) 0) = 0 → St4 h2 v1 ∧ St5 h2 v2 ∧ S_X5_find (lX X) (dtX X) 0 0 [.ref v2, .long ((Int32.toInt64 (gi h2 v1 0)) * (Int32.toInt64 v4)), .long (Int32.toInt64 v3)] h2 (QI fun x7 h6 =>
    St1 h6 v0 ∧ (((gi (si h6 v0 2 x7) v0 2) < 0 → Q none (si h6 v0 2 x7)) ∧
    (¬ (gi (si h6 v0 2 x7) v0 2) < 0 → Q none (si (si (si h6 v0 2 x7) v0 1 v3) v0 3 v5))))) ∧
    ((gi h2 (v0 + 1) 0) = 0 → Q none h2)))) ∧
    (¬ 2 ≤ v3 → Q none h))) :
    Wj X k n Q 0 [(0, .ref v0), (1, .ref v1), (2, .ref v2), (3, .int v3), (4, .int v4), (5, .int v5)] [] h := by
  refine w_iload_n (pc := 0) C dX1_tryNumber_0 rfl ?_
  refine w_iconst (pc := 1) C (v := 2) dX1_tryNumber_1 (by decide) ?_
  refine w_icmp_ge (pc := 2) C (tgt := 6) dX1_tryNumber_2 (by decide) ?_
  obtain ⟨hv1, hv2⟩ := hv
  refine ⟨fun c11 => ?_, fun c11 => ?_⟩
  · have hv := hv1 c11
    refine w_aload_n (pc := 6) C dX1_tryNumber_6 rfl ?_
    obtain ⟨f1, hv⟩ := hv
    refine w_getR (pc := 7) C fl_X1_12 rfl dX1_tryNumber_7 (St1_k f1) (St1_r0 f1) ?_
    refine w_aload_n (pc := 10) C dX1_tryNumber_10 rfl ?_
    refine w_iload_n (pc := 11) C dX1_tryNumber_11 rfl ?_
    refine w_cV0_2 (pc := 12) C cl_X1_32 lv_X6_look (by decide) dX1_tryNumber_12 (Nat.le_of_ble_eq_true rfl) (c := 6) rfl (St1_k0 f1) (hv.mono (fun v h2 hp => ?_))
    obtain ⟨rfl, hv⟩ := hp
    refine w_aload_n (pc := 15) C dX1_tryNumber_15 rfl ?_
    obtain ⟨f3, hv⟩ := hv
    refine w_getR (pc := 16) C fl_X1_12 rfl dX1_tryNumber_16 (St1_k f3) (St1_r0 f3) ?_
    refine w_getI (pc := 19) C fl_X1_36 rfl dX1_tryNumber_19 (St1_k0 f3) ?_
    refine w_if_ne (pc := 22) C (tgt := 26) dX1_tryNumber_22 (by decide) ?_
    obtain ⟨hv1, hv2⟩ := hv
    refine ⟨fun c10 => ?_, fun c10 => ?_⟩
    · have hv := hv1 c10
      refine w_aload_n (pc := 26) C dX1_tryNumber_26 rfl ?_
      refine w_aload_n (pc := 27) C dX1_tryNumber_27 rfl ?_
      refine w_aload_n (pc := 28) C dX1_tryNumber_28 rfl ?_
      obtain ⟨f4, hv⟩ := hv
      refine w_getI (pc := 29) C fl_X1_39 rfl dX1_tryNumber_29 (St4_k f4) ?_
      refine w_i2l (pc := 32) C dX1_tryNumber_32 ?_
      refine w_iload (pc := 33) C dX1_tryNumber_33 rfl ?_
      refine w_i2l (pc := 35) C dX1_tryNumber_35 ?_
      refine w_lmul (pc := 36) C dX1_tryNumber_36 ?_
      refine w_iload_n (pc := 37) C dX1_tryNumber_37 rfl ?_
      refine w_i2l (pc := 38) C dX1_tryNumber_38 ?_
      obtain ⟨f5, hv⟩ := hv
      refine w_cV0_2 (pc := 39) C cl_X1_44 lv_X5_find (by decide) dX1_tryNumber_39 (Nat.le_of_ble_eq_true rfl) (c := 5) rfl (St5_k f5) (hv.mono (fun v h6 hp => ?_))
      obtain ⟨x7, rfl, hv⟩ := hp
      obtain ⟨f8, hv⟩ := hv
      refine w_putI (pc := 42) C fl_X1_22 rfl rfl dX1_tryNumber_42 (St1_k f8) ?_
      refine w_aload_n (pc := 45) C dX1_tryNumber_45 rfl ?_
      refine w_getI (pc := 46) C fl_X1_22 rfl dX1_tryNumber_46 (St1_k f8) ?_
      refine w_if_lt (pc := 49) C (tgt := 63) dX1_tryNumber_49 (by decide) ?_
      obtain ⟨hv1, hv2⟩ := hv
      refine ⟨fun c9 => ?_, fun c9 => ?_⟩
      · have hv := hv1 c9
        exact w_vret (pc := 63) C dX1_tryNumber_63 hv
      · have hv := hv2 c9
        refine w_aload_n (pc := 52) C dX1_tryNumber_52 rfl ?_
        refine w_iload_n (pc := 53) C dX1_tryNumber_53 rfl ?_
        refine w_putI (pc := 54) C fl_X1_18 rfl rfl dX1_tryNumber_54 (St1_k f8) ?_
        refine w_aload_n (pc := 57) C dX1_tryNumber_57 rfl ?_
        refine w_iload (pc := 58) C dX1_tryNumber_58 rfl ?_
        refine w_putI (pc := 60) C fl_X1_25 rfl rfl dX1_tryNumber_60 (St1_k f8) ?_
        exact w_vret (pc := 63) C dX1_tryNumber_63 hv
    · have hv := hv2 c10
      exact w_vret (pc := 25) C dX1_tryNumber_25 hv
  · have hv := hv2 c11
    exact w_vret (pc := 5) C dX1_tryNumber_5 hv
theorem dX1_look_0 : decode cX1_look 0 = .ok (.aload_n 0, 1) := by decide +kernel
theorem dX1_look_1 : decode cX1_look 1 = .ok (.iconst 0, 1) := by decide +kernel
theorem dX1_look_2 : decode cX1_look 2 = .ok (.putfield 18, 3) := by decide +kernel
theorem dX1_look_5 : decode cX1_look 5 = .ok (.iconst 1, 1) := by decide +kernel
theorem dX1_look_6 : decode cX1_look 6 = .ok (.istore 4, 2) := by decide +kernel
theorem dX1_look_8 : decode cX1_look 8 = .ok (.iload 4, 2) := by decide +kernel
theorem dX1_look_10 : decode cX1_look 10 = .ok (.bipush 20, 2) := by decide +kernel
theorem dX1_look_12 : decode cX1_look 12 = .ok (.if_icmp .gt 49, 3) := by decide +kernel
theorem dX1_look_15 : decode cX1_look 15 = .ok (.aload_n 0, 1) := by decide +kernel
theorem dX1_look_16 : decode cX1_look 16 = .ok (.getfield 18, 3) := by decide +kernel
theorem dX1_look_19 : decode cX1_look 19 = .ok (.ifCond .ne 42, 3) := by decide +kernel
theorem dX1_look_22 : decode cX1_look 22 = .ok (.aload_n 0, 1) := by decide +kernel
theorem dX1_look_23 : decode cX1_look 23 = .ok (.aload_n 1, 1) := by decide +kernel
theorem dX1_look_24 : decode cX1_look 24 = .ok (.aload_n 2, 1) := by decide +kernel
theorem dX1_look_25 : decode cX1_look 25 = .ok (.iload_n 3, 1) := by decide +kernel
theorem dX1_look_26 : decode cX1_look 26 = .ok (.iload 4, 2) := by decide +kernel
theorem dX1_look_28 : decode cX1_look 28 = .ok (.isub, 1) := by decide +kernel
theorem dX1_look_29 : decode cX1_look 29 = .ok (.iload 4, 2) := by decide +kernel
theorem dX1_look_31 : decode cX1_look 31 = .ok (.iconst (-1), 1) := by decide +kernel
theorem dX1_look_32 : decode cX1_look 32 = .ok (.invokevirtual 28, 3) := by decide +kernel
theorem dX1_look_35 : decode cX1_look 35 = .ok (.aload_n 0, 1) := by decide +kernel
theorem dX1_look_36 : decode cX1_look 36 = .ok (.getfield 18, 3) := by decide +kernel
theorem dX1_look_39 : decode cX1_look 39 = .ok (.ifCond .ne 16, 3) := by decide +kernel
theorem dX1_look_42 : decode cX1_look 42 = .ok (.aload_n 0, 1) := by decide +kernel
theorem dX1_look_43 : decode cX1_look 43 = .ok (.aload_n 1, 1) := by decide +kernel
theorem dX1_look_44 : decode cX1_look 44 = .ok (.aload_n 2, 1) := by decide +kernel
theorem dX1_look_45 : decode cX1_look 45 = .ok (.iload_n 3, 1) := by decide +kernel
theorem dX1_look_46 : decode cX1_look 46 = .ok (.iload 4, 2) := by decide +kernel
theorem dX1_look_48 : decode cX1_look 48 = .ok (.iadd, 1) := by decide +kernel
theorem dX1_look_49 : decode cX1_look 49 = .ok (.iload 4, 2) := by decide +kernel
theorem dX1_look_51 : decode cX1_look 51 = .ok (.iconst 1, 1) := by decide +kernel
theorem dX1_look_52 : decode cX1_look 52 = .ok (.invokevirtual 28, 3) := by decide +kernel
theorem dX1_look_55 : decode cX1_look 55 = .ok (.iinc 4 1, 3) := by decide +kernel
theorem dX1_look_58 : decode cX1_look 58 = .ok (.goto (-50), 3) := by decide +kernel
theorem dX1_look_61 : decode cX1_look 61 = .ok (.return_, 1) := by decide +kernel
set_option maxRecDepth 20000 in
set_option maxHeartbeats 2000000 in
theorem V_X1_look_0 {X : Ctx} (C : C_X1_look X) {k n : Nat} {Q : Pq} {h : Hp} {v0 v1 v2 : Nat} {v3 : Int32}
    (hv : St1 h v0 ∧ Wj X k n Q 8 [(0, .ref v0), (1, .ref v1), (2, .ref v2), (3, .int v3), (4, .int 1)] [] (si h v0 1 0)) :
    Wj X k n Q 0 [(0, .ref v0), (1, .ref v1), (2, .ref v2), (3, .int v3)] [] h := by
  refine w_aload_n (pc := 0) C dX1_look_0 rfl ?_
  refine w_iconst (pc := 1) C (v := 0) dX1_look_1 (by decide) ?_
  obtain ⟨f1, hv⟩ := hv
  refine w_putI (pc := 2) C fl_X1_18 rfl rfl dX1_look_2 (St1_k f1) ?_
  refine w_iconst (pc := 5) C (v := 1) dX1_look_5 (by decide) ?_
  refine w_istore (pc := 6) C dX1_look_6 (by decide) ?_
  refine w_sub ?_ hv
  exact ⟨rfl, rfl, rfl, rfl, rfl, trivial⟩
set_option maxRecDepth 20000 in
set_option maxHeartbeats 2000000 in
theorem V_X1_look_8 {X : Ctx} (C : C_X1_look X) {k n : Nat} {Q : Pq} {h : Hp} {v0 v1 v2 : Nat} {v3 v4 : Int32}
    (hv : ((20 < v4 → Q none h) ∧
    (¬ 20 < v4 → St1 h v0 ∧ ((¬ (gi h v0 1) = 0 → Q none h) ∧
    ((gi h v0 1) = 0 → S_X1_tryNumber (lX X) (dtX X) 0 0 [.ref v0, .ref v1, .ref v2, .int (v3 - v4), .int v4, .int (-1)] h (QV fun h2 =>
    St1 h2 v0 ∧ ((¬ (gi h2 v0 1) = 0 → Wj X k n Q 8 [(0, .ref v0), (1, .ref v1), (2, .ref v2), (3, .int v3), (4, .int (v4 + Int32.ofInt 1))] [] h2) ∧
    ((gi h2 v0 1) = 0 → S_X1_tryNumber (lX X) (dtX X) 0 0 [.ref v0, .ref v1, .ref v2, .int (v3 + v4), .int v4, .int 1] h2 (QV fun h4 =>
    Wj X k n Q 8 [(0, .ref v0), (1, .ref v1), (2, .ref v2), (3, .int v3), (4, .int (v4 + Int32.ofInt 1))] [] h4))))))))) :
    Wj X k n Q 8 [(0, .ref v0), (1, .ref v1), (2, .ref v2), (3, .int v3), (4, .int v4)] [] h := by
  refine w_iload (pc := 8) C dX1_look_8 rfl ?_
  refine w_bipush (pc := 10) C (v := 20) dX1_look_10 (by decide) ?_
  refine w_icmp_gt (pc := 12) C (tgt := 61) dX1_look_12 (by decide) ?_
  obtain ⟨hv1, hv2⟩ := hv
  refine ⟨fun c7 => ?_, fun c7 => ?_⟩
  · have hv := hv1 c7
    exact w_vret (pc := 61) C dX1_look_61 hv
  · have hv := hv2 c7
    refine w_aload_n (pc := 15) C dX1_look_15 rfl ?_
    obtain ⟨f1, hv⟩ := hv
    refine w_getI (pc := 16) C fl_X1_18 rfl dX1_look_16 (St1_k f1) ?_
    refine w_if_ne (pc := 19) C (tgt := 61) dX1_look_19 (by decide) ?_
    obtain ⟨hv1, hv2⟩ := hv
    refine ⟨fun c6 => ?_, fun c6 => ?_⟩
    · have hv := hv1 c6
      exact w_vret (pc := 61) C dX1_look_61 hv
    · have hv := hv2 c6
      refine w_aload_n (pc := 22) C dX1_look_22 rfl ?_
      refine w_aload_n (pc := 23) C dX1_look_23 rfl ?_
      refine w_aload_n (pc := 24) C dX1_look_24 rfl ?_
      refine w_iload_n (pc := 25) C dX1_look_25 rfl ?_
      refine w_iload (pc := 26) C dX1_look_26 rfl ?_
      refine w_isub (pc := 28) C dX1_look_28 ?_
      refine w_iload (pc := 29) C dX1_look_29 rfl ?_
      refine w_iconst (pc := 31) C (v := (-1)) dX1_look_31 (by decide) ?_
      refine w_cV0_5 (pc := 32) C cl_X1_28 lv_X1_tryNumber (by decide) dX1_look_32 (Nat.le_of_ble_eq_true rfl) (c := 1) rfl (St1_k f1) (hv.mono (fun v h2 hp => ?_))
      obtain ⟨rfl, hv⟩ := hp
      refine w_aload_n (pc := 35) C dX1_look_35 rfl ?_
      obtain ⟨f3, hv⟩ := hv
      refine w_getI (pc := 36) C fl_X1_18 rfl dX1_look_36 (St1_k f3) ?_
      refine w_if_ne (pc := 39) C (tgt := 55) dX1_look_39 (by decide) ?_
      obtain ⟨hv1, hv2⟩ := hv
      refine ⟨fun c5 => ?_, fun c5 => ?_⟩
      · have hv := hv1 c5
        refine w_iinc (pc := 55) C dX1_look_55 rfl (by decide) ?_
        refine w_goto (pc := 58) C (tgt := 8) dX1_look_58 (by decide) ?_
        refine w_sub ?_ hv
        exact ⟨rfl, rfl, rfl, rfl, rfl, trivial⟩
      · have hv := hv2 c5
        refine w_aload_n (pc := 42) C dX1_look_42 rfl ?_
        refine w_aload_n (pc := 43) C dX1_look_43 rfl ?_
        refine w_aload_n (pc := 44) C dX1_look_44 rfl ?_
        refine w_iload_n (pc := 45) C dX1_look_45 rfl ?_
        refine w_iload (pc := 46) C dX1_look_46 rfl ?_
        refine w_iadd (pc := 48) C dX1_look_48 ?_
        refine w_iload (pc := 49) C dX1_look_49 rfl ?_
        refine w_iconst (pc := 51) C (v := 1) dX1_look_51 (by decide) ?_
        refine w_cV0_5 (pc := 52) C cl_X1_28 lv_X1_tryNumber (by decide) dX1_look_52 (Nat.le_of_ble_eq_true rfl) (c := 1) rfl (St1_k f3) (hv.mono (fun v h4 hp => ?_))
        obtain ⟨rfl, hv⟩ := hp
        refine w_iinc (pc := 55) C dX1_look_55 rfl (by decide) ?_
        refine w_goto (pc := 58) C (tgt := 8) dX1_look_58 (by decide) ?_
        refine w_sub ?_ hv
        exact ⟨rfl, rfl, rfl, rfl, rfl, trivial⟩
theorem dX9_differential_0 : decode cX9_differential 0 = .ok (.iload_n 1, 1) := by decide +kernel
theorem dX9_differential_1 : decode cX9_differential 1 = .ok (.invokestatic 177, 3) := by decide +kernel
theorem dX9_differential_4 : decode cX9_differential 4 = .ok (.ifCond .ne 5, 3) := by decide +kernel
theorem dX9_differential_7 : decode cX9_differential 7 = .ok (.iconst (-1), 1) := by decide +kernel
theorem dX9_differential_8 : decode cX9_differential 8 = .ok (.ireturn, 1) := by decide +kernel
theorem dX9_differential_9 : decode cX9_differential 9 = .ok (.aload_n 0, 1) := by decide +kernel
theorem dX9_differential_10 : decode cX9_differential 10 = .ok (.invokevirtual 211, 3) := by decide +kernel
theorem dX9_differential_13 : decode cX9_differential 13 = .ok (.astore_n 2, 1) := by decide +kernel
theorem dX9_differential_14 : decode cX9_differential 14 = .ok (.aload_n 0, 1) := by decide +kernel
theorem dX9_differential_15 : decode cX9_differential 15 = .ok (.getfield 40, 3) := by decide +kernel
theorem dX9_differential_18 : decode cX9_differential 18 = .ok (.aload_n 0, 1) := by decide +kernel
theorem dX9_differential_19 : decode cX9_differential 19 = .ok (.getfield 78, 3) := by decide +kernel
theorem dX9_differential_22 : decode cX9_differential 22 = .ok (.aload_n 2, 1) := by decide +kernel
theorem dX9_differential_23 : decode cX9_differential 23 = .ok (.iload_n 1, 1) := by decide +kernel
theorem dX9_differential_24 : decode cX9_differential 24 = .ok (.invokevirtual 215, 3) := by decide +kernel
theorem dX9_differential_27 : decode cX9_differential 27 = .ok (.aload_n 0, 1) := by decide +kernel
theorem dX9_differential_28 : decode cX9_differential 28 = .ok (.getfield 40, 3) := by decide +kernel
theorem dX9_differential_31 : decode cX9_differential 31 = .ok (.getfield 218, 3) := by decide +kernel
theorem dX9_differential_34 : decode cX9_differential 34 = .ok (.ifCond .ne 6, 3) := by decide +kernel
theorem dX9_differential_37 : decode cX9_differential 37 = .ok (.bipush (-2), 2) := by decide +kernel
theorem dX9_differential_39 : decode cX9_differential 39 = .ok (.ireturn, 1) := by decide +kernel
theorem dX9_differential_40 : decode cX9_differential 40 = .ok (.aload_n 0, 1) := by decide +kernel
theorem dX9_differential_41 : decode cX9_differential 41 = .ok (.getfield 19, 3) := by decide +kernel
theorem dX9_differential_44 : decode cX9_differential 44 = .ok (.invokevirtual 158, 3) := by decide +kernel
theorem dX9_differential_47 : decode cX9_differential 47 = .ok (.aload_n 0, 1) := by decide +kernel
theorem dX9_differential_48 : decode cX9_differential 48 = .ok (.getfield 19, 3) := by decide +kernel
theorem dX9_differential_51 : decode cX9_differential 51 = .ok (.aload_n 0, 1) := by decide +kernel
theorem dX9_differential_52 : decode cX9_differential 52 = .ok (.getfield 40, 3) := by decide +kernel
theorem dX9_differential_55 : decode cX9_differential 55 = .ok (.getfield 220, 3) := by decide +kernel
theorem dX9_differential_58 : decode cX9_differential 58 = .ok (.getfield 187, 3) := by decide +kernel
theorem dX9_differential_61 : decode cX9_differential 61 = .ok (.i2l, 1) := by decide +kernel
theorem dX9_differential_62 : decode cX9_differential 62 = .ok (.invokevirtual 164, 3) := by decide +kernel
theorem dX9_differential_65 : decode cX9_differential 65 = .ok (.aload_n 0, 1) := by decide +kernel
theorem dX9_differential_66 : decode cX9_differential 66 = .ok (.getfield 19, 3) := by decide +kernel
theorem dX9_differential_69 : decode cX9_differential 69 = .ok (.aload_n 0, 1) := by decide +kernel
theorem dX9_differential_70 : decode cX9_differential 70 = .ok (.getfield 40, 3) := by decide +kernel
theorem dX9_differential_73 : decode cX9_differential 73 = .ok (.getfield 220, 3) := by decide +kernel
theorem dX9_differential_76 : decode cX9_differential 76 = .ok (.getfield 190, 3) := by decide +kernel
theorem dX9_differential_79 : decode cX9_differential 79 = .ok (.i2l, 1) := by decide +kernel
theorem dX9_differential_80 : decode cX9_differential 80 = .ok (.invokevirtual 164, 3) := by decide +kernel
theorem dX9_differential_83 : decode cX9_differential 83 = .ok (.aload_n 0, 1) := by decide +kernel
theorem dX9_differential_84 : decode cX9_differential 84 = .ok (.getfield 19, 3) := by decide +kernel
theorem dX9_differential_87 : decode cX9_differential 87 = .ok (.aload_n 0, 1) := by decide +kernel
theorem dX9_differential_88 : decode cX9_differential 88 = .ok (.getfield 40, 3) := by decide +kernel
theorem dX9_differential_91 : decode cX9_differential 91 = .ok (.getfield 220, 3) := by decide +kernel
theorem dX9_differential_94 : decode cX9_differential 94 = .ok (.getfield 193, 3) := by decide +kernel
theorem dX9_differential_97 : decode cX9_differential 97 = .ok (.i2l, 1) := by decide +kernel
theorem dX9_differential_98 : decode cX9_differential 98 = .ok (.invokevirtual 164, 3) := by decide +kernel
theorem dX9_differential_101 : decode cX9_differential 101 = .ok (.iconst 0, 1) := by decide +kernel
theorem dX9_differential_102 : decode cX9_differential 102 = .ok (.istore_n 3, 1) := by decide +kernel
theorem dX9_differential_103 : decode cX9_differential 103 = .ok (.iload_n 3, 1) := by decide +kernel
theorem dX9_differential_104 : decode cX9_differential 104 = .ok (.iconst 4, 1) := by decide +kernel
theorem dX9_differential_105 : decode cX9_differential 105 = .ok (.if_icmp .ge 29, 3) := by decide +kernel
theorem dX9_differential_108 : decode cX9_differential 108 = .ok (.aload_n 0, 1) := by decide +kernel
theorem dX9_differential_109 : decode cX9_differential 109 = .ok (.getfield 19, 3) := by decide +kernel
theorem dX9_differential_112 : decode cX9_differential 112 = .ok (.aload_n 2, 1) := by decide +kernel
theorem dX9_differential_113 : decode cX9_differential 113 = .ok (.aload_n 0, 1) := by decide +kernel
theorem dX9_differential_114 : decode cX9_differential 114 = .ok (.getfield 40, 3) := by decide +kernel
theorem dX9_differential_117 : decode cX9_differential 117 = .ok (.getfield 223, 3) := by decide +kernel
theorem dX9_differential_120 : decode cX9_differential 120 = .ok (.iload_n 3, 1) := by decide +kernel
theorem dX9_differential_121 : decode cX9_differential 121 = .ok (.invokevirtual 226, 3) := by decide +kernel
theorem dX9_differential_124 : decode cX9_differential 124 = .ok (.i2l, 1) := by decide +kernel
theorem dX9_differential_125 : decode cX9_differential 125 = .ok (.invokevirtual 164, 3) := by decide +kernel
theorem dX9_differential_128 : decode cX9_differential 128 = .ok (.iinc 3 1, 3) := by decide +kernel
theorem dX9_differential_131 : decode cX9_differential 131 = .ok (.goto (-28), 3) := by decide +kernel
theorem dX9_differential_134 : decode cX9_differential 134 = .ok (.aload_n 0, 1) := by decide +kernel
theorem dX9_differential_135 : decode cX9_differential 135 = .ok (.getfield 19, 3) := by decide +kernel
theorem dX9_differential_138 : decode cX9_differential 138 = .ok (.aload_n 0, 1) := by decide +kernel
theorem dX9_differential_139 : decode cX9_differential 139 = .ok (.getfield 40, 3) := by decide +kernel
theorem dX9_differential_142 : decode cX9_differential 142 = .ok (.getfield 231, 3) := by decide +kernel
theorem dX9_differential_145 : decode cX9_differential 145 = .ok (.i2l, 1) := by decide +kernel
theorem dX9_differential_146 : decode cX9_differential 146 = .ok (.invokevirtual 164, 3) := by decide +kernel
theorem dX9_differential_149 : decode cX9_differential 149 = .ok (.aload_n 0, 1) := by decide +kernel
theorem dX9_differential_150 : decode cX9_differential 150 = .ok (.getfield 40, 3) := by decide +kernel
theorem dX9_differential_153 : decode cX9_differential 153 = .ok (.getfield 218, 3) := by decide +kernel
theorem dX9_differential_156 : decode cX9_differential 156 = .ok (.ireturn, 1) := by decide +kernel
set_option maxRecDepth 20000 in
set_option maxHeartbeats 2000000 in
theorem V_X9_differential_0 {X : Ctx} (C : C_X9_differential X) {k n : Nat} {Q : Pq} {h : Hp} {v0 : Nat} {v1 : Int32}
    (hv : ((¬ (bt v1 2 400) = 0 → St9 h v0 ∧ (∃ k3 n4, k + k3 ≤ mcX X ∧ n + n4 ≤ msX X ∧ S_X9_fittedShelf (lX X) (dtX X) k3 n4 [.ref v0] h (QR fun x5 h2 =>
    St9 h2 v0 ∧ nn h2 v0 12 ∧ S_X1_look (lX X) (dtX X) 0 0 [.ref (v0 + 7), .ref (gp h2 v0 12), .ref x5, .int v1] h2 (QV fun h8 =>
    St9 h8 v0 ∧ ((¬ (gi h8 (v0 + 7) 1) = 0 → S_X8_add (lX X) (dtX X) 0 0 [.ref (v0 + 3), .long (Int32.toInt64 (gi (tcl h8 (v0 + 3)) ((v0 + 7) + 1) 1))] (tcl h8 (v0 + 3)) (QV fun h10 =>
    St9 h10 v0 ∧ S_X8_add (lX X) (dtX X) 0 0 [.ref (v0 + 3), .long (Int32.toInt64 (gi h10 ((v0 + 7) + 1) 2))] h10 (QV fun h12 =>
    St9 h12 v0 ∧ S_X8_add (lX X) (dtX X) 0 0 [.ref (v0 + 3), .long (Int32.toInt64 (gi h12 ((v0 + 7) + 1) 3))] h12 (QV fun h14 =>
    Wj X (k + k3) (n + n4) Q 103 [(0, .ref v0), (2, .ref x5), (3, .int 0)] [] h14)))) ∧
    ((gi h8 (v0 + 7) 1) = 0 → Q (some (.int (-2))) h8)))))) ∧
    ((bt v1 2 400) = 0 → Q (some (.int (-1))) h))) :
    Wj X k n Q 0 [(0, .ref v0), (1, .int v1)] [] h := by
  refine w_iload_n (pc := 0) C dX9_differential_0 rfl ?_
  refine w_cS0_1 (pc := 1) C cl_X9_177 ls_X9_isParts (by decide) dX9_differential_1 (Nat.le_of_ble_eq_true rfl) ((sf_X9_isParts (h := h) ).mono (fun v h9 hp => ?_))
  obtain ⟨e1, e2⟩ := hp
  rw [e1, e2]
  refine w_if_ne (pc := 4) C (tgt := 9) dX9_differential_4 (by decide) ?_
  obtain ⟨hv1, hv2⟩ := hv
  refine ⟨fun c16 => ?_, fun c16 => ?_⟩
  · have hv := hv1 c16
    refine w_aload_n (pc := 9) C dX9_differential_9 rfl ?_
    obtain ⟨f1, hv⟩ := hv
    obtain ⟨k3, n4, hm1, hm2, hv⟩ := hv
    refine w_cV1_0 (pc := 10) C cl_X9_211 lv_X9_fittedShelf (by decide) dX9_differential_10 (Nat.le_of_ble_eq_true rfl) (c := 9) rfl hm1 hm2 (St9_k f1) (hv.mono (fun v h2 hp => ?_))
    obtain ⟨x5, rfl, hv⟩ := hp
    refine w_astore_n (pc := 13) C dX9_differential_13 (by decide) ?_
    refine w_aload_n (pc := 14) C dX9_differential_14 rfl ?_
    obtain ⟨f6, hv⟩ := hv
    refine w_getR (pc := 15) C fl_X9_40 rfl dX9_differential_15 (St9_k f6) (St9_r4 f6) ?_
    refine w_aload_n (pc := 18) C dX9_differential_18 rfl ?_
    obtain ⟨f7, hv⟩ := hv
    refine w_getR (pc := 19) C fl_X9_78 rfl dX9_differential_19 (St9_k f6) f7 ?_
    refine w_aload_n (pc := 22) C dX9_differential_22 rfl ?_
    refine w_iload_n (pc := 23) C dX9_differential_23 rfl ?_
    refine w_cV0_3 (pc := 24) C cl_X9_215 lv_X1_look (by decide) dX9_differential_24 (Nat.le_of_ble_eq_true rfl) (c := 1) rfl (St1_k (St9_s4 f6)) (hv.mono (fun v h8 hp => ?_))
    obtain ⟨rfl, hv⟩ := hp
    refine w_aload_n (pc := 27) C dX9_differential_27 rfl ?_
    obtain ⟨f9, hv⟩ := hv
    refine w_getR (pc := 28) C fl_X9_40 rfl dX9_differential_28 (St9_k f9) (St9_r4 f9) ?_
    refine w_getI (pc := 31) C fl_X9_218 rfl dX9_differential_31 (St1_k (St9_s4 f9)) ?_
    refine w_if_ne (pc := 34) C (tgt := 40) dX9_differential_34 (by decide) ?_
    obtain ⟨hv1, hv2⟩ := hv
    refine ⟨fun c15 => ?_, fun c15 => ?_⟩
    · have hv := hv1 c15
      refine w_aload_n (pc := 40) C dX9_differential_40 rfl ?_
      refine w_getR (pc := 41) C fl_X9_19 rfl dX9_differential_41 (St9_k f9) (St9_r1 f9) ?_
      refine w_cV0_0 (pc := 44) C cl_X9_158 lv_X8_clear (by decide) dX9_differential_44 (Nat.le_of_ble_eq_true rfl) (c := 8) rfl (St8_k (St9_s1 f9)) ((sf_X8_clear (h := h8) (St9_s1 f9)).mono (fun v h9 hp => ?_))
      obtain ⟨e1, e2⟩ := hp
      rw [e1, e2]
      refine w_aload_n (pc := 47) C dX9_differential_47 rfl ?_
      refine w_getR (pc := 48) C fl_X9_19 rfl dX9_differential_48 (St9_k f9) (St9_r1 f9) ?_
      refine w_aload_n (pc := 51) C dX9_differential_51 rfl ?_
      refine w_getR (pc := 52) C fl_X9_40 rfl dX9_differential_52 (St9_k f9) (St9_r4 f9) ?_
      refine w_getR (pc := 55) C fl_X9_220 rfl dX9_differential_55 (St1_k (St9_s4 f9)) (St1_r0 (St9_s4 f9)) ?_
      refine w_getI (pc := 58) C fl_X9_187 rfl dX9_differential_58 (St1_k0 (St9_s4 f9)) ?_
      refine w_i2l (pc := 61) C dX9_differential_61 ?_
      refine w_cV0_1 (pc := 62) C cl_X9_164 lv_X8_add (by decide) dX9_differential_62 (Nat.le_of_ble_eq_true rfl) (c := 8) rfl (St8_k (St9_s1 f9)) (hv.mono (fun v h10 hp => ?_))
      obtain ⟨rfl, hv⟩ := hp
      refine w_aload_n (pc := 65) C dX9_differential_65 rfl ?_
      obtain ⟨f11, hv⟩ := hv
      refine w_getR (pc := 66) C fl_X9_19 rfl dX9_differential_66 (St9_k f11) (St9_r1 f11) ?_
      refine w_aload_n (pc := 69) C dX9_differential_69 rfl ?_
      refine w_getR (pc := 70) C fl_X9_40 rfl dX9_differential_70 (St9_k f11) (St9_r4 f11) ?_
      refine w_getR (pc := 73) C fl_X9_220 rfl dX9_differential_73 (St1_k (St9_s4 f11)) (St1_r0 (St9_s4 f11)) ?_
      refine w_getI (pc := 76) C fl_X9_190 rfl dX9_differential_76 (St1_k0 (St9_s4 f11)) ?_
      refine w_i2l (pc := 79) C dX9_differential_79 ?_
      refine w_cV0_1 (pc := 80) C cl_X9_164 lv_X8_add (by decide) dX9_differential_80 (Nat.le_of_ble_eq_true rfl) (c := 8) rfl (St8_k (St9_s1 f11)) (hv.mono (fun v h12 hp => ?_))
      obtain ⟨rfl, hv⟩ := hp
      refine w_aload_n (pc := 83) C dX9_differential_83 rfl ?_
      obtain ⟨f13, hv⟩ := hv
      refine w_getR (pc := 84) C fl_X9_19 rfl dX9_differential_84 (St9_k f13) (St9_r1 f13) ?_
      refine w_aload_n (pc := 87) C dX9_differential_87 rfl ?_
      refine w_getR (pc := 88) C fl_X9_40 rfl dX9_differential_88 (St9_k f13) (St9_r4 f13) ?_
      refine w_getR (pc := 91) C fl_X9_220 rfl dX9_differential_91 (St1_k (St9_s4 f13)) (St1_r0 (St9_s4 f13)) ?_
      refine w_getI (pc := 94) C fl_X9_193 rfl dX9_differential_94 (St1_k0 (St9_s4 f13)) ?_
      refine w_i2l (pc := 97) C dX9_differential_97 ?_
      refine w_cV0_1 (pc := 98) C cl_X9_164 lv_X8_add (by decide) dX9_differential_98 (Nat.le_of_ble_eq_true rfl) (c := 8) rfl (St8_k (St9_s1 f13)) (hv.mono (fun v h14 hp => ?_))
      obtain ⟨rfl, hv⟩ := hp
      refine w_iconst (pc := 101) C (v := 0) dX9_differential_101 (by decide) ?_
      refine w_istore_n (pc := 102) C dX9_differential_102 (by decide) ?_
      refine w_sub ?_ hv
      exact ⟨rfl, rfl, rfl, trivial⟩
    · have hv := hv2 c15
      refine w_bipush (pc := 37) C (v := (-2)) dX9_differential_37 (by decide) ?_
      exact w_iret (pc := 39) C dX9_differential_39 hv
  · have hv := hv2 c16
    refine w_iconst (pc := 7) C (v := (-1)) dX9_differential_7 (by decide) ?_
    exact w_iret (pc := 8) C dX9_differential_8 hv
set_option maxRecDepth 20000 in
set_option maxHeartbeats 2000000 in
theorem V_X9_differential_103 {X : Ctx} (C : C_X9_differential X) {k n : Nat} {Q : Pq} {h : Hp} {v0 v2 : Nat} {v3 : Int32}
    (hv : ((4 ≤ v3 → St9 h v0 ∧ S_X8_add (lX X) (dtX X) 0 0 [.ref (v0 + 3), .long (Int32.toInt64 (gi h (v0 + 7) 3))] h (QV fun h2 =>
    St9 h2 v0 ∧ Q (some (.int (gi h2 (v0 + 7) 1))) h2)) ∧
    (¬ 4 ≤ v3 → St9 h v0 ∧ St5 h v2 ∧ S_X8_add (lX X) (dtX X) 0 0 [.ref (v0 + 3), .long (Int32.toInt64 (sWh h v2 (gi h (v0 + 7) 2) v3))] h (QV fun h6 =>
    Wj X k n Q 103 [(0, .ref v0), (2, .ref v2), (3, .int (v3 + Int32.ofInt 1))] [] h6)))) :
    Wj X k n Q 103 [(0, .ref v0), (2, .ref v2), (3, .int v3)] [] h := by
  refine w_iload_n (pc := 103) C dX9_differential_103 rfl ?_
  refine w_iconst (pc := 104) C (v := 4) dX9_differential_104 (by decide) ?_
  refine w_icmp_ge (pc := 105) C (tgt := 134) dX9_differential_105 (by decide) ?_
  obtain ⟨hv1, hv2⟩ := hv
  refine ⟨fun c7 => ?_, fun c7 => ?_⟩
  · have hv := hv1 c7
    refine w_aload_n (pc := 134) C dX9_differential_134 rfl ?_
    obtain ⟨f1, hv⟩ := hv
    refine w_getR (pc := 135) C fl_X9_19 rfl dX9_differential_135 (St9_k f1) (St9_r1 f1) ?_
    refine w_aload_n (pc := 138) C dX9_differential_138 rfl ?_
    refine w_getR (pc := 139) C fl_X9_40 rfl dX9_differential_139 (St9_k f1) (St9_r4 f1) ?_
    refine w_getI (pc := 142) C fl_X9_231 rfl dX9_differential_142 (St1_k (St9_s4 f1)) ?_
    refine w_i2l (pc := 145) C dX9_differential_145 ?_
    refine w_cV0_1 (pc := 146) C cl_X9_164 lv_X8_add (by decide) dX9_differential_146 (Nat.le_of_ble_eq_true rfl) (c := 8) rfl (St8_k (St9_s1 f1)) (hv.mono (fun v h2 hp => ?_))
    obtain ⟨rfl, hv⟩ := hp
    refine w_aload_n (pc := 149) C dX9_differential_149 rfl ?_
    obtain ⟨f3, hv⟩ := hv
    refine w_getR (pc := 150) C fl_X9_40 rfl dX9_differential_150 (St9_k f3) (St9_r4 f3) ?_
    refine w_getI (pc := 153) C fl_X9_218 rfl dX9_differential_153 (St1_k (St9_s4 f3)) ?_
    exact w_iret (pc := 156) C dX9_differential_156 hv
  · have hv := hv2 c7
    refine w_aload_n (pc := 108) C dX9_differential_108 rfl ?_
    obtain ⟨f4, hv⟩ := hv
    refine w_getR (pc := 109) C fl_X9_19 rfl dX9_differential_109 (St9_k f4) (St9_r1 f4) ?_
    refine w_aload_n (pc := 112) C dX9_differential_112 rfl ?_
    refine w_aload_n (pc := 113) C dX9_differential_113 rfl ?_
    refine w_getR (pc := 114) C fl_X9_40 rfl dX9_differential_114 (St9_k f4) (St9_r4 f4) ?_
    refine w_getI (pc := 117) C fl_X9_223 rfl dX9_differential_117 (St1_k (St9_s4 f4)) ?_
    refine w_iload_n (pc := 120) C dX9_differential_120 rfl ?_
    obtain ⟨f5, hv⟩ := hv
    refine w_cV0_2 (pc := 121) C cl_X9_226 lv_X5_wheel (by decide) dX9_differential_121 (Nat.le_of_ble_eq_true rfl) (c := 5) rfl (St5_k f5) ((sf_X5_wheel (h := h) f5).mono (fun v h9 hp => ?_))
    obtain ⟨e1, e2⟩ := hp
    rw [e1, e2]
    refine w_i2l (pc := 124) C dX9_differential_124 ?_
    refine w_cV0_1 (pc := 125) C cl_X9_164 lv_X8_add (by decide) dX9_differential_125 (Nat.le_of_ble_eq_true rfl) (c := 8) rfl (St8_k (St9_s1 f4)) (hv.mono (fun v h6 hp => ?_))
    obtain ⟨rfl, hv⟩ := hp
    refine w_iinc (pc := 128) C dX9_differential_128 rfl (by decide) ?_
    refine w_goto (pc := 131) C (tgt := 103) dX9_differential_131 (by decide) ?_
    refine w_sub ?_ hv
    exact ⟨rfl, rfl, rfl, trivial⟩
theorem dX9_hasWay_0 : decode cX9_hasWay 0 = .ok (.iload_n 2, 1) := by decide +kernel
theorem dX9_hasWay_1 : decode cX9_hasWay 1 = .ok (.ifCond .ne 31, 3) := by decide +kernel
theorem dX9_hasWay_4 : decode cX9_hasWay 4 = .ok (.aload_n 0, 1) := by decide +kernel
theorem dX9_hasWay_5 : decode cX9_hasWay 5 = .ok (.getfield 26, 3) := by decide +kernel
theorem dX9_hasWay_8 : decode cX9_hasWay 8 = .ok (.aload_n 0, 1) := by decide +kernel
theorem dX9_hasWay_9 : decode cX9_hasWay 9 = .ok (.getfield 78, 3) := by decide +kernel
theorem dX9_hasWay_12 : decode cX9_hasWay 12 = .ok (.iload_n 1, 1) := by decide +kernel
theorem dX9_hasWay_13 : decode cX9_hasWay 13 = .ok (.invokevirtual 180, 3) := by decide +kernel
theorem dX9_hasWay_16 : decode cX9_hasWay 16 = .ok (.aload_n 0, 1) := by decide +kernel
theorem dX9_hasWay_17 : decode cX9_hasWay 17 = .ok (.getfield 26, 3) := by decide +kernel
theorem dX9_hasWay_20 : decode cX9_hasWay 20 = .ok (.getfield 184, 3) := by decide +kernel
theorem dX9_hasWay_23 : decode cX9_hasWay 23 = .ok (.ifCond .le 7, 3) := by decide +kernel
theorem dX9_hasWay_26 : decode cX9_hasWay 26 = .ok (.iconst 1, 1) := by decide +kernel
theorem dX9_hasWay_27 : decode cX9_hasWay 27 = .ok (.goto 4, 3) := by decide +kernel
theorem dX9_hasWay_30 : decode cX9_hasWay 30 = .ok (.iconst 0, 1) := by decide +kernel
theorem dX9_hasWay_31 : decode cX9_hasWay 31 = .ok (.ireturn, 1) := by decide +kernel
theorem dX9_hasWay_32 : decode cX9_hasWay 32 = .ok (.iload_n 2, 1) := by decide +kernel
theorem dX9_hasWay_33 : decode cX9_hasWay 33 = .ok (.iconst 1, 1) := by decide +kernel
theorem dX9_hasWay_34 : decode cX9_hasWay 34 = .ok (.if_icmp .ne 31, 3) := by decide +kernel
theorem dX9_hasWay_37 : decode cX9_hasWay 37 = .ok (.aload_n 0, 1) := by decide +kernel
theorem dX9_hasWay_38 : decode cX9_hasWay 38 = .ok (.getfield 33, 3) := by decide +kernel
theorem dX9_hasWay_41 : decode cX9_hasWay 41 = .ok (.aload_n 0, 1) := by decide +kernel
theorem dX9_hasWay_42 : decode cX9_hasWay 42 = .ok (.getfield 78, 3) := by decide +kernel
theorem dX9_hasWay_45 : decode cX9_hasWay 45 = .ok (.iload_n 1, 1) := by decide +kernel
theorem dX9_hasWay_46 : decode cX9_hasWay 46 = .ok (.invokevirtual 196, 3) := by decide +kernel
theorem dX9_hasWay_49 : decode cX9_hasWay 49 = .ok (.aload_n 0, 1) := by decide +kernel
theorem dX9_hasWay_50 : decode cX9_hasWay 50 = .ok (.getfield 33, 3) := by decide +kernel
theorem dX9_hasWay_53 : decode cX9_hasWay 53 = .ok (.getfield 197, 3) := by decide +kernel
theorem dX9_hasWay_56 : decode cX9_hasWay 56 = .ok (.ifCond .le 7, 3) := by decide +kernel
theorem dX9_hasWay_59 : decode cX9_hasWay 59 = .ok (.iconst 1, 1) := by decide +kernel
theorem dX9_hasWay_60 : decode cX9_hasWay 60 = .ok (.goto 4, 3) := by decide +kernel
theorem dX9_hasWay_63 : decode cX9_hasWay 63 = .ok (.iconst 0, 1) := by decide +kernel
theorem dX9_hasWay_64 : decode cX9_hasWay 64 = .ok (.ireturn, 1) := by decide +kernel
theorem dX9_hasWay_65 : decode cX9_hasWay 65 = .ok (.aload_n 0, 1) := by decide +kernel
theorem dX9_hasWay_66 : decode cX9_hasWay 66 = .ok (.getfield 40, 3) := by decide +kernel
theorem dX9_hasWay_69 : decode cX9_hasWay 69 = .ok (.aload_n 0, 1) := by decide +kernel
theorem dX9_hasWay_70 : decode cX9_hasWay 70 = .ok (.getfield 78, 3) := by decide +kernel
theorem dX9_hasWay_73 : decode cX9_hasWay 73 = .ok (.aload_n 0, 1) := by decide +kernel
theorem dX9_hasWay_74 : decode cX9_hasWay 74 = .ok (.invokevirtual 211, 3) := by decide +kernel
theorem dX9_hasWay_77 : decode cX9_hasWay 77 = .ok (.iload_n 1, 1) := by decide +kernel
theorem dX9_hasWay_78 : decode cX9_hasWay 78 = .ok (.invokevirtual 215, 3) := by decide +kernel
theorem dX9_hasWay_81 : decode cX9_hasWay 81 = .ok (.aload_n 0, 1) := by decide +kernel
theorem dX9_hasWay_82 : decode cX9_hasWay 82 = .ok (.getfield 40, 3) := by decide +kernel
theorem dX9_hasWay_85 : decode cX9_hasWay 85 = .ok (.getfield 218, 3) := by decide +kernel
theorem dX9_hasWay_88 : decode cX9_hasWay 88 = .ok (.ifCond .le 7, 3) := by decide +kernel
theorem dX9_hasWay_91 : decode cX9_hasWay 91 = .ok (.iconst 1, 1) := by decide +kernel
theorem dX9_hasWay_92 : decode cX9_hasWay 92 = .ok (.goto 4, 3) := by decide +kernel
theorem dX9_hasWay_95 : decode cX9_hasWay 95 = .ok (.iconst 0, 1) := by decide +kernel
theorem dX9_hasWay_96 : decode cX9_hasWay 96 = .ok (.ireturn, 1) := by decide +kernel
set_option maxRecDepth 20000 in
set_option maxHeartbeats 2000000 in
theorem V_X9_hasWay_0 {X : Ctx} (C : C_X9_hasWay X) {k n : Nat} {Q : Pq} {h : Hp} {v0 : Nat} {v1 v2 : Int32}
    (hv : ((¬ v2 = 0 → ((¬ v2 = 1 → St9 h v0 ∧ nn h v0 12 ∧ (∃ k4 n5, k + k4 ≤ mcX X ∧ n + n5 ≤ msX X ∧ S_X9_fittedShelf (lX X) (dtX X) k4 n5 [.ref v0] h (QR fun x6 h3 =>
    St1 h3 (v0 + 7) ∧ S_X1_look (lX X) (dtX X) 0 0 [.ref (v0 + 7), .ref (gp h v0 12), .ref x6, .int v1] h3 (QV fun h8 =>
    St9 h8 v0 ∧ (((gi h8 (v0 + 7) 1) ≤ 0 → Q (some (.int 0)) h8) ∧
    (¬ (gi h8 (v0 + 7) 1) ≤ 0 → Q (some (.int 1)) h8)))))) ∧
    (v2 = 1 → St9 h v0 ∧ nn h v0 12 ∧ S_X0_look (lX X) (dtX X) 0 0 [.ref (v0 + 6), .ref (gp h v0 12), .int v1] h (QV fun h13 =>
    St9 h13 v0 ∧ (((gi h13 (v0 + 6) 0) ≤ 0 → Q (some (.int 0)) h13) ∧
    (¬ (gi h13 (v0 + 6) 0) ≤ 0 → Q (some (.int 1)) h13)))))) ∧
    (v2 = 0 → St9 h v0 ∧ nn h v0 12 ∧ S_X6_look (lX X) (dtX X) 0 0 [.ref (v0 + 5), .ref (gp h v0 12), .int v1] h (QV fun h19 =>
    St9 h19 v0 ∧ (((gi h19 (v0 + 5) 0) ≤ 0 → Q (some (.int 0)) h19) ∧
    (¬ (gi h19 (v0 + 5) 0) ≤ 0 → Q (some (.int 1)) h19)))))) :
    Wj X k n Q 0 [(0, .ref v0), (1, .int v1), (2, .int v2)] [] h := by
  refine w_iload_n (pc := 0) C dX9_hasWay_0 rfl ?_
  refine w_if_ne (pc := 1) C (tgt := 32) dX9_hasWay_1 (by decide) ?_
  obtain ⟨hv1, hv2⟩ := hv
  refine ⟨fun c22 => ?_, fun c22 => ?_⟩
  · have hv := hv1 c22
    refine w_iload_n (pc := 32) C dX9_hasWay_32 rfl ?_
    refine w_iconst (pc := 33) C (v := 1) dX9_hasWay_33 (by decide) ?_
    refine w_icmp_ne (pc := 34) C (tgt := 65) dX9_hasWay_34 (by decide) ?_
    obtain ⟨hv1, hv2⟩ := hv
    refine ⟨fun c16 => ?_, fun c16 => ?_⟩
    · have hv := hv1 c16
      refine w_aload_n (pc := 65) C dX9_hasWay_65 rfl ?_
      obtain ⟨f1, hv⟩ := hv
      refine w_getR (pc := 66) C fl_X9_40 rfl dX9_hasWay_66 (St9_k f1) (St9_r4 f1) ?_
      refine w_aload_n (pc := 69) C dX9_hasWay_69 rfl ?_
      obtain ⟨f2, hv⟩ := hv
      refine w_getR (pc := 70) C fl_X9_78 rfl dX9_hasWay_70 (St9_k f1) f2 ?_
      refine w_aload_n (pc := 73) C dX9_hasWay_73 rfl ?_
      obtain ⟨k4, n5, hm1, hm2, hv⟩ := hv
      refine w_cV1_0 (pc := 74) C cl_X9_211 lv_X9_fittedShelf (by decide) dX9_hasWay_74 (Nat.le_of_ble_eq_true rfl) (c := 9) rfl hm1 hm2 (St9_k f1) (hv.mono (fun v h3 hp => ?_))
      obtain ⟨x6, rfl, hv⟩ := hp
      refine w_iload_n (pc := 77) C dX9_hasWay_77 rfl ?_
      obtain ⟨f7, hv⟩ := hv
      refine w_cV0_3 (pc := 78) C cl_X9_215 lv_X1_look (by decide) dX9_hasWay_78 (Nat.le_of_ble_eq_true rfl) (c := 1) rfl (St1_k f7) (hv.mono (fun v h8 hp => ?_))
      obtain ⟨rfl, hv⟩ := hp
      refine w_aload_n (pc := 81) C dX9_hasWay_81 rfl ?_
      obtain ⟨f9, hv⟩ := hv
      refine w_getR (pc := 82) C fl_X9_40 rfl dX9_hasWay_82 (St9_k f9) (St9_r4 f9) ?_
      refine w_getI (pc := 85) C fl_X9_218 rfl dX9_hasWay_85 (St1_k (St9_s4 f9)) ?_
      refine w_if_le (pc := 88) C (tgt := 95) dX9_hasWay_88 (by decide) ?_
      obtain ⟨hv1, hv2⟩ := hv
      refine ⟨fun c10 => ?_, fun c10 => ?_⟩
      · have hv := hv1 c10
        refine w_iconst (pc := 95) C (v := 0) dX9_hasWay_95 (by decide) ?_
        exact w_zret (pc := 96) C dX9_hasWay_96 (by decide) hv
      · have hv := hv2 c10
        refine w_iconst (pc := 91) C (v := 1) dX9_hasWay_91 (by decide) ?_
        refine w_goto (pc := 92) C (tgt := 96) dX9_hasWay_92 (by decide) ?_
        exact w_zret (pc := 96) C dX9_hasWay_96 (by decide) hv
    · have hv := hv2 c16
      refine w_aload_n (pc := 37) C dX9_hasWay_37 rfl ?_
      obtain ⟨f11, hv⟩ := hv
      refine w_getR (pc := 38) C fl_X9_33 rfl dX9_hasWay_38 (St9_k f11) (St9_r3 f11) ?_
      refine w_aload_n (pc := 41) C dX9_hasWay_41 rfl ?_
      obtain ⟨f12, hv⟩ := hv
      refine w_getR (pc := 42) C fl_X9_78 rfl dX9_hasWay_42 (St9_k f11) f12 ?_
      refine w_iload_n (pc := 45) C dX9_hasWay_45 rfl ?_
      refine w_cV0_2 (pc := 46) C cl_X9_196 lv_X0_look (by decide) dX9_hasWay_46 (Nat.le_of_ble_eq_true rfl) (c := 0) rfl (St9_k3 f11) (hv.mono (fun v h13 hp => ?_))
      obtain ⟨rfl, hv⟩ := hp
      refine w_aload_n (pc := 49) C dX9_hasWay_49 rfl ?_
      obtain ⟨f14, hv⟩ := hv
      refine w_getR (pc := 50) C fl_X9_33 rfl dX9_hasWay_50 (St9_k f14) (St9_r3 f14) ?_
      refine w_getI (pc := 53) C fl_X9_197 rfl dX9_hasWay_53 (St9_k3 f14) ?_
      refine w_if_le (pc := 56) C (tgt := 63) dX9_hasWay_56 (by decide) ?_
      obtain ⟨hv1, hv2⟩ := hv
      refine ⟨fun c15 => ?_, fun c15 => ?_⟩
      · have hv := hv1 c15
        refine w_iconst (pc := 63) C (v := 0) dX9_hasWay_63 (by decide) ?_
        exact w_zret (pc := 64) C dX9_hasWay_64 (by decide) hv
      · have hv := hv2 c15
        refine w_iconst (pc := 59) C (v := 1) dX9_hasWay_59 (by decide) ?_
        refine w_goto (pc := 60) C (tgt := 64) dX9_hasWay_60 (by decide) ?_
        exact w_zret (pc := 64) C dX9_hasWay_64 (by decide) hv
  · have hv := hv2 c22
    refine w_aload_n (pc := 4) C dX9_hasWay_4 rfl ?_
    obtain ⟨f17, hv⟩ := hv
    refine w_getR (pc := 5) C fl_X9_26 rfl dX9_hasWay_5 (St9_k f17) (St9_r2 f17) ?_
    refine w_aload_n (pc := 8) C dX9_hasWay_8 rfl ?_
    obtain ⟨f18, hv⟩ := hv
    refine w_getR (pc := 9) C fl_X9_78 rfl dX9_hasWay_9 (St9_k f17) f18 ?_
    refine w_iload_n (pc := 12) C dX9_hasWay_12 rfl ?_
    refine w_cV0_2 (pc := 13) C cl_X9_180 lv_X6_look (by decide) dX9_hasWay_13 (Nat.le_of_ble_eq_true rfl) (c := 6) rfl (St9_k2 f17) (hv.mono (fun v h19 hp => ?_))
    obtain ⟨rfl, hv⟩ := hp
    refine w_aload_n (pc := 16) C dX9_hasWay_16 rfl ?_
    obtain ⟨f20, hv⟩ := hv
    refine w_getR (pc := 17) C fl_X9_26 rfl dX9_hasWay_17 (St9_k f20) (St9_r2 f20) ?_
    refine w_getI (pc := 20) C fl_X9_184 rfl dX9_hasWay_20 (St9_k2 f20) ?_
    refine w_if_le (pc := 23) C (tgt := 30) dX9_hasWay_23 (by decide) ?_
    obtain ⟨hv1, hv2⟩ := hv
    refine ⟨fun c21 => ?_, fun c21 => ?_⟩
    · have hv := hv1 c21
      refine w_iconst (pc := 30) C (v := 0) dX9_hasWay_30 (by decide) ?_
      exact w_zret (pc := 31) C dX9_hasWay_31 (by decide) hv
    · have hv := hv2 c21
      refine w_iconst (pc := 26) C (v := 1) dX9_hasWay_26 (by decide) ?_
      refine w_goto (pc := 27) C (tgt := 31) dX9_hasWay_27 (by decide) ?_
      exact w_zret (pc := 31) C dX9_hasWay_31 (by decide) hv
theorem dX9_ways_0 : decode cX9_ways 0 = .ok (.iload_n 1, 1) := by decide +kernel
theorem dX9_ways_1 : decode cX9_ways 1 = .ok (.invokestatic 177, 3) := by decide +kernel
theorem dX9_ways_4 : decode cX9_ways 4 = .ok (.ifCond .ne 5, 3) := by decide +kernel
theorem dX9_ways_7 : decode cX9_ways 7 = .ok (.iconst (-1), 1) := by decide +kernel
theorem dX9_ways_8 : decode cX9_ways 8 = .ok (.ireturn, 1) := by decide +kernel
theorem dX9_ways_9 : decode cX9_ways 9 = .ok (.iconst 0, 1) := by decide +kernel
theorem dX9_ways_10 : decode cX9_ways 10 = .ok (.istore_n 2, 1) := by decide +kernel
theorem dX9_ways_11 : decode cX9_ways 11 = .ok (.iconst 0, 1) := by decide +kernel
theorem dX9_ways_12 : decode cX9_ways 12 = .ok (.istore_n 3, 1) := by decide +kernel
theorem dX9_ways_13 : decode cX9_ways 13 = .ok (.iload_n 3, 1) := by decide +kernel
theorem dX9_ways_14 : decode cX9_ways 14 = .ok (.iconst 3, 1) := by decide +kernel
theorem dX9_ways_15 : decode cX9_ways 15 = .ok (.if_icmp .ge 28, 3) := by decide +kernel
theorem dX9_ways_18 : decode cX9_ways 18 = .ok (.iload_n 2, 1) := by decide +kernel
theorem dX9_ways_19 : decode cX9_ways 19 = .ok (.aload_n 0, 1) := by decide +kernel
theorem dX9_ways_20 : decode cX9_ways 20 = .ok (.iload_n 1, 1) := by decide +kernel
theorem dX9_ways_21 : decode cX9_ways 21 = .ok (.iload_n 3, 1) := by decide +kernel
theorem dX9_ways_22 : decode cX9_ways 22 = .ok (.invokevirtual 234, 3) := by decide +kernel
theorem dX9_ways_25 : decode cX9_ways 25 = .ok (.ifCond .eq 9, 3) := by decide +kernel
theorem dX9_ways_28 : decode cX9_ways 28 = .ok (.iconst 1, 1) := by decide +kernel
theorem dX9_ways_29 : decode cX9_ways 29 = .ok (.iload_n 3, 1) := by decide +kernel
theorem dX9_ways_30 : decode cX9_ways 30 = .ok (.ishl, 1) := by decide +kernel
theorem dX9_ways_31 : decode cX9_ways 31 = .ok (.goto 4, 3) := by decide +kernel
theorem dX9_ways_34 : decode cX9_ways 34 = .ok (.iconst 0, 1) := by decide +kernel
theorem dX9_ways_35 : decode cX9_ways 35 = .ok (.ior, 1) := by decide +kernel
theorem dX9_ways_36 : decode cX9_ways 36 = .ok (.istore_n 2, 1) := by decide +kernel
theorem dX9_ways_37 : decode cX9_ways 37 = .ok (.iinc 3 1, 3) := by decide +kernel
theorem dX9_ways_40 : decode cX9_ways 40 = .ok (.goto (-27), 3) := by decide +kernel
theorem dX9_ways_43 : decode cX9_ways 43 = .ok (.aload_n 0, 1) := by decide +kernel
theorem dX9_ways_44 : decode cX9_ways 44 = .ok (.getfield 19, 3) := by decide +kernel
theorem dX9_ways_47 : decode cX9_ways 47 = .ok (.invokevirtual 158, 3) := by decide +kernel
theorem dX9_ways_50 : decode cX9_ways 50 = .ok (.aload_n 0, 1) := by decide +kernel
theorem dX9_ways_51 : decode cX9_ways 51 = .ok (.getfield 19, 3) := by decide +kernel
theorem dX9_ways_54 : decode cX9_ways 54 = .ok (.iload_n 2, 1) := by decide +kernel
theorem dX9_ways_55 : decode cX9_ways 55 = .ok (.invokestatic 238, 3) := by decide +kernel
theorem dX9_ways_58 : decode cX9_ways 58 = .ok (.i2l, 1) := by decide +kernel
theorem dX9_ways_59 : decode cX9_ways 59 = .ok (.invokevirtual 164, 3) := by decide +kernel
theorem dX9_ways_62 : decode cX9_ways 62 = .ok (.iload_n 2, 1) := by decide +kernel
theorem dX9_ways_63 : decode cX9_ways 63 = .ok (.ireturn, 1) := by decide +kernel
set_option maxRecDepth 20000 in
set_option maxHeartbeats 2000000 in
theorem V_X9_ways_0 {X : Ctx} (C : C_X9_ways X) {k n : Nat} {Q : Pq} {h : Hp} {v0 : Nat} {v1 : Int32}
    (hv : ((¬ (bt v1 2 400) = 0 → Wj X k n Q 13 [(0, .ref v0), (1, .int v1), (2, .int 0), (3, .int 0)] [] h) ∧
    ((bt v1 2 400) = 0 → Q (some (.int (-1))) h))) :
    Wj X k n Q 0 [(0, .ref v0), (1, .int v1)] [] h := by
  refine w_iload_n (pc := 0) C dX9_ways_0 rfl ?_
  refine w_cS0_1 (pc := 1) C cl_X9_177 ls_X9_isParts (by decide) dX9_ways_1 (Nat.le_of_ble_eq_true rfl) ((sf_X9_isParts (h := h) ).mono (fun v h9 hp => ?_))
  obtain ⟨e1, e2⟩ := hp
  rw [e1, e2]
  refine w_if_ne (pc := 4) C (tgt := 9) dX9_ways_4 (by decide) ?_
  obtain ⟨hv1, hv2⟩ := hv
  refine ⟨fun c1 => ?_, fun c1 => ?_⟩
  · have hv := hv1 c1
    refine w_iconst (pc := 9) C (v := 0) dX9_ways_9 (by decide) ?_
    refine w_istore_n (pc := 10) C dX9_ways_10 (by decide) ?_
    refine w_iconst (pc := 11) C (v := 0) dX9_ways_11 (by decide) ?_
    refine w_istore_n (pc := 12) C dX9_ways_12 (by decide) ?_
    refine w_sub ?_ hv
    exact ⟨rfl, rfl, rfl, rfl, trivial⟩
  · have hv := hv2 c1
    refine w_iconst (pc := 7) C (v := (-1)) dX9_ways_7 (by decide) ?_
    exact w_iret (pc := 8) C dX9_ways_8 hv
set_option maxRecDepth 20000 in
set_option maxHeartbeats 2000000 in
theorem V_X9_ways_13 {X : Ctx} (C : C_X9_ways X) {k n : Nat} {Q : Pq} {h : Hp} {v0 : Nat} {v1 v2 v3 : Int32}
    (hv : ((3 ≤ v3 → St9 h v0 ∧ S_J6_bitCount_0f7a4 (lX X) (dtX X) 0 0 [.int v2] (tcl h (v0 + 3)) (QI fun x3 h2 =>
    St8 h2 (v0 + 3) ∧ S_X8_add (lX X) (dtX X) 0 0 [.ref (v0 + 3), .long (Int32.toInt64 x3)] h2 (QV fun h5 =>
    Q (some (.int v2)) h5))) ∧
    (¬ 3 ≤ v3 → St9 h v0 ∧ (∃ k8 n9, k + k8 ≤ mcX X ∧ n + n9 ≤ msX X ∧ S_X9_hasWay (lX X) (dtX X) k8 n9 [.ref v0, .int v1, .int v3] h (QI fun x10 h7 =>
    ((x10 = 0 → Wj X (k + k8) (n + n9) Q 13 [(0, .ref v0), (1, .int v1), (2, .int (v2 ||| 0)), (3, .int (v3 + Int32.ofInt 1))] [] h7) ∧
    (¬ x10 = 0 → Wj X (k + k8) (n + n9) Q 13 [(0, .ref v0), (1, .int v1), (2, .int (v2 ||| (1 <<< (v3 &&& 31)))), (3, .int (v3 + Int32.ofInt 1))] [] h7))))))) :
    Wj X k n Q 13 [(0, .ref v0), (1, .int v1), (2, .int v2), (3, .int v3)] [] h := by
  refine w_iload_n (pc := 13) C dX9_ways_13 rfl ?_
  refine w_iconst (pc := 14) C (v := 3) dX9_ways_14 (by decide) ?_
  refine w_icmp_ge (pc := 15) C (tgt := 43) dX9_ways_15 (by decide) ?_
  obtain ⟨hv1, hv2⟩ := hv
  refine ⟨fun c12 => ?_, fun c12 => ?_⟩
  · have hv := hv1 c12
    refine w_aload_n (pc := 43) C dX9_ways_43 rfl ?_
    obtain ⟨f1, hv⟩ := hv
    refine w_getR (pc := 44) C fl_X9_19 rfl dX9_ways_44 (St9_k f1) (St9_r1 f1) ?_
    refine w_cV0_0 (pc := 47) C cl_X9_158 lv_X8_clear (by decide) dX9_ways_47 (Nat.le_of_ble_eq_true rfl) (c := 8) rfl (St8_k (St9_s1 f1)) ((sf_X8_clear (h := h) (St9_s1 f1)).mono (fun v h9 hp => ?_))
    obtain ⟨e1, e2⟩ := hp
    rw [e1, e2]
    refine w_aload_n (pc := 50) C dX9_ways_50 rfl ?_
    refine w_getR (pc := 51) C fl_X9_19 rfl dX9_ways_51 (St9_k f1) (St9_r1 f1) ?_
    refine w_iload_n (pc := 54) C dX9_ways_54 rfl ?_
    refine w_cS0_1 (pc := 55) C cl_X9_238 ls_J6_bitCount_0f7a4 (by decide) dX9_ways_55 (Nat.le_of_ble_eq_true rfl) (hv.mono (fun v h2 hp => ?_))
    obtain ⟨x3, rfl, hv⟩ := hp
    refine w_i2l (pc := 58) C dX9_ways_58 ?_
    obtain ⟨f4, hv⟩ := hv
    refine w_cV0_1 (pc := 59) C cl_X9_164 lv_X8_add (by decide) dX9_ways_59 (Nat.le_of_ble_eq_true rfl) (c := 8) rfl (St8_k f4) (hv.mono (fun v h5 hp => ?_))
    obtain ⟨rfl, hv⟩ := hp
    refine w_iload_n (pc := 62) C dX9_ways_62 rfl ?_
    exact w_iret (pc := 63) C dX9_ways_63 hv
  · have hv := hv2 c12
    refine w_iload_n (pc := 18) C dX9_ways_18 rfl ?_
    refine w_aload_n (pc := 19) C dX9_ways_19 rfl ?_
    refine w_iload_n (pc := 20) C dX9_ways_20 rfl ?_
    refine w_iload_n (pc := 21) C dX9_ways_21 rfl ?_
    obtain ⟨f6, hv⟩ := hv
    obtain ⟨k8, n9, hm1, hm2, hv⟩ := hv
    refine w_cV1_2 (pc := 22) C cl_X9_234 lv_X9_hasWay (by decide) dX9_ways_22 (Nat.le_of_ble_eq_true rfl) (c := 9) rfl hm1 hm2 (St9_k f6) (hv.mono (fun v h7 hp => ?_))
    obtain ⟨x10, rfl, hv⟩ := hp
    refine w_if_eq (pc := 25) C (tgt := 34) dX9_ways_25 (by decide) ?_
    obtain ⟨hv1, hv2⟩ := hv
    refine ⟨fun c11 => ?_, fun c11 => ?_⟩
    · have hv := hv1 c11
      refine w_iconst (pc := 34) C (v := 0) dX9_ways_34 (by decide) ?_
      refine w_ior (pc := 35) C dX9_ways_35 ?_
      refine w_istore_n (pc := 36) C dX9_ways_36 (by decide) ?_
      refine w_iinc (pc := 37) C dX9_ways_37 rfl (by decide) ?_
      refine w_goto (pc := 40) C (tgt := 13) dX9_ways_40 (by decide) ?_
      refine w_sub ?_ hv
      exact ⟨rfl, rfl, rfl, rfl, trivial⟩
    · have hv := hv2 c11
      refine w_iconst (pc := 28) C (v := 1) dX9_ways_28 (by decide) ?_
      refine w_iload_n (pc := 29) C dX9_ways_29 rfl ?_
      refine w_ishl (pc := 30) C dX9_ways_30 ?_
      refine w_goto (pc := 31) C (tgt := 35) dX9_ways_31 (by decide) ?_
      refine w_ior (pc := 35) C dX9_ways_35 ?_
      refine w_istore_n (pc := 36) C dX9_ways_36 (by decide) ?_
      refine w_iinc (pc := 37) C dX9_ways_37 rfl (by decide) ?_
      refine w_goto (pc := 40) C (tgt := 13) dX9_ways_40 (by decide) ?_
      refine w_sub ?_ hv
      exact ⟨rfl, rfl, rfl, rfl, trivial⟩
theorem dX9_hard_0 : decode cX9_hard 0 = .ok (.iload_n 1, 1) := by decide +kernel
theorem dX9_hard_1 : decode cX9_hard 1 = .ok (.invokestatic 177, 3) := by decide +kernel
theorem dX9_hard_4 : decode cX9_hard 4 = .ok (.ifCond .eq 23, 3) := by decide +kernel
theorem dX9_hard_7 : decode cX9_hard 7 = .ok (.iload_n 2, 1) := by decide +kernel
theorem dX9_hard_8 : decode cX9_hard 8 = .ok (.invokestatic 177, 3) := by decide +kernel
theorem dX9_hard_11 : decode cX9_hard 11 = .ok (.ifCond .eq 16, 3) := by decide +kernel
theorem dX9_hard_14 : decode cX9_hard 14 = .ok (.iload_n 1, 1) := by decide +kernel
theorem dX9_hard_15 : decode cX9_hard 15 = .ok (.iload_n 2, 1) := by decide +kernel
theorem dX9_hard_16 : decode cX9_hard 16 = .ok (.if_icmp .gt 11, 3) := by decide +kernel
theorem dX9_hard_19 : decode cX9_hard 19 = .ok (.iload_n 2, 1) := by decide +kernel
theorem dX9_hard_20 : decode cX9_hard 20 = .ok (.iload_n 1, 1) := by decide +kernel
theorem dX9_hard_21 : decode cX9_hard 21 = .ok (.isub, 1) := by decide +kernel
theorem dX9_hard_22 : decode cX9_hard 22 = .ok (.bipush 60, 2) := by decide +kernel
theorem dX9_hard_24 : decode cX9_hard 24 = .ok (.if_icmp .lt 5, 3) := by decide +kernel
theorem dX9_hard_27 : decode cX9_hard 27 = .ok (.iconst (-1), 1) := by decide +kernel
theorem dX9_hard_28 : decode cX9_hard 28 = .ok (.ireturn, 1) := by decide +kernel
theorem dX9_hard_29 : decode cX9_hard 29 = .ok (.iconst (-1), 1) := by decide +kernel
theorem dX9_hard_30 : decode cX9_hard 30 = .ok (.istore_n 3, 1) := by decide +kernel
theorem dX9_hard_31 : decode cX9_hard 31 = .ok (.iconst 0, 1) := by decide +kernel
theorem dX9_hard_32 : decode cX9_hard 32 = .ok (.istore 4, 2) := by decide +kernel
theorem dX9_hard_34 : decode cX9_hard 34 = .ok (.iconst 0, 1) := by decide +kernel
theorem dX9_hard_35 : decode cX9_hard 35 = .ok (.istore 5, 2) := by decide +kernel
theorem dX9_hard_37 : decode cX9_hard 37 = .ok (.iconst 0, 1) := by decide +kernel
theorem dX9_hard_38 : decode cX9_hard 38 = .ok (.istore 6, 2) := by decide +kernel
theorem dX9_hard_40 : decode cX9_hard 40 = .ok (.iconst 0, 1) := by decide +kernel
theorem dX9_hard_41 : decode cX9_hard 41 = .ok (.istore 7, 2) := by decide +kernel
theorem dX9_hard_43 : decode cX9_hard 43 = .ok (.iload_n 1, 1) := by decide +kernel
theorem dX9_hard_44 : decode cX9_hard 44 = .ok (.istore 8, 2) := by decide +kernel
theorem dX9_hard_46 : decode cX9_hard 46 = .ok (.iload 8, 2) := by decide +kernel
theorem dX9_hard_48 : decode cX9_hard 48 = .ok (.iload_n 2, 1) := by decide +kernel
theorem dX9_hard_49 : decode cX9_hard 49 = .ok (.if_icmp .gt 102, 3) := by decide +kernel
theorem dX9_hard_52 : decode cX9_hard 52 = .ok (.aload_n 0, 1) := by decide +kernel
theorem dX9_hard_53 : decode cX9_hard 53 = .ok (.iload 8, 2) := by decide +kernel
theorem dX9_hard_55 : decode cX9_hard 55 = .ok (.iconst 0, 1) := by decide +kernel
theorem dX9_hard_56 : decode cX9_hard 56 = .ok (.invokevirtual 234, 3) := by decide +kernel
theorem dX9_hard_59 : decode cX9_hard 59 = .ok (.ifCond .ne 86, 3) := by decide +kernel
theorem dX9_hard_62 : decode cX9_hard 62 = .ok (.iload 4, 2) := by decide +kernel
theorem dX9_hard_64 : decode cX9_hard 64 = .ok (.ifCond .ne 8, 3) := by decide +kernel
theorem dX9_hard_67 : decode cX9_hard 67 = .ok (.iload 8, 2) := by decide +kernel
theorem dX9_hard_69 : decode cX9_hard 69 = .ok (.goto 4, 3) := by decide +kernel
theorem dX9_hard_72 : decode cX9_hard 72 = .ok (.iload_n 3, 1) := by decide +kernel
theorem dX9_hard_73 : decode cX9_hard 73 = .ok (.istore_n 3, 1) := by decide +kernel
theorem dX9_hard_74 : decode cX9_hard 74 = .ok (.iinc 4 1, 3) := by decide +kernel
theorem dX9_hard_77 : decode cX9_hard 77 = .ok (.aload_n 0, 1) := by decide +kernel
theorem dX9_hard_78 : decode cX9_hard 78 = .ok (.iload 8, 2) := by decide +kernel
theorem dX9_hard_80 : decode cX9_hard 80 = .ok (.iconst 1, 1) := by decide +kernel
theorem dX9_hard_81 : decode cX9_hard 81 = .ok (.invokevirtual 234, 3) := by decide +kernel
theorem dX9_hard_84 : decode cX9_hard 84 = .ok (.istore 9, 2) := by decide +kernel
theorem dX9_hard_86 : decode cX9_hard 86 = .ok (.aload_n 0, 1) := by decide +kernel
theorem dX9_hard_87 : decode cX9_hard 87 = .ok (.iload 8, 2) := by decide +kernel
theorem dX9_hard_89 : decode cX9_hard 89 = .ok (.iconst 2, 1) := by decide +kernel
theorem dX9_hard_90 : decode cX9_hard 90 = .ok (.invokevirtual 234, 3) := by decide +kernel
theorem dX9_hard_93 : decode cX9_hard 93 = .ok (.istore 10, 2) := by decide +kernel
theorem dX9_hard_95 : decode cX9_hard 95 = .ok (.iload 5, 2) := by decide +kernel
theorem dX9_hard_97 : decode cX9_hard 97 = .ok (.iload 9, 2) := by decide +kernel
theorem dX9_hard_99 : decode cX9_hard 99 = .ok (.ifCond .eq 7, 3) := by decide +kernel
theorem dX9_hard_102 : decode cX9_hard 102 = .ok (.iconst 1, 1) := by decide +kernel
theorem dX9_hard_103 : decode cX9_hard 103 = .ok (.goto 4, 3) := by decide +kernel
theorem dX9_hard_106 : decode cX9_hard 106 = .ok (.iconst 0, 1) := by decide +kernel
theorem dX9_hard_107 : decode cX9_hard 107 = .ok (.iadd, 1) := by decide +kernel
theorem dX9_hard_108 : decode cX9_hard 108 = .ok (.istore 5, 2) := by decide +kernel
theorem dX9_hard_110 : decode cX9_hard 110 = .ok (.iload 6, 2) := by decide +kernel
theorem dX9_hard_112 : decode cX9_hard 112 = .ok (.iload 10, 2) := by decide +kernel
theorem dX9_hard_114 : decode cX9_hard 114 = .ok (.ifCond .eq 7, 3) := by decide +kernel
theorem dX9_hard_117 : decode cX9_hard 117 = .ok (.iconst 1, 1) := by decide +kernel
theorem dX9_hard_118 : decode cX9_hard 118 = .ok (.goto 4, 3) := by decide +kernel
theorem dX9_hard_121 : decode cX9_hard 121 = .ok (.iconst 0, 1) := by decide +kernel
theorem dX9_hard_122 : decode cX9_hard 122 = .ok (.iadd, 1) := by decide +kernel
theorem dX9_hard_123 : decode cX9_hard 123 = .ok (.istore 6, 2) := by decide +kernel
theorem dX9_hard_125 : decode cX9_hard 125 = .ok (.iload 7, 2) := by decide +kernel
theorem dX9_hard_127 : decode cX9_hard 127 = .ok (.iload 9, 2) := by decide +kernel
theorem dX9_hard_129 : decode cX9_hard 129 = .ok (.ifCond .ne 8, 3) := by decide +kernel
theorem dX9_hard_132 : decode cX9_hard 132 = .ok (.iload 10, 2) := by decide +kernel
theorem dX9_hard_134 : decode cX9_hard 134 = .ok (.ifCond .eq 7, 3) := by decide +kernel
theorem dX9_hard_137 : decode cX9_hard 137 = .ok (.iconst 0, 1) := by decide +kernel
theorem dX9_hard_138 : decode cX9_hard 138 = .ok (.goto 4, 3) := by decide +kernel
theorem dX9_hard_141 : decode cX9_hard 141 = .ok (.iconst 1, 1) := by decide +kernel
theorem dX9_hard_142 : decode cX9_hard 142 = .ok (.iadd, 1) := by decide +kernel
theorem dX9_hard_143 : decode cX9_hard 143 = .ok (.istore 7, 2) := by decide +kernel
theorem dX9_hard_145 : decode cX9_hard 145 = .ok (.iinc 8 1, 3) := by decide +kernel
theorem dX9_hard_148 : decode cX9_hard 148 = .ok (.goto (-102), 3) := by decide +kernel
theorem dX9_hard_151 : decode cX9_hard 151 = .ok (.aload_n 0, 1) := by decide +kernel
theorem dX9_hard_152 : decode cX9_hard 152 = .ok (.getfield 19, 3) := by decide +kernel
theorem dX9_hard_155 : decode cX9_hard 155 = .ok (.invokevirtual 158, 3) := by decide +kernel
theorem dX9_hard_158 : decode cX9_hard 158 = .ok (.aload_n 0, 1) := by decide +kernel
theorem dX9_hard_159 : decode cX9_hard 159 = .ok (.getfield 19, 3) := by decide +kernel
theorem dX9_hard_162 : decode cX9_hard 162 = .ok (.iload_n 3, 1) := by decide +kernel
theorem dX9_hard_163 : decode cX9_hard 163 = .ok (.i2l, 1) := by decide +kernel
theorem dX9_hard_164 : decode cX9_hard 164 = .ok (.invokevirtual 164, 3) := by decide +kernel
theorem dX9_hard_167 : decode cX9_hard 167 = .ok (.aload_n 0, 1) := by decide +kernel
theorem dX9_hard_168 : decode cX9_hard 168 = .ok (.getfield 19, 3) := by decide +kernel
theorem dX9_hard_171 : decode cX9_hard 171 = .ok (.iload 5, 2) := by decide +kernel
theorem dX9_hard_173 : decode cX9_hard 173 = .ok (.i2l, 1) := by decide +kernel
theorem dX9_hard_174 : decode cX9_hard 174 = .ok (.invokevirtual 164, 3) := by decide +kernel
theorem dX9_hard_177 : decode cX9_hard 177 = .ok (.aload_n 0, 1) := by decide +kernel
theorem dX9_hard_178 : decode cX9_hard 178 = .ok (.getfield 19, 3) := by decide +kernel
theorem dX9_hard_181 : decode cX9_hard 181 = .ok (.iload 6, 2) := by decide +kernel
theorem dX9_hard_183 : decode cX9_hard 183 = .ok (.i2l, 1) := by decide +kernel
theorem dX9_hard_184 : decode cX9_hard 184 = .ok (.invokevirtual 164, 3) := by decide +kernel
theorem dX9_hard_187 : decode cX9_hard 187 = .ok (.aload_n 0, 1) := by decide +kernel
theorem dX9_hard_188 : decode cX9_hard 188 = .ok (.getfield 19, 3) := by decide +kernel
theorem dX9_hard_191 : decode cX9_hard 191 = .ok (.iload 7, 2) := by decide +kernel
theorem dX9_hard_193 : decode cX9_hard 193 = .ok (.i2l, 1) := by decide +kernel
theorem dX9_hard_194 : decode cX9_hard 194 = .ok (.invokevirtual 164, 3) := by decide +kernel
theorem dX9_hard_197 : decode cX9_hard 197 = .ok (.iload 4, 2) := by decide +kernel
theorem dX9_hard_199 : decode cX9_hard 199 = .ok (.ireturn, 1) := by decide +kernel
set_option maxRecDepth 20000 in
set_option maxHeartbeats 2000000 in
theorem V_X9_hard_0 {X : Ctx} (C : C_X9_hard X) {k n : Nat} {Q : Pq} {h : Hp} {v0 : Nat} {v1 v2 : Int32}
    (hv : (((bt v1 2 400) = 0 → Q (some (.int (-1))) h) ∧
    (¬ (bt v1 2 400) = 0 → (((bt v2 2 400) = 0 → Q (some (.int (-1))) h) ∧
    (¬ (bt v2 2 400) = 0 → ((v2 < v1 → Q (some (.int (-1))) h) ∧
    (¬ v2 < v1 → (((v2 - v1) < 60 → Wj X k n Q 46 [(0, .ref v0), (2, .int v2), (3, .int (-1)), (4, .int 0), (5, .int 0), (6, .int 0), (7, .int 0), (8, .int v1)] [] h) ∧
    (¬ (v2 - v1) < 60 → Q (some (.int (-1))) h))))))))) :
    Wj X k n Q 0 [(0, .ref v0), (1, .int v1), (2, .int v2)] [] h := by
  refine w_iload_n (pc := 0) C dX9_hard_0 rfl ?_
  refine w_cS0_1 (pc := 1) C cl_X9_177 ls_X9_isParts (by decide) dX9_hard_1 (Nat.le_of_ble_eq_true rfl) ((sf_X9_isParts (h := h) ).mono (fun v h9 hp => ?_))
  obtain ⟨e1, e2⟩ := hp
  rw [e1, e2]
  refine w_if_eq (pc := 4) C (tgt := 27) dX9_hard_4 (by decide) ?_
  obtain ⟨hv1, hv2⟩ := hv
  refine ⟨fun c4 => ?_, fun c4 => ?_⟩
  · have hv := hv1 c4
    refine w_iconst (pc := 27) C (v := (-1)) dX9_hard_27 (by decide) ?_
    exact w_iret (pc := 28) C dX9_hard_28 hv
  · have hv := hv2 c4
    refine w_iload_n (pc := 7) C dX9_hard_7 rfl ?_
    refine w_cS0_1 (pc := 8) C cl_X9_177 ls_X9_isParts (by decide) dX9_hard_8 (Nat.le_of_ble_eq_true rfl) ((sf_X9_isParts (h := h) ).mono (fun v h9 hp => ?_))
    obtain ⟨e1, e2⟩ := hp
    rw [e1, e2]
    refine w_if_eq (pc := 11) C (tgt := 27) dX9_hard_11 (by decide) ?_
    obtain ⟨hv1, hv2⟩ := hv
    refine ⟨fun c3 => ?_, fun c3 => ?_⟩
    · have hv := hv1 c3
      refine w_iconst (pc := 27) C (v := (-1)) dX9_hard_27 (by decide) ?_
      exact w_iret (pc := 28) C dX9_hard_28 hv
    · have hv := hv2 c3
      refine w_iload_n (pc := 14) C dX9_hard_14 rfl ?_
      refine w_iload_n (pc := 15) C dX9_hard_15 rfl ?_
      refine w_icmp_gt (pc := 16) C (tgt := 27) dX9_hard_16 (by decide) ?_
      obtain ⟨hv1, hv2⟩ := hv
      refine ⟨fun c2 => ?_, fun c2 => ?_⟩
      · have hv := hv1 c2
        refine w_iconst (pc := 27) C (v := (-1)) dX9_hard_27 (by decide) ?_
        exact w_iret (pc := 28) C dX9_hard_28 hv
      · have hv := hv2 c2
        refine w_iload_n (pc := 19) C dX9_hard_19 rfl ?_
        refine w_iload_n (pc := 20) C dX9_hard_20 rfl ?_
        refine w_isub (pc := 21) C dX9_hard_21 ?_
        refine w_bipush (pc := 22) C (v := 60) dX9_hard_22 (by decide) ?_
        refine w_icmp_lt (pc := 24) C (tgt := 29) dX9_hard_24 (by decide) ?_
        obtain ⟨hv1, hv2⟩ := hv
        refine ⟨fun c1 => ?_, fun c1 => ?_⟩
        · have hv := hv1 c1
          refine w_iconst (pc := 29) C (v := (-1)) dX9_hard_29 (by decide) ?_
          refine w_istore_n (pc := 30) C dX9_hard_30 (by decide) ?_
          refine w_iconst (pc := 31) C (v := 0) dX9_hard_31 (by decide) ?_
          refine w_istore (pc := 32) C dX9_hard_32 (by decide) ?_
          refine w_iconst (pc := 34) C (v := 0) dX9_hard_34 (by decide) ?_
          refine w_istore (pc := 35) C dX9_hard_35 (by decide) ?_
          refine w_iconst (pc := 37) C (v := 0) dX9_hard_37 (by decide) ?_
          refine w_istore (pc := 38) C dX9_hard_38 (by decide) ?_
          refine w_iconst (pc := 40) C (v := 0) dX9_hard_40 (by decide) ?_
          refine w_istore (pc := 41) C dX9_hard_41 (by decide) ?_
          refine w_iload_n (pc := 43) C dX9_hard_43 rfl ?_
          refine w_istore (pc := 44) C dX9_hard_44 (by decide) ?_
          refine w_sub ?_ hv
          exact ⟨rfl, rfl, rfl, rfl, rfl, rfl, rfl, rfl, trivial⟩
        · have hv := hv2 c1
          refine w_iconst (pc := 27) C (v := (-1)) dX9_hard_27 (by decide) ?_
          exact w_iret (pc := 28) C dX9_hard_28 hv
set_option maxRecDepth 20000 in
set_option maxHeartbeats 2000000 in
theorem V_X9_hard_46 {X : Ctx} (C : C_X9_hard X) {k n : Nat} {Q : Pq} {h : Hp} {v0 : Nat} {v2 v3 v4 v5 v6 v7 v8 : Int32}
    (hv : ((v2 < v8 → St9 h v0 ∧ S_X8_add (lX X) (dtX X) 0 0 [.ref (v0 + 3), .long (Int32.toInt64 v3)] (tcl h (v0 + 3)) (QV fun h2 =>
    St9 h2 v0 ∧ S_X8_add (lX X) (dtX X) 0 0 [.ref (v0 + 3), .long (Int32.toInt64 v5)] h2 (QV fun h4 =>
    St9 h4 v0 ∧ S_X8_add (lX X) (dtX X) 0 0 [.ref (v0 + 3), .long (Int32.toInt64 v6)] h4 (QV fun h6 =>
    St9 h6 v0 ∧ S_X8_add (lX X) (dtX X) 0 0 [.ref (v0 + 3), .long (Int32.toInt64 v7)] h6 (QV fun h8 =>
    Q (some (.int v4)) h8))))) ∧
    (¬ v2 < v8 → St9 h v0 ∧ (∃ k11 n12, k + k11 ≤ mcX X ∧ n + n12 ≤ msX X ∧ S_X9_hasWay (lX X) (dtX X) k11 n12 [.ref v0, .int v8, .int 0] h (QI fun x13 h10 =>
    ((¬ x13 = 0 → Wj X (k + k11) (n + n12) Q 46 [(0, .ref v0), (2, .int v2), (3, .int v3), (4, .int v4), (5, .int v5), (6, .int v6), (7, .int v7), (8, .int (v8 + Int32.ofInt 1))] [] h10) ∧
    (x13 = 0 → ((¬ v4 = 0 → Wj X (k + k11) (n + n12) Q 73 [(0, .ref v0), (2, .int v2), (4, .int v4), (5, .int v5), (6, .int v6), (7, .int v7), (8, .int v8)] [.int v3] h10) ∧
    (v4 = 0 → Wj X (k + k11) (n + n12) Q 73 [(0, .ref v0), (2, .int v2), (4, .int v4), (5, .int v5), (6, .int v6), (7, .int v7), (8, .int v8)] [.int v8] h10))))))))) :
    Wj X k n Q 46 [(0, .ref v0), (2, .int v2), (3, .int v3), (4, .int v4), (5, .int v5), (6, .int v6), (7, .int v7), (8, .int v8)] [] h := by
  refine w_iload (pc := 46) C dX9_hard_46 rfl ?_
  refine w_iload_n (pc := 48) C dX9_hard_48 rfl ?_
  refine w_icmp_gt (pc := 49) C (tgt := 151) dX9_hard_49 (by decide) ?_
  obtain ⟨hv1, hv2⟩ := hv
  refine ⟨fun c16 => ?_, fun c16 => ?_⟩
  · have hv := hv1 c16
    refine w_aload_n (pc := 151) C dX9_hard_151 rfl ?_
    obtain ⟨f1, hv⟩ := hv
    refine w_getR (pc := 152) C fl_X9_19 rfl dX9_hard_152 (St9_k f1) (St9_r1 f1) ?_
    refine w_cV0_0 (pc := 155) C cl_X9_158 lv_X8_clear (by decide) dX9_hard_155 (Nat.le_of_ble_eq_true rfl) (c := 8) rfl (St8_k (St9_s1 f1)) ((sf_X8_clear (h := h) (St9_s1 f1)).mono (fun v h9 hp => ?_))
    obtain ⟨e1, e2⟩ := hp
    rw [e1, e2]
    refine w_aload_n (pc := 158) C dX9_hard_158 rfl ?_
    refine w_getR (pc := 159) C fl_X9_19 rfl dX9_hard_159 (St9_k f1) (St9_r1 f1) ?_
    refine w_iload_n (pc := 162) C dX9_hard_162 rfl ?_
    refine w_i2l (pc := 163) C dX9_hard_163 ?_
    refine w_cV0_1 (pc := 164) C cl_X9_164 lv_X8_add (by decide) dX9_hard_164 (Nat.le_of_ble_eq_true rfl) (c := 8) rfl (St8_k (St9_s1 f1)) (hv.mono (fun v h2 hp => ?_))
    obtain ⟨rfl, hv⟩ := hp
    refine w_aload_n (pc := 167) C dX9_hard_167 rfl ?_
    obtain ⟨f3, hv⟩ := hv
    refine w_getR (pc := 168) C fl_X9_19 rfl dX9_hard_168 (St9_k f3) (St9_r1 f3) ?_
    refine w_iload (pc := 171) C dX9_hard_171 rfl ?_
    refine w_i2l (pc := 173) C dX9_hard_173 ?_
    refine w_cV0_1 (pc := 174) C cl_X9_164 lv_X8_add (by decide) dX9_hard_174 (Nat.le_of_ble_eq_true rfl) (c := 8) rfl (St8_k (St9_s1 f3)) (hv.mono (fun v h4 hp => ?_))
    obtain ⟨rfl, hv⟩ := hp
    refine w_aload_n (pc := 177) C dX9_hard_177 rfl ?_
    obtain ⟨f5, hv⟩ := hv
    refine w_getR (pc := 178) C fl_X9_19 rfl dX9_hard_178 (St9_k f5) (St9_r1 f5) ?_
    refine w_iload (pc := 181) C dX9_hard_181 rfl ?_
    refine w_i2l (pc := 183) C dX9_hard_183 ?_
    refine w_cV0_1 (pc := 184) C cl_X9_164 lv_X8_add (by decide) dX9_hard_184 (Nat.le_of_ble_eq_true rfl) (c := 8) rfl (St8_k (St9_s1 f5)) (hv.mono (fun v h6 hp => ?_))
    obtain ⟨rfl, hv⟩ := hp
    refine w_aload_n (pc := 187) C dX9_hard_187 rfl ?_
    obtain ⟨f7, hv⟩ := hv
    refine w_getR (pc := 188) C fl_X9_19 rfl dX9_hard_188 (St9_k f7) (St9_r1 f7) ?_
    refine w_iload (pc := 191) C dX9_hard_191 rfl ?_
    refine w_i2l (pc := 193) C dX9_hard_193 ?_
    refine w_cV0_1 (pc := 194) C cl_X9_164 lv_X8_add (by decide) dX9_hard_194 (Nat.le_of_ble_eq_true rfl) (c := 8) rfl (St8_k (St9_s1 f7)) (hv.mono (fun v h8 hp => ?_))
    obtain ⟨rfl, hv⟩ := hp
    refine w_iload (pc := 197) C dX9_hard_197 rfl ?_
    exact w_iret (pc := 199) C dX9_hard_199 hv
  · have hv := hv2 c16
    refine w_aload_n (pc := 52) C dX9_hard_52 rfl ?_
    refine w_iload (pc := 53) C dX9_hard_53 rfl ?_
    refine w_iconst (pc := 55) C (v := 0) dX9_hard_55 (by decide) ?_
    obtain ⟨f9, hv⟩ := hv
    obtain ⟨k11, n12, hm1, hm2, hv⟩ := hv
    refine w_cV1_2 (pc := 56) C cl_X9_234 lv_X9_hasWay (by decide) dX9_hard_56 (Nat.le_of_ble_eq_true rfl) (c := 9) rfl hm1 hm2 (St9_k f9) (hv.mono (fun v h10 hp => ?_))
    obtain ⟨x13, rfl, hv⟩ := hp
    refine w_if_ne (pc := 59) C (tgt := 145) dX9_hard_59 (by decide) ?_
    obtain ⟨hv1, hv2⟩ := hv
    refine ⟨fun c15 => ?_, fun c15 => ?_⟩
    · have hv := hv1 c15
      refine w_iinc (pc := 145) C dX9_hard_145 rfl (by decide) ?_
      refine w_goto (pc := 148) C (tgt := 46) dX9_hard_148 (by decide) ?_
      refine w_sub ?_ hv
      exact ⟨rfl, rfl, rfl, rfl, rfl, rfl, rfl, rfl, trivial⟩
    · have hv := hv2 c15
      refine w_iload (pc := 62) C dX9_hard_62 rfl ?_
      refine w_if_ne (pc := 64) C (tgt := 72) dX9_hard_64 (by decide) ?_
      obtain ⟨hv1, hv2⟩ := hv
      refine ⟨fun c14 => ?_, fun c14 => ?_⟩
      · have hv := hv1 c14
        refine w_iload_n (pc := 72) C dX9_hard_72 rfl ?_
        refine w_sub ?_ hv
        exact ⟨rfl, rfl, rfl, rfl, rfl, rfl, rfl, trivial⟩
      · have hv := hv2 c14
        refine w_iload (pc := 67) C dX9_hard_67 rfl ?_
        refine w_goto (pc := 69) C (tgt := 73) dX9_hard_69 (by decide) ?_
        refine w_sub ?_ hv
        exact ⟨rfl, rfl, rfl, rfl, rfl, rfl, rfl, trivial⟩
set_option maxRecDepth 20000 in
set_option maxHeartbeats 2000000 in
theorem V_X9_hard_73 {X : Ctx} (C : C_X9_hard X) {k n : Nat} {Q : Pq} {h : Hp} {v0 : Nat} {v2 v4 v5 v6 v7 v8 s0 : Int32}
    (hv : St9 h v0 ∧ (∃ k3 n4, k + k3 ≤ mcX X ∧ n + n4 ≤ msX X ∧ S_X9_hasWay (lX X) (dtX X) k3 n4 [.ref v0, .int v8, .int 1] h (QI fun x5 h2 =>
    St9 h2 v0 ∧ (∃ k8 n9, k + k3 + k8 ≤ mcX X ∧ n + n4 + n9 ≤ msX X ∧ S_X9_hasWay (lX X) (dtX X) k8 n9 [.ref v0, .int v8, .int 2] h2 (QI fun x10 h7 =>
    ((x5 = 0 → Wj X (k + k3 + k8) (n + n4 + n9) Q 107 [(0, .ref v0), (2, .int v2), (3, .int s0), (4, .int (v4 + Int32.ofInt 1)), (6, .int v6), (7, .int v7), (8, .int v8), (9, .int x5), (10, .int x10)] [.int 0, .int v5] h7) ∧
    (¬ x5 = 0 → Wj X (k + k3 + k8) (n + n4 + n9) Q 107 [(0, .ref v0), (2, .int v2), (3, .int s0), (4, .int (v4 + Int32.ofInt 1)), (6, .int v6), (7, .int v7), (8, .int v8), (9, .int x5), (10, .int x10)] [.int 1, .int v5] h7))))))) :
    Wj X k n Q 73 [(0, .ref v0), (2, .int v2), (4, .int v4), (5, .int v5), (6, .int v6), (7, .int v7), (8, .int v8)] [.int s0] h := by
  refine w_istore_n (pc := 73) C dX9_hard_73 (by decide) ?_
  refine w_iinc (pc := 74) C dX9_hard_74 rfl (by decide) ?_
  refine w_aload_n (pc := 77) C dX9_hard_77 rfl ?_
  refine w_iload (pc := 78) C dX9_hard_78 rfl ?_
  refine w_iconst (pc := 80) C (v := 1) dX9_hard_80 (by decide) ?_
  obtain ⟨f1, hv⟩ := hv
  obtain ⟨k3, n4, hm1, hm2, hv⟩ := hv
  refine w_cV1_2 (pc := 81) C cl_X9_234 lv_X9_hasWay (by decide) dX9_hard_81 (Nat.le_of_ble_eq_true rfl) (c := 9) rfl hm1 hm2 (St9_k f1) (hv.mono (fun v h2 hp => ?_))
  obtain ⟨x5, rfl, hv⟩ := hp
  refine w_istore (pc := 84) C dX9_hard_84 (by decide) ?_
  refine w_aload_n (pc := 86) C dX9_hard_86 rfl ?_
  refine w_iload (pc := 87) C dX9_hard_87 rfl ?_
  refine w_iconst (pc := 89) C (v := 2) dX9_hard_89 (by decide) ?_
  obtain ⟨f6, hv⟩ := hv
  obtain ⟨k8, n9, hm1, hm2, hv⟩ := hv
  refine w_cV1_2 (pc := 90) C cl_X9_234 lv_X9_hasWay (by decide) dX9_hard_90 (Nat.le_of_ble_eq_true rfl) (c := 9) rfl hm1 hm2 (St9_k f6) (hv.mono (fun v h7 hp => ?_))
  obtain ⟨x10, rfl, hv⟩ := hp
  refine w_istore (pc := 93) C dX9_hard_93 (by decide) ?_
  refine w_iload (pc := 95) C dX9_hard_95 rfl ?_
  refine w_iload (pc := 97) C dX9_hard_97 rfl ?_
  refine w_if_eq (pc := 99) C (tgt := 106) dX9_hard_99 (by decide) ?_
  obtain ⟨hv1, hv2⟩ := hv
  refine ⟨fun c11 => ?_, fun c11 => ?_⟩
  · have hv := hv1 c11
    refine w_iconst (pc := 106) C (v := 0) dX9_hard_106 (by decide) ?_
    refine w_sub ?_ hv
    exact ⟨rfl, rfl, rfl, rfl, rfl, rfl, rfl, rfl, rfl, trivial⟩
  · have hv := hv2 c11
    refine w_iconst (pc := 102) C (v := 1) dX9_hard_102 (by decide) ?_
    refine w_goto (pc := 103) C (tgt := 107) dX9_hard_103 (by decide) ?_
    refine w_sub ?_ hv
    exact ⟨rfl, rfl, rfl, rfl, rfl, rfl, rfl, rfl, rfl, trivial⟩
set_option maxRecDepth 20000 in
set_option maxHeartbeats 2000000 in
theorem V_X9_hard_107 {X : Ctx} (C : C_X9_hard X) {k n : Nat} {Q : Pq} {h : Hp} {v0 : Nat} {v2 v4 v6 v7 v8 v3 v9 v10 s0 s1 : Int32}
    (hv : ((v10 = 0 → Wj X k n Q 122 [(0, .ref v0), (2, .int v2), (3, .int v3), (4, .int v4), (5, .int (s0 + s1)), (7, .int v7), (8, .int v8), (9, .int v9), (10, .int v10)] [.int 0, .int v6] h) ∧
    (¬ v10 = 0 → Wj X k n Q 122 [(0, .ref v0), (2, .int v2), (3, .int v3), (4, .int v4), (5, .int (s0 + s1)), (7, .int v7), (8, .int v8), (9, .int v9), (10, .int v10)] [.int 1, .int v6] h))) :
    Wj X k n Q 107 [(0, .ref v0), (2, .int v2), (3, .int v3), (4, .int v4), (6, .int v6), (7, .int v7), (8, .int v8), (9, .int v9), (10, .int v10)] [.int s1, .int s0] h := by
  refine w_iadd (pc := 107) C dX9_hard_107 ?_
  refine w_istore (pc := 108) C dX9_hard_108 (by decide) ?_
  refine w_iload (pc := 110) C dX9_hard_110 rfl ?_
  refine w_iload (pc := 112) C dX9_hard_112 rfl ?_
  refine w_if_eq (pc := 114) C (tgt := 121) dX9_hard_114 (by decide) ?_
  obtain ⟨hv1, hv2⟩ := hv
  refine ⟨fun c1 => ?_, fun c1 => ?_⟩
  · have hv := hv1 c1
    refine w_iconst (pc := 121) C (v := 0) dX9_hard_121 (by decide) ?_
    refine w_sub ?_ hv
    exact ⟨rfl, rfl, rfl, rfl, rfl, rfl, rfl, rfl, rfl, trivial⟩
  · have hv := hv2 c1
    refine w_iconst (pc := 117) C (v := 1) dX9_hard_117 (by decide) ?_
    refine w_goto (pc := 118) C (tgt := 122) dX9_hard_118 (by decide) ?_
    refine w_sub ?_ hv
    exact ⟨rfl, rfl, rfl, rfl, rfl, rfl, rfl, rfl, rfl, trivial⟩
set_option maxRecDepth 20000 in
set_option maxHeartbeats 2000000 in
theorem V_X9_hard_122 {X : Ctx} (C : C_X9_hard X) {k n : Nat} {Q : Pq} {h : Hp} {v0 : Nat} {v2 v4 v7 v8 v3 v9 v10 v5 s0 s1 : Int32}
    (hv : ((¬ v9 = 0 → Wj X k n Q 46 [(0, .ref v0), (2, .int v2), (3, .int v3), (4, .int v4), (5, .int v5), (6, .int (s0 + s1)), (7, .int (v7 + 0)), (8, .int (v8 + Int32.ofInt 1))] [] h) ∧
    (v9 = 0 → ((v10 = 0 → Wj X k n Q 46 [(0, .ref v0), (2, .int v2), (3, .int v3), (4, .int v4), (5, .int v5), (6, .int (s0 + s1)), (7, .int (v7 + 1)), (8, .int (v8 + Int32.ofInt 1))] [] h) ∧
    (¬ v10 = 0 → Wj X k n Q 46 [(0, .ref v0), (2, .int v2), (3, .int v3), (4, .int v4), (5, .int v5), (6, .int (s0 + s1)), (7, .int (v7 + 0)), (8, .int (v8 + Int32.ofInt 1))] [] h))))) :
    Wj X k n Q 122 [(0, .ref v0), (2, .int v2), (3, .int v3), (4, .int v4), (5, .int v5), (7, .int v7), (8, .int v8), (9, .int v9), (10, .int v10)] [.int s1, .int s0] h := by
  refine w_iadd (pc := 122) C dX9_hard_122 ?_
  refine w_istore (pc := 123) C dX9_hard_123 (by decide) ?_
  refine w_iload (pc := 125) C dX9_hard_125 rfl ?_
  refine w_iload (pc := 127) C dX9_hard_127 rfl ?_
  refine w_if_ne (pc := 129) C (tgt := 137) dX9_hard_129 (by decide) ?_
  obtain ⟨hv1, hv2⟩ := hv
  refine ⟨fun c2 => ?_, fun c2 => ?_⟩
  · have hv := hv1 c2
    refine w_iconst (pc := 137) C (v := 0) dX9_hard_137 (by decide) ?_
    refine w_goto (pc := 138) C (tgt := 142) dX9_hard_138 (by decide) ?_
    refine w_iadd (pc := 142) C dX9_hard_142 ?_
    refine w_istore (pc := 143) C dX9_hard_143 (by decide) ?_
    refine w_iinc (pc := 145) C dX9_hard_145 rfl (by decide) ?_
    refine w_goto (pc := 148) C (tgt := 46) dX9_hard_148 (by decide) ?_
    refine w_sub ?_ hv
    exact ⟨rfl, rfl, rfl, rfl, rfl, rfl, rfl, rfl, trivial⟩
  · have hv := hv2 c2
    refine w_iload (pc := 132) C dX9_hard_132 rfl ?_
    refine w_if_eq (pc := 134) C (tgt := 141) dX9_hard_134 (by decide) ?_
    obtain ⟨hv1, hv2⟩ := hv
    refine ⟨fun c1 => ?_, fun c1 => ?_⟩
    · have hv := hv1 c1
      refine w_iconst (pc := 141) C (v := 1) dX9_hard_141 (by decide) ?_
      refine w_iadd (pc := 142) C dX9_hard_142 ?_
      refine w_istore (pc := 143) C dX9_hard_143 (by decide) ?_
      refine w_iinc (pc := 145) C dX9_hard_145 rfl (by decide) ?_
      refine w_goto (pc := 148) C (tgt := 46) dX9_hard_148 (by decide) ?_
      refine w_sub ?_ hv
      exact ⟨rfl, rfl, rfl, rfl, rfl, rfl, rfl, rfl, trivial⟩
    · have hv := hv2 c1
      refine w_iconst (pc := 137) C (v := 0) dX9_hard_137 (by decide) ?_
      refine w_goto (pc := 138) C (tgt := 142) dX9_hard_138 (by decide) ?_
      refine w_iadd (pc := 142) C dX9_hard_142 ?_
      refine w_istore (pc := 143) C dX9_hard_143 (by decide) ?_
      refine w_iinc (pc := 145) C dX9_hard_145 rfl (by decide) ?_
      refine w_goto (pc := 148) C (tgt := 46) dX9_hard_148 (by decide) ?_
      refine w_sub ?_ hv
      exact ⟨rfl, rfl, rfl, rfl, rfl, rfl, rfl, rfl, trivial⟩
theorem dX9_putInDifferential_0 : decode cX9_putInDifferential 0 = .ok (.aload_n 0, 1) := by decide +kernel
theorem dX9_putInDifferential_1 : decode cX9_putInDifferential 1 = .ok (.invokevirtual 211, 3) := by decide +kernel
theorem dX9_putInDifferential_4 : decode cX9_putInDifferential 4 = .ok (.astore_n 1, 1) := by decide +kernel
theorem dX9_putInDifferential_5 : decode cX9_putInDifferential 5 = .ok (.aload_n 0, 1) := by decide +kernel
theorem dX9_putInDifferential_6 : decode cX9_putInDifferential 6 = .ok (.getfield 40, 3) := by decide +kernel
theorem dX9_putInDifferential_9 : decode cX9_putInDifferential 9 = .ok (.getfield 223, 3) := by decide +kernel
theorem dX9_putInDifferential_12 : decode cX9_putInDifferential 12 = .ok (.istore_n 2, 1) := by decide +kernel
theorem dX9_putInDifferential_13 : decode cX9_putInDifferential 13 = .ok (.aload_n 0, 1) := by decide +kernel
theorem dX9_putInDifferential_14 : decode cX9_putInDifferential 14 = .ok (.getfield 82, 3) := by decide +kernel
theorem dX9_putInDifferential_17 : decode cX9_putInDifferential 17 = .ok (.aload_n 1, 1) := by decide +kernel
theorem dX9_putInDifferential_18 : decode cX9_putInDifferential 18 = .ok (.iload_n 2, 1) := by decide +kernel
theorem dX9_putInDifferential_19 : decode cX9_putInDifferential 19 = .ok (.iconst 0, 1) := by decide +kernel
theorem dX9_putInDifferential_20 : decode cX9_putInDifferential 20 = .ok (.invokevirtual 226, 3) := by decide +kernel
theorem dX9_putInDifferential_23 : decode cX9_putInDifferential 23 = .ok (.aload_n 1, 1) := by decide +kernel
theorem dX9_putInDifferential_24 : decode cX9_putInDifferential 24 = .ok (.iload_n 2, 1) := by decide +kernel
theorem dX9_putInDifferential_25 : decode cX9_putInDifferential 25 = .ok (.iconst 1, 1) := by decide +kernel
theorem dX9_putInDifferential_26 : decode cX9_putInDifferential 26 = .ok (.invokevirtual 226, 3) := by decide +kernel
theorem dX9_putInDifferential_29 : decode cX9_putInDifferential 29 = .ok (.aload_n 1, 1) := by decide +kernel
theorem dX9_putInDifferential_30 : decode cX9_putInDifferential 30 = .ok (.iload_n 2, 1) := by decide +kernel
theorem dX9_putInDifferential_31 : decode cX9_putInDifferential 31 = .ok (.iconst 2, 1) := by decide +kernel
theorem dX9_putInDifferential_32 : decode cX9_putInDifferential 32 = .ok (.invokevirtual 226, 3) := by decide +kernel
theorem dX9_putInDifferential_35 : decode cX9_putInDifferential 35 = .ok (.aload_n 1, 1) := by decide +kernel
theorem dX9_putInDifferential_36 : decode cX9_putInDifferential 36 = .ok (.iload_n 2, 1) := by decide +kernel
theorem dX9_putInDifferential_37 : decode cX9_putInDifferential 37 = .ok (.iconst 3, 1) := by decide +kernel
theorem dX9_putInDifferential_38 : decode cX9_putInDifferential 38 = .ok (.invokevirtual 226, 3) := by decide +kernel
theorem dX9_putInDifferential_41 : decode cX9_putInDifferential 41 = .ok (.aload_n 0, 1) := by decide +kernel
theorem dX9_putInDifferential_42 : decode cX9_putInDifferential 42 = .ok (.getfield 40, 3) := by decide +kernel
theorem dX9_putInDifferential_45 : decode cX9_putInDifferential 45 = .ok (.getfield 231, 3) := by decide +kernel
theorem dX9_putInDifferential_48 : decode cX9_putInDifferential 48 = .ok (.invokevirtual 329, 3) := by decide +kernel
theorem dX9_putInDifferential_51 : decode cX9_putInDifferential 51 = .ok (.pop, 1) := by decide +kernel
theorem dX9_putInDifferential_52 : decode cX9_putInDifferential 52 = .ok (.return_, 1) := by decide +kernel
set_option maxRecDepth 20000 in
set_option maxHeartbeats 2000000 in
theorem V_X9_putInDifferential_0 {X : Ctx} (C : C_X9_putInDifferential X) {k n : Nat} {Q : Pq} {h : Hp} {v0 : Nat}
    (hv : St9 h v0 ∧ (∃ k3 n4, k + k3 ≤ mcX X ∧ n + n4 ≤ msX X ∧ S_X9_fittedShelf (lX X) (dtX X) k3 n4 [.ref v0] h (QR fun x5 h2 =>
    St9 h2 v0 ∧ nn h2 v0 13 ∧ St5 h2 x5 ∧ St4 h2 (gp h2 v0 13) ∧ S_X4_putIn (lX X) (dtX X) 0 0 [.ref (gp h2 v0 13), .int (sWh h2 x5 (gi h2 (v0 + 7) 2) 0), .int (sWh h2 x5 (gi h2 (v0 + 7) 2) 1), .int (sWh h2 x5 (gi h2 (v0 + 7) 2) 2), .int (sWh h2 x5 (gi h2 (v0 + 7) 2) 3), .int (gi h2 (v0 + 7) 3)] h2 (QI fun x11 h10 =>
    Q none h10)))) :
    Wj X k n Q 0 [(0, .ref v0)] [] h := by
  refine w_aload_n (pc := 0) C dX9_putInDifferential_0 rfl ?_
  obtain ⟨f1, hv⟩ := hv
  obtain ⟨k3, n4, hm1, hm2, hv⟩ := hv
  refine w_cV1_0 (pc := 1) C cl_X9_211 lv_X9_fittedShelf (by decide) dX9_putInDifferential_1 (Nat.le_of_ble_eq_true rfl) (c := 9) rfl hm1 hm2 (St9_k f1) (hv.mono (fun v h2 hp => ?_))
  obtain ⟨x5, rfl, hv⟩ := hp
  refine w_astore_n (pc := 4) C dX9_putInDifferential_4 (by decide) ?_
  refine w_aload_n (pc := 5) C dX9_putInDifferential_5 rfl ?_
  obtain ⟨f6, hv⟩ := hv
  refine w_getR (pc := 6) C fl_X9_40 rfl dX9_putInDifferential_6 (St9_k f6) (St9_r4 f6) ?_
  refine w_getI (pc := 9) C fl_X9_223 rfl dX9_putInDifferential_9 (St1_k (St9_s4 f6)) ?_
  refine w_istore_n (pc := 12) C dX9_putInDifferential_12 (by decide) ?_
  refine w_aload_n (pc := 13) C dX9_putInDifferential_13 rfl ?_
  obtain ⟨f7, hv⟩ := hv
  refine w_getR (pc := 14) C fl_X9_82 rfl dX9_putInDifferential_14 (St9_k f6) f7 ?_
  refine w_aload_n (pc := 17) C dX9_putInDifferential_17 rfl ?_
  refine w_iload_n (pc := 18) C dX9_putInDifferential_18 rfl ?_
  refine w_iconst (pc := 19) C (v := 0) dX9_putInDifferential_19 (by decide) ?_
  obtain ⟨f8, hv⟩ := hv
  refine w_cV0_2 (pc := 20) C cl_X9_226 lv_X5_wheel (by decide) dX9_putInDifferential_20 (Nat.le_of_ble_eq_true rfl) (c := 5) rfl (St5_k f8) ((sf_X5_wheel (h := h2) f8).mono (fun v h9 hp => ?_))
  obtain ⟨e1, e2⟩ := hp
  rw [e1, e2]
  refine w_aload_n (pc := 23) C dX9_putInDifferential_23 rfl ?_
  refine w_iload_n (pc := 24) C dX9_putInDifferential_24 rfl ?_
  refine w_iconst (pc := 25) C (v := 1) dX9_putInDifferential_25 (by decide) ?_
  refine w_cV0_2 (pc := 26) C cl_X9_226 lv_X5_wheel (by decide) dX9_putInDifferential_26 (Nat.le_of_ble_eq_true rfl) (c := 5) rfl (St5_k f8) ((sf_X5_wheel (h := h2) f8).mono (fun v h9 hp => ?_))
  obtain ⟨e1, e2⟩ := hp
  rw [e1, e2]
  refine w_aload_n (pc := 29) C dX9_putInDifferential_29 rfl ?_
  refine w_iload_n (pc := 30) C dX9_putInDifferential_30 rfl ?_
  refine w_iconst (pc := 31) C (v := 2) dX9_putInDifferential_31 (by decide) ?_
  refine w_cV0_2 (pc := 32) C cl_X9_226 lv_X5_wheel (by decide) dX9_putInDifferential_32 (Nat.le_of_ble_eq_true rfl) (c := 5) rfl (St5_k f8) ((sf_X5_wheel (h := h2) f8).mono (fun v h9 hp => ?_))
  obtain ⟨e1, e2⟩ := hp
  rw [e1, e2]
  refine w_aload_n (pc := 35) C dX9_putInDifferential_35 rfl ?_
  refine w_iload_n (pc := 36) C dX9_putInDifferential_36 rfl ?_
  refine w_iconst (pc := 37) C (v := 3) dX9_putInDifferential_37 (by decide) ?_
  refine w_cV0_2 (pc := 38) C cl_X9_226 lv_X5_wheel (by decide) dX9_putInDifferential_38 (Nat.le_of_ble_eq_true rfl) (c := 5) rfl (St5_k f8) ((sf_X5_wheel (h := h2) f8).mono (fun v h9 hp => ?_))
  obtain ⟨e1, e2⟩ := hp
  rw [e1, e2]
  refine w_aload_n (pc := 41) C dX9_putInDifferential_41 rfl ?_
  refine w_getR (pc := 42) C fl_X9_40 rfl dX9_putInDifferential_42 (St9_k f6) (St9_r4 f6) ?_
  refine w_getI (pc := 45) C fl_X9_231 rfl dX9_putInDifferential_45 (St1_k (St9_s4 f6)) ?_
  obtain ⟨f9, hv⟩ := hv
  refine w_cV0_5 (pc := 48) C cl_X9_329 lv_X4_putIn (by decide) dX9_putInDifferential_48 (Nat.le_of_ble_eq_true rfl) (c := 4) rfl (St4_k f9) (hv.mono (fun v h10 hp => ?_))
  obtain ⟨x11, rfl, hv⟩ := hp
  refine w_pop (pc := 51) C dX9_putInDifferential_51 rfl ?_
  exact w_vret (pc := 52) C dX9_putInDifferential_52 hv
theorem dX9_windWay_0 : decode cX9_windWay 0 = .ok (.iload_n 1, 1) := by decide +kernel
theorem dX9_windWay_1 : decode cX9_windWay 1 = .ok (.iconst 1, 1) := by decide +kernel
theorem dX9_windWay_2 : decode cX9_windWay 2 = .ok (.if_icmp .ne 93, 3) := by decide +kernel
theorem dX9_windWay_5 : decode cX9_windWay 5 = .ok (.aload_n 0, 1) := by decide +kernel
theorem dX9_windWay_6 : decode cX9_windWay 6 = .ok (.getfield 82, 3) := by decide +kernel
theorem dX9_windWay_9 : decode cX9_windWay 9 = .ok (.aload_n 0, 1) := by decide +kernel
theorem dX9_windWay_10 : decode cX9_windWay 10 = .ok (.getfield 33, 3) := by decide +kernel
theorem dX9_windWay_13 : decode cX9_windWay 13 = .ok (.getfield 200, 3) := by decide +kernel
theorem dX9_windWay_16 : decode cX9_windWay 16 = .ok (.invokevirtual 326, 3) := by decide +kernel
theorem dX9_windWay_19 : decode cX9_windWay 19 = .ok (.pop, 1) := by decide +kernel
theorem dX9_windWay_20 : decode cX9_windWay 20 = .ok (.aload_n 0, 1) := by decide +kernel
theorem dX9_windWay_21 : decode cX9_windWay 21 = .ok (.getfield 82, 3) := by decide +kernel
theorem dX9_windWay_24 : decode cX9_windWay 24 = .ok (.aload_n 0, 1) := by decide +kernel
theorem dX9_windWay_25 : decode cX9_windWay 25 = .ok (.getfield 33, 3) := by decide +kernel
theorem dX9_windWay_28 : decode cX9_windWay 28 = .ok (.getfield 204, 3) := by decide +kernel
theorem dX9_windWay_31 : decode cX9_windWay 31 = .ok (.aload_n 0, 1) := by decide +kernel
theorem dX9_windWay_32 : decode cX9_windWay 32 = .ok (.getfield 33, 3) := by decide +kernel
theorem dX9_windWay_35 : decode cX9_windWay 35 = .ok (.getfield 205, 3) := by decide +kernel
theorem dX9_windWay_38 : decode cX9_windWay 38 = .ok (.iconst 0, 1) := by decide +kernel
theorem dX9_windWay_39 : decode cX9_windWay 39 = .ok (.invokevirtual 339, 3) := by decide +kernel
theorem dX9_windWay_42 : decode cX9_windWay 42 = .ok (.pop, 1) := by decide +kernel
theorem dX9_windWay_43 : decode cX9_windWay 43 = .ok (.aload_n 0, 1) := by decide +kernel
theorem dX9_windWay_44 : decode cX9_windWay 44 = .ok (.getfield 82, 3) := by decide +kernel
theorem dX9_windWay_47 : decode cX9_windWay 47 = .ok (.aload_n 0, 1) := by decide +kernel
theorem dX9_windWay_48 : decode cX9_windWay 48 = .ok (.getfield 33, 3) := by decide +kernel
theorem dX9_windWay_51 : decode cX9_windWay 51 = .ok (.getfield 201, 3) := by decide +kernel
theorem dX9_windWay_54 : decode cX9_windWay 54 = .ok (.invokevirtual 326, 3) := by decide +kernel
theorem dX9_windWay_57 : decode cX9_windWay 57 = .ok (.pop, 1) := by decide +kernel
theorem dX9_windWay_58 : decode cX9_windWay 58 = .ok (.aload_n 0, 1) := by decide +kernel
theorem dX9_windWay_59 : decode cX9_windWay 59 = .ok (.getfield 82, 3) := by decide +kernel
theorem dX9_windWay_62 : decode cX9_windWay 62 = .ok (.iconst 0, 1) := by decide +kernel
theorem dX9_windWay_63 : decode cX9_windWay 63 = .ok (.aload_n 0, 1) := by decide +kernel
theorem dX9_windWay_64 : decode cX9_windWay 64 = .ok (.getfield 33, 3) := by decide +kernel
theorem dX9_windWay_67 : decode cX9_windWay 67 = .ok (.getfield 208, 3) := by decide +kernel
theorem dX9_windWay_70 : decode cX9_windWay 70 = .ok (.invokestatic 366, 3) := by decide +kernel
theorem dX9_windWay_73 : decode cX9_windWay 73 = .ok (.aload_n 0, 1) := by decide +kernel
theorem dX9_windWay_74 : decode cX9_windWay 74 = .ok (.getfield 33, 3) := by decide +kernel
theorem dX9_windWay_77 : decode cX9_windWay 77 = .ok (.getfield 208, 3) := by decide +kernel
theorem dX9_windWay_80 : decode cX9_windWay 80 = .ok (.ifCond .ge 7, 3) := by decide +kernel
theorem dX9_windWay_83 : decode cX9_windWay 83 = .ok (.iconst 1, 1) := by decide +kernel
theorem dX9_windWay_84 : decode cX9_windWay 84 = .ok (.goto 4, 3) := by decide +kernel
theorem dX9_windWay_87 : decode cX9_windWay 87 = .ok (.iconst 0, 1) := by decide +kernel
theorem dX9_windWay_88 : decode cX9_windWay 88 = .ok (.invokevirtual 339, 3) := by decide +kernel
theorem dX9_windWay_91 : decode cX9_windWay 91 = .ok (.pop, 1) := by decide +kernel
theorem dX9_windWay_92 : decode cX9_windWay 92 = .ok (.goto 51, 3) := by decide +kernel
theorem dX9_windWay_95 : decode cX9_windWay 95 = .ok (.iload_n 1, 1) := by decide +kernel
theorem dX9_windWay_96 : decode cX9_windWay 96 = .ok (.ifCond .ne 10, 3) := by decide +kernel
theorem dX9_windWay_99 : decode cX9_windWay 99 = .ok (.aload_n 0, 1) := by decide +kernel
theorem dX9_windWay_100 : decode cX9_windWay 100 = .ok (.getfield 26, 3) := by decide +kernel
theorem dX9_windWay_103 : decode cX9_windWay 103 = .ok (.goto 10, 3) := by decide +kernel
theorem dX9_windWay_106 : decode cX9_windWay 106 = .ok (.aload_n 0, 1) := by decide +kernel
theorem dX9_windWay_107 : decode cX9_windWay 107 = .ok (.getfield 40, 3) := by decide +kernel
theorem dX9_windWay_110 : decode cX9_windWay 110 = .ok (.getfield 220, 3) := by decide +kernel
theorem dX9_windWay_113 : decode cX9_windWay 113 = .ok (.astore_n 2, 1) := by decide +kernel
theorem dX9_windWay_114 : decode cX9_windWay 114 = .ok (.aload_n 0, 1) := by decide +kernel
theorem dX9_windWay_115 : decode cX9_windWay 115 = .ok (.getfield 82, 3) := by decide +kernel
theorem dX9_windWay_118 : decode cX9_windWay 118 = .ok (.aload_n 2, 1) := by decide +kernel
theorem dX9_windWay_119 : decode cX9_windWay 119 = .ok (.getfield 187, 3) := by decide +kernel
theorem dX9_windWay_122 : decode cX9_windWay 122 = .ok (.invokevirtual 326, 3) := by decide +kernel
theorem dX9_windWay_125 : decode cX9_windWay 125 = .ok (.pop, 1) := by decide +kernel
theorem dX9_windWay_126 : decode cX9_windWay 126 = .ok (.aload_n 0, 1) := by decide +kernel
theorem dX9_windWay_127 : decode cX9_windWay 127 = .ok (.getfield 82, 3) := by decide +kernel
theorem dX9_windWay_130 : decode cX9_windWay 130 = .ok (.aload_n 2, 1) := by decide +kernel
theorem dX9_windWay_131 : decode cX9_windWay 131 = .ok (.getfield 190, 3) := by decide +kernel
theorem dX9_windWay_134 : decode cX9_windWay 134 = .ok (.aload_n 2, 1) := by decide +kernel
theorem dX9_windWay_135 : decode cX9_windWay 135 = .ok (.getfield 193, 3) := by decide +kernel
theorem dX9_windWay_138 : decode cX9_windWay 138 = .ok (.iconst 0, 1) := by decide +kernel
theorem dX9_windWay_139 : decode cX9_windWay 139 = .ok (.invokevirtual 339, 3) := by decide +kernel
theorem dX9_windWay_142 : decode cX9_windWay 142 = .ok (.pop, 1) := by decide +kernel
theorem dX9_windWay_143 : decode cX9_windWay 143 = .ok (.return_, 1) := by decide +kernel
set_option maxRecDepth 20000 in
set_option maxHeartbeats 2000000 in
theorem V_X9_windWay_0 {X : Ctx} (C : C_X9_windWay X) {k n : Nat} {Q : Pq} {h : Hp} {v0 : Nat} {v1 : Int32}
    (hv : ((¬ v1 = 1 → ((¬ v1 = 0 → St9 h v0 ∧ Wj X k n Q 113 [(0, .ref v0)] [.ref ((v0 + 7) + 1)] h) ∧
    (v1 = 0 → St9 h v0 ∧ Wj X k n Q 113 [(0, .ref v0)] [.ref (v0 + 5)] h))) ∧
    (v1 = 1 → St9 h v0 ∧ nn h v0 13 ∧ St4 h (gp h v0 13) ∧ S_X4_choose (lX X) (dtX X) 0 0 [.ref (gp h v0 13), .int (gi h (v0 + 6) 1)] h (QI fun x8 h7 =>
    St9 h7 v0 ∧ nn h7 v0 13 ∧ St4 h7 (gp h7 v0 13) ∧ S_X4_wind (lX X) (dtX X) 0 0 [.ref (gp h7 v0 13), .int (gi h7 (v0 + 6) 3), .int (gi h7 (v0 + 6) 4), .int 0] h7 (QI fun x13 h12 =>
    St9 h12 v0 ∧ nn h12 v0 13 ∧ St4 h12 (gp h12 v0 13) ∧ S_X4_choose (lX X) (dtX X) 0 0 [.ref (gp h12 v0 13), .int (gi h12 (v0 + 6) 2)] h12 (QI fun x18 h17 =>
    St9 h17 v0 ∧ nn h17 v0 13 ∧ ((0 ≤ (gi h17 (v0 + 6) 5) → Wj X k n Q 88 [] [.int 0, .int (abI (gi h17 (v0 + 6) 5)), .int 0, .ref (gp h17 v0 13)] h17) ∧
    (¬ 0 ≤ (gi h17 (v0 + 6) 5) → Wj X k n Q 88 [] [.int 1, .int (abI (gi h17 (v0 + 6) 5)), .int 0, .ref (gp h17 v0 13)] h17)))))))) :
    Wj X k n Q 0 [(0, .ref v0), (1, .int v1)] [] h := by
  refine w_iload_n (pc := 0) C dX9_windWay_0 rfl ?_
  refine w_iconst (pc := 1) C (v := 1) dX9_windWay_1 (by decide) ?_
  refine w_icmp_ne (pc := 2) C (tgt := 95) dX9_windWay_2 (by decide) ?_
  obtain ⟨hv1, hv2⟩ := hv
  refine ⟨fun c22 => ?_, fun c22 => ?_⟩
  · have hv := hv1 c22
    refine w_iload_n (pc := 95) C dX9_windWay_95 rfl ?_
    refine w_if_ne (pc := 96) C (tgt := 106) dX9_windWay_96 (by decide) ?_
    obtain ⟨hv1, hv2⟩ := hv
    refine ⟨fun c3 => ?_, fun c3 => ?_⟩
    · have hv := hv1 c3
      refine w_aload_n (pc := 106) C dX9_windWay_106 rfl ?_
      obtain ⟨f1, hv⟩ := hv
      refine w_getR (pc := 107) C fl_X9_40 rfl dX9_windWay_107 (St9_k f1) (St9_r4 f1) ?_
      refine w_getR (pc := 110) C fl_X9_220 rfl dX9_windWay_110 (St1_k (St9_s4 f1)) (St1_r0 (St9_s4 f1)) ?_
      refine w_sub ?_ hv
      exact ⟨rfl, trivial⟩
    · have hv := hv2 c3
      refine w_aload_n (pc := 99) C dX9_windWay_99 rfl ?_
      obtain ⟨f2, hv⟩ := hv
      refine w_getR (pc := 100) C fl_X9_26 rfl dX9_windWay_100 (St9_k f2) (St9_r2 f2) ?_
      refine w_goto (pc := 103) C (tgt := 113) dX9_windWay_103 (by decide) ?_
      refine w_sub ?_ hv
      exact ⟨rfl, trivial⟩
  · have hv := hv2 c22
    refine w_aload_n (pc := 5) C dX9_windWay_5 rfl ?_
    obtain ⟨f4, hv⟩ := hv
    obtain ⟨f5, hv⟩ := hv
    refine w_getR (pc := 6) C fl_X9_82 rfl dX9_windWay_6 (St9_k f4) f5 ?_
    refine w_aload_n (pc := 9) C dX9_windWay_9 rfl ?_
    refine w_getR (pc := 10) C fl_X9_33 rfl dX9_windWay_10 (St9_k f4) (St9_r3 f4) ?_
    refine w_getI (pc := 13) C fl_X9_200 rfl dX9_windWay_13 (St9_k3 f4) ?_
    obtain ⟨f6, hv⟩ := hv
    refine w_cV0_1 (pc := 16) C cl_X9_326 lv_X4_choose (by decide) dX9_windWay_16 (Nat.le_of_ble_eq_true rfl) (c := 4) rfl (St4_k f6) (hv.mono (fun v h7 hp => ?_))
    obtain ⟨x8, rfl, hv⟩ := hp
    refine w_pop (pc := 19) C dX9_windWay_19 rfl ?_
    refine w_aload_n (pc := 20) C dX9_windWay_20 rfl ?_
    obtain ⟨f9, hv⟩ := hv
    obtain ⟨f10, hv⟩ := hv
    refine w_getR (pc := 21) C fl_X9_82 rfl dX9_windWay_21 (St9_k f9) f10 ?_
    refine w_aload_n (pc := 24) C dX9_windWay_24 rfl ?_
    refine w_getR (pc := 25) C fl_X9_33 rfl dX9_windWay_25 (St9_k f9) (St9_r3 f9) ?_
    refine w_getI (pc := 28) C fl_X9_204 rfl dX9_windWay_28 (St9_k3 f9) ?_
    refine w_aload_n (pc := 31) C dX9_windWay_31 rfl ?_
    refine w_getR (pc := 32) C fl_X9_33 rfl dX9_windWay_32 (St9_k f9) (St9_r3 f9) ?_
    refine w_getI (pc := 35) C fl_X9_205 rfl dX9_windWay_35 (St9_k3 f9) ?_
    refine w_iconst (pc := 38) C (v := 0) dX9_windWay_38 (by decide) ?_
    obtain ⟨f11, hv⟩ := hv
    refine w_cV0_3 (pc := 39) C cl_X9_339 lv_X4_wind (by decide) dX9_windWay_39 (Nat.le_of_ble_eq_true rfl) (c := 4) rfl (St4_k f11) (hv.mono (fun v h12 hp => ?_))
    obtain ⟨x13, rfl, hv⟩ := hp
    refine w_pop (pc := 42) C dX9_windWay_42 rfl ?_
    refine w_aload_n (pc := 43) C dX9_windWay_43 rfl ?_
    obtain ⟨f14, hv⟩ := hv
    obtain ⟨f15, hv⟩ := hv
    refine w_getR (pc := 44) C fl_X9_82 rfl dX9_windWay_44 (St9_k f14) f15 ?_
    refine w_aload_n (pc := 47) C dX9_windWay_47 rfl ?_
    refine w_getR (pc := 48) C fl_X9_33 rfl dX9_windWay_48 (St9_k f14) (St9_r3 f14) ?_
    refine w_getI (pc := 51) C fl_X9_201 rfl dX9_windWay_51 (St9_k3 f14) ?_
    obtain ⟨f16, hv⟩ := hv
    refine w_cV0_1 (pc := 54) C cl_X9_326 lv_X4_choose (by decide) dX9_windWay_54 (Nat.le_of_ble_eq_true rfl) (c := 4) rfl (St4_k f16) (hv.mono (fun v h17 hp => ?_))
    obtain ⟨x18, rfl, hv⟩ := hp
    refine w_pop (pc := 57) C dX9_windWay_57 rfl ?_
    refine w_aload_n (pc := 58) C dX9_windWay_58 rfl ?_
    obtain ⟨f19, hv⟩ := hv
    obtain ⟨f20, hv⟩ := hv
    refine w_getR (pc := 59) C fl_X9_82 rfl dX9_windWay_59 (St9_k f19) f20 ?_
    refine w_iconst (pc := 62) C (v := 0) dX9_windWay_62 (by decide) ?_
    refine w_aload_n (pc := 63) C dX9_windWay_63 rfl ?_
    refine w_getR (pc := 64) C fl_X9_33 rfl dX9_windWay_64 (St9_k f19) (St9_r3 f19) ?_
    refine w_getI (pc := 67) C fl_X9_208 rfl dX9_windWay_67 (St9_k3 f19) ?_
    refine w_cS0_1 (pc := 70) C cl_X9_366 ls_J9_abs_0f7a4 (by decide) dX9_windWay_70 (Nat.le_of_ble_eq_true rfl) ((sf_J9_abs_0f7a4 (h := h17) ).mono (fun v h9 hp => ?_))
    obtain ⟨e1, e2⟩ := hp
    rw [e1, e2]
    refine w_aload_n (pc := 73) C dX9_windWay_73 rfl ?_
    refine w_getR (pc := 74) C fl_X9_33 rfl dX9_windWay_74 (St9_k f19) (St9_r3 f19) ?_
    refine w_getI (pc := 77) C fl_X9_208 rfl dX9_windWay_77 (St9_k3 f19) ?_
    refine w_if_ge (pc := 80) C (tgt := 87) dX9_windWay_80 (by decide) ?_
    obtain ⟨hv1, hv2⟩ := hv
    refine ⟨fun c21 => ?_, fun c21 => ?_⟩
    · have hv := hv1 c21
      refine w_iconst (pc := 87) C (v := 0) dX9_windWay_87 (by decide) ?_
      refine w_sub ?_ hv
      exact trivial
    · have hv := hv2 c21
      refine w_iconst (pc := 83) C (v := 1) dX9_windWay_83 (by decide) ?_
      refine w_goto (pc := 84) C (tgt := 88) dX9_windWay_84 (by decide) ?_
      refine w_sub ?_ hv
      exact trivial
set_option maxRecDepth 20000 in
set_option maxHeartbeats 2000000 in
theorem V_X9_windWay_88 {X : Ctx} (C : C_X9_windWay X) {k n : Nat} {Q : Pq} {h : Hp} {s0 : Nat} {s1 s2 s3 : Int32}
    (hv : St4 h s0 ∧ S_X4_wind (lX X) (dtX X) 0 0 [.ref s0, .int s1, .int s2, .int s3] h (QI fun x3 h2 =>
    Q none h2)) :
    Wj X k n Q 88 [] [.int s3, .int s2, .int s1, .ref s0] h := by
  obtain ⟨f1, hv⟩ := hv
  refine w_cV0_3 (pc := 88) C cl_X9_339 lv_X4_wind (by decide) dX9_windWay_88 (Nat.le_of_ble_eq_true rfl) (c := 4) rfl (St4_k f1) (hv.mono (fun v h2 hp => ?_))
  obtain ⟨x3, rfl, hv⟩ := hp
  refine w_pop (pc := 91) C dX9_windWay_91 rfl ?_
  refine w_goto (pc := 92) C (tgt := 143) dX9_windWay_92 (by decide) ?_
  exact w_vret (pc := 143) C dX9_windWay_143 hv
set_option maxRecDepth 20000 in
set_option maxHeartbeats 2000000 in
theorem V_X9_windWay_113 {X : Ctx} (C : C_X9_windWay X) {k n : Nat} {Q : Pq} {h : Hp} {v0 s0 : Nat}
    (hv : St9 h v0 ∧ nn h v0 13 ∧ kd h s0 = 7 ∧ St4 h (gp h v0 13) ∧ S_X4_choose (lX X) (dtX X) 0 0 [.ref (gp h v0 13), .int (gi h s0 1)] h (QI fun x6 h5 =>
    St9 h5 v0 ∧ nn h5 v0 13 ∧ kd h5 s0 = 7 ∧ St4 h5 (gp h5 v0 13) ∧ S_X4_wind (lX X) (dtX X) 0 0 [.ref (gp h5 v0 13), .int (gi h5 s0 2), .int (gi h5 s0 3), .int 0] h5 (QI fun x12 h11 =>
    Q none h11))) :
    Wj X k n Q 113 [(0, .ref v0)] [.ref s0] h := by
  refine w_astore_n (pc := 113) C dX9_windWay_113 (by decide) ?_
  refine w_aload_n (pc := 114) C dX9_windWay_114 rfl ?_
  obtain ⟨f1, hv⟩ := hv
  obtain ⟨f2, hv⟩ := hv
  refine w_getR (pc := 115) C fl_X9_82 rfl dX9_windWay_115 (St9_k f1) f2 ?_
  refine w_aload_n (pc := 118) C dX9_windWay_118 rfl ?_
  obtain ⟨f3, hv⟩ := hv
  refine w_getI (pc := 119) C fl_X9_187 rfl dX9_windWay_119 f3 ?_
  obtain ⟨f4, hv⟩ := hv
  refine w_cV0_1 (pc := 122) C cl_X9_326 lv_X4_choose (by decide) dX9_windWay_122 (Nat.le_of_ble_eq_true rfl) (c := 4) rfl (St4_k f4) (hv.mono (fun v h5 hp => ?_))
  obtain ⟨x6, rfl, hv⟩ := hp
  refine w_pop (pc := 125) C dX9_windWay_125 rfl ?_
  refine w_aload_n (pc := 126) C dX9_windWay_126 rfl ?_
  obtain ⟨f7, hv⟩ := hv
  obtain ⟨f8, hv⟩ := hv
  refine w_getR (pc := 127) C fl_X9_82 rfl dX9_windWay_127 (St9_k f7) f8 ?_
  refine w_aload_n (pc := 130) C dX9_windWay_130 rfl ?_
  obtain ⟨f9, hv⟩ := hv
  refine w_getI (pc := 131) C fl_X9_190 rfl dX9_windWay_131 f9 ?_
  refine w_aload_n (pc := 134) C dX9_windWay_134 rfl ?_
  refine w_getI (pc := 135) C fl_X9_193 rfl dX9_windWay_135 f9 ?_
  refine w_iconst (pc := 138) C (v := 0) dX9_windWay_138 (by decide) ?_
  obtain ⟨f10, hv⟩ := hv
  refine w_cV0_3 (pc := 139) C cl_X9_339 lv_X4_wind (by decide) dX9_windWay_139 (Nat.le_of_ble_eq_true rfl) (c := 4) rfl (St4_k f10) (hv.mono (fun v h11 hp => ?_))
  obtain ⟨x12, rfl, hv⟩ := hp
  refine w_pop (pc := 142) C dX9_windWay_142 rfl ?_
  exact w_vret (pc := 143) C dX9_windWay_143 hv
theorem dX9_divides_0 : decode cX9_divides 0 = .ok (.iload_n 1, 1) := by decide +kernel
theorem dX9_divides_1 : decode cX9_divides 1 = .ok (.iconst 2, 1) := by decide +kernel
theorem dX9_divides_2 : decode cX9_divides 2 = .ok (.bipush 60, 2) := by decide +kernel
theorem dX9_divides_4 : decode cX9_divides 4 = .ok (.invokestatic 247, 3) := by decide +kernel
theorem dX9_divides_7 : decode cX9_divides 7 = .ok (.ifCond .eq 12, 3) := by decide +kernel
theorem dX9_divides_10 : decode cX9_divides 10 = .ok (.iload_n 2, 1) := by decide +kernel
theorem dX9_divides_11 : decode cX9_divides 11 = .ok (.iconst 0, 1) := by decide +kernel
theorem dX9_divides_12 : decode cX9_divides 12 = .ok (.iconst 2, 1) := by decide +kernel
theorem dX9_divides_13 : decode cX9_divides 13 = .ok (.invokestatic 247, 3) := by decide +kernel
theorem dX9_divides_16 : decode cX9_divides 16 = .ok (.ifCond .ne 5, 3) := by decide +kernel
theorem dX9_divides_19 : decode cX9_divides 19 = .ok (.iconst (-1), 1) := by decide +kernel
theorem dX9_divides_20 : decode cX9_divides 20 = .ok (.ireturn, 1) := by decide +kernel
theorem dX9_divides_21 : decode cX9_divides 21 = .ok (.aload_n 0, 1) := by decide +kernel
theorem dX9_divides_22 : decode cX9_divides 22 = .ok (.iload_n 1, 1) := by decide +kernel
theorem dX9_divides_23 : decode cX9_divides 23 = .ok (.iload_n 2, 1) := by decide +kernel
theorem dX9_divides_24 : decode cX9_divides 24 = .ok (.invokevirtual 234, 3) := by decide +kernel
theorem dX9_divides_27 : decode cX9_divides 27 = .ok (.ifCond .ne 6, 3) := by decide +kernel
theorem dX9_divides_30 : decode cX9_divides 30 = .ok (.bipush (-2), 2) := by decide +kernel
theorem dX9_divides_32 : decode cX9_divides 32 = .ok (.ireturn, 1) := by decide +kernel
theorem dX9_divides_33 : decode cX9_divides 33 = .ok (.aload_n 0, 1) := by decide +kernel
theorem dX9_divides_34 : decode cX9_divides 34 = .ok (.getfield 82, 3) := by decide +kernel
theorem dX9_divides_37 : decode cX9_divides 37 = .ok (.aload_n 0, 1) := by decide +kernel
theorem dX9_divides_38 : decode cX9_divides 38 = .ok (.getfield 78, 3) := by decide +kernel
theorem dX9_divides_41 : decode cX9_divides 41 = .ok (.invokevirtual 99, 3) := by decide +kernel
theorem dX9_divides_44 : decode cX9_divides 44 = .ok (.aload_n 0, 1) := by decide +kernel
theorem dX9_divides_45 : decode cX9_divides 45 = .ok (.getfield 82, 3) := by decide +kernel
theorem dX9_divides_48 : decode cX9_divides 48 = .ok (.invokevirtual 349, 3) := by decide +kernel
theorem dX9_divides_51 : decode cX9_divides 51 = .ok (.pop, 1) := by decide +kernel
theorem dX9_divides_52 : decode cX9_divides 52 = .ok (.aload_n 0, 1) := by decide +kernel
theorem dX9_divides_53 : decode cX9_divides 53 = .ok (.getfield 82, 3) := by decide +kernel
theorem dX9_divides_56 : decode cX9_divides 56 = .ok (.invokevirtual 336, 3) := by decide +kernel
theorem dX9_divides_59 : decode cX9_divides 59 = .ok (.pop, 1) := by decide +kernel
theorem dX9_divides_60 : decode cX9_divides 60 = .ok (.iload_n 2, 1) := by decide +kernel
theorem dX9_divides_61 : decode cX9_divides 61 = .ok (.iconst 2, 1) := by decide +kernel
theorem dX9_divides_62 : decode cX9_divides 62 = .ok (.if_icmp .ne 7, 3) := by decide +kernel
theorem dX9_divides_65 : decode cX9_divides 65 = .ok (.aload_n 0, 1) := by decide +kernel
theorem dX9_divides_66 : decode cX9_divides 66 = .ok (.invokevirtual 352, 3) := by decide +kernel
theorem dX9_divides_69 : decode cX9_divides 69 = .ok (.iconst 0, 1) := by decide +kernel
theorem dX9_divides_70 : decode cX9_divides 70 = .ok (.istore_n 3, 1) := by decide +kernel
theorem dX9_divides_71 : decode cX9_divides 71 = .ok (.iload_n 3, 1) := by decide +kernel
theorem dX9_divides_72 : decode cX9_divides 72 = .ok (.iload_n 1, 1) := by decide +kernel
theorem dX9_divides_73 : decode cX9_divides 73 = .ok (.if_icmp .ge 22, 3) := by decide +kernel
theorem dX9_divides_76 : decode cX9_divides 76 = .ok (.aload_n 0, 1) := by decide +kernel
theorem dX9_divides_77 : decode cX9_divides 77 = .ok (.getfield 82, 3) := by decide +kernel
theorem dX9_divides_80 : decode cX9_divides 80 = .ok (.invokevirtual 346, 3) := by decide +kernel
theorem dX9_divides_83 : decode cX9_divides 83 = .ok (.pop, 1) := by decide +kernel
theorem dX9_divides_84 : decode cX9_divides 84 = .ok (.aload_n 0, 1) := by decide +kernel
theorem dX9_divides_85 : decode cX9_divides 85 = .ok (.iload_n 2, 1) := by decide +kernel
theorem dX9_divides_86 : decode cX9_divides 86 = .ok (.invokevirtual 355, 3) := by decide +kernel
theorem dX9_divides_89 : decode cX9_divides 89 = .ok (.iinc 3 1, 3) := by decide +kernel
theorem dX9_divides_92 : decode cX9_divides 92 = .ok (.goto (-21), 3) := by decide +kernel
theorem dX9_divides_95 : decode cX9_divides 95 = .ok (.aload_n 0, 1) := by decide +kernel
theorem dX9_divides_96 : decode cX9_divides 96 = .ok (.iconst 0, 1) := by decide +kernel
theorem dX9_divides_97 : decode cX9_divides 97 = .ok (.invokevirtual 107, 3) := by decide +kernel
theorem dX9_divides_100 : decode cX9_divides 100 = .ok (.pop, 1) := by decide +kernel
theorem dX9_divides_101 : decode cX9_divides 101 = .ok (.aload_n 0, 1) := by decide +kernel
theorem dX9_divides_102 : decode cX9_divides 102 = .ok (.getfield 47, 3) := by decide +kernel
theorem dX9_divides_105 : decode cX9_divides 105 = .ok (.aload_n 0, 1) := by decide +kernel
theorem dX9_divides_106 : decode cX9_divides 106 = .ok (.getfield 78, 3) := by decide +kernel
theorem dX9_divides_109 : decode cX9_divides 109 = .ok (.invokevirtual 358, 3) := by decide +kernel
theorem dX9_divides_112 : decode cX9_divides 112 = .ok (.aload_n 0, 1) := by decide +kernel
theorem dX9_divides_113 : decode cX9_divides 113 = .ok (.getfield 19, 3) := by decide +kernel
theorem dX9_divides_116 : decode cX9_divides 116 = .ok (.invokevirtual 158, 3) := by decide +kernel
theorem dX9_divides_119 : decode cX9_divides 119 = .ok (.aload_n 0, 1) := by decide +kernel
theorem dX9_divides_120 : decode cX9_divides 120 = .ok (.getfield 19, 3) := by decide +kernel
theorem dX9_divides_123 : decode cX9_divides 123 = .ok (.aload_n 0, 1) := by decide +kernel
theorem dX9_divides_124 : decode cX9_divides 124 = .ok (.getfield 78, 3) := by decide +kernel
theorem dX9_divides_127 : decode cX9_divides 127 = .ok (.getfield 343, 3) := by decide +kernel
theorem dX9_divides_130 : decode cX9_divides 130 = .ok (.getfield 297, 3) := by decide +kernel
theorem dX9_divides_133 : decode cX9_divides 133 = .ok (.lconst 0, 1) := by decide +kernel
theorem dX9_divides_134 : decode cX9_divides 134 = .ok (.lcmp, 1) := by decide +kernel
theorem dX9_divides_135 : decode cX9_divides 135 = .ok (.ifCond .ne 7, 3) := by decide +kernel
theorem dX9_divides_138 : decode cX9_divides 138 = .ok (.lconst 1, 1) := by decide +kernel
theorem dX9_divides_139 : decode cX9_divides 139 = .ok (.goto 4, 3) := by decide +kernel
theorem dX9_divides_142 : decode cX9_divides 142 = .ok (.lconst 0, 1) := by decide +kernel
theorem dX9_divides_143 : decode cX9_divides 143 = .ok (.invokevirtual 164, 3) := by decide +kernel
theorem dX9_divides_146 : decode cX9_divides 146 = .ok (.aload_n 0, 1) := by decide +kernel
theorem dX9_divides_147 : decode cX9_divides 147 = .ok (.getfield 19, 3) := by decide +kernel
theorem dX9_divides_150 : decode cX9_divides 150 = .ok (.aload_n 0, 1) := by decide +kernel
theorem dX9_divides_151 : decode cX9_divides 151 = .ok (.getfield 47, 3) := by decide +kernel
theorem dX9_divides_154 : decode cX9_divides 154 = .ok (.getfield 360, 3) := by decide +kernel
theorem dX9_divides_157 : decode cX9_divides 157 = .ok (.iconst 1, 1) := by decide +kernel
theorem dX9_divides_158 : decode cX9_divides 158 = .ok (.if_icmp .ne 7, 3) := by decide +kernel
theorem dX9_divides_161 : decode cX9_divides 161 = .ok (.lconst 1, 1) := by decide +kernel
theorem dX9_divides_162 : decode cX9_divides 162 = .ok (.goto 4, 3) := by decide +kernel
theorem dX9_divides_165 : decode cX9_divides 165 = .ok (.lconst 0, 1) := by decide +kernel
theorem dX9_divides_166 : decode cX9_divides 166 = .ok (.invokevirtual 164, 3) := by decide +kernel
theorem dX9_divides_169 : decode cX9_divides 169 = .ok (.aload_n 0, 1) := by decide +kernel
theorem dX9_divides_170 : decode cX9_divides 170 = .ok (.getfield 78, 3) := by decide +kernel
theorem dX9_divides_173 : decode cX9_divides 173 = .ok (.getfield 363, 3) := by decide +kernel
theorem dX9_divides_176 : decode cX9_divides 176 = .ok (.ireturn, 1) := by decide +kernel
set_option maxRecDepth 20000 in
set_option maxHeartbeats 2000000 in
theorem V_X9_divides_0 {X : Ctx} (C : C_X9_divides X) {k n : Nat} {Q : Pq} {h : Hp} {v0 : Nat} {v1 v2 : Int32}
    (hv : (((bt v1 2 60) = 0 → Q (some (.int (-1))) h) ∧
    (¬ (bt v1 2 60) = 0 → ((¬ (bt v2 0 2) = 0 → St9 h v0 ∧ (∃ k3 n4, k + k3 ≤ mcX X ∧ n + n4 ≤ msX X ∧ S_X9_hasWay (lX X) (dtX X) k3 n4 [.ref v0, .int v1, .int v2] h (QI fun x5 h2 =>
    ((¬ x5 = 0 → St9 h2 v0 ∧ nn h2 v0 13 ∧ nn h2 v0 12 ∧ St4 h2 (gp h2 v0 13) ∧ S_X4_copyFrom (lX X) (dtX X) 0 0 [.ref (gp h2 v0 13), .ref (gp h2 v0 12)] h2 (QV fun h10 =>
    St9 h10 v0 ∧ nn h10 v0 13 ∧ St4 h10 (gp h10 v0 13) ∧ S_X4_wipeAll (lX X) (dtX X) 0 0 [.ref (gp h10 v0 13)] h10 (QI fun x15 h14 =>
    St9 h14 v0 ∧ nn h14 v0 13 ∧ St4 h14 (gp h14 v0 13) ∧ S_X4_takeOut (lX X) (dtX X) 0 0 [.ref (gp h14 v0 13)] h14 (QI fun x20 h19 =>
    ((¬ v2 = 2 → Wj X (k + k3) (n + n4) Q 71 [(0, .ref v0), (1, .int v1), (2, .int v2), (3, .int 0)] [] h19) ∧
    (v2 = 2 → St9 h19 v0 ∧ (∃ k23 n24, k + k3 + k23 ≤ mcX X ∧ n + n4 + n24 ≤ msX X ∧ S_X9_putInDifferential (lX X) (dtX X) k23 n24 [.ref v0] h19 (QV fun h22 =>
    Wj X (k + k3 + k23) (n + n4 + n24) Q 71 [(0, .ref v0), (1, .int v1), (2, .int v2), (3, .int 0)] [] h22)))))))) ∧
    (x5 = 0 → Q (some (.int (-2))) h2))))) ∧
    ((bt v2 0 2) = 0 → Q (some (.int (-1))) h))))) :
    Wj X k n Q 0 [(0, .ref v0), (1, .int v1), (2, .int v2)] [] h := by
  refine w_iload_n (pc := 0) C dX9_divides_0 rfl ?_
  refine w_iconst (pc := 1) C (v := 2) dX9_divides_1 (by decide) ?_
  refine w_bipush (pc := 2) C (v := 60) dX9_divides_2 (by decide) ?_
  refine w_cS0_3 (pc := 4) C cl_X9_247 ls_X9_isBetween (by decide) dX9_divides_4 (Nat.le_of_ble_eq_true rfl) ((sf_X9_isBetween (h := h) ).mono (fun v h9 hp => ?_))
  obtain ⟨e1, e2⟩ := hp
  rw [e1, e2]
  refine w_if_eq (pc := 7) C (tgt := 19) dX9_divides_7 (by decide) ?_
  obtain ⟨hv1, hv2⟩ := hv
  refine ⟨fun c28 => ?_, fun c28 => ?_⟩
  · have hv := hv1 c28
    refine w_iconst (pc := 19) C (v := (-1)) dX9_divides_19 (by decide) ?_
    exact w_iret (pc := 20) C dX9_divides_20 hv
  · have hv := hv2 c28
    refine w_iload_n (pc := 10) C dX9_divides_10 rfl ?_
    refine w_iconst (pc := 11) C (v := 0) dX9_divides_11 (by decide) ?_
    refine w_iconst (pc := 12) C (v := 2) dX9_divides_12 (by decide) ?_
    refine w_cS0_3 (pc := 13) C cl_X9_247 ls_X9_isBetween (by decide) dX9_divides_13 (Nat.le_of_ble_eq_true rfl) ((sf_X9_isBetween (h := h) ).mono (fun v h9 hp => ?_))
    obtain ⟨e1, e2⟩ := hp
    rw [e1, e2]
    refine w_if_ne (pc := 16) C (tgt := 21) dX9_divides_16 (by decide) ?_
    obtain ⟨hv1, hv2⟩ := hv
    refine ⟨fun c27 => ?_, fun c27 => ?_⟩
    · have hv := hv1 c27
      refine w_aload_n (pc := 21) C dX9_divides_21 rfl ?_
      refine w_iload_n (pc := 22) C dX9_divides_22 rfl ?_
      refine w_iload_n (pc := 23) C dX9_divides_23 rfl ?_
      obtain ⟨f1, hv⟩ := hv
      obtain ⟨k3, n4, hm1, hm2, hv⟩ := hv
      refine w_cV1_2 (pc := 24) C cl_X9_234 lv_X9_hasWay (by decide) dX9_divides_24 (Nat.le_of_ble_eq_true rfl) (c := 9) rfl hm1 hm2 (St9_k f1) (hv.mono (fun v h2 hp => ?_))
      obtain ⟨x5, rfl, hv⟩ := hp
      refine w_if_ne (pc := 27) C (tgt := 33) dX9_divides_27 (by decide) ?_
      obtain ⟨hv1, hv2⟩ := hv
      refine ⟨fun c26 => ?_, fun c26 => ?_⟩
      · have hv := hv1 c26
        refine w_aload_n (pc := 33) C dX9_divides_33 rfl ?_
        obtain ⟨f6, hv⟩ := hv
        obtain ⟨f7, hv⟩ := hv
        refine w_getR (pc := 34) C fl_X9_82 rfl dX9_divides_34 (St9_k f6) f7 ?_
        refine w_aload_n (pc := 37) C dX9_divides_37 rfl ?_
        obtain ⟨f8, hv⟩ := hv
        refine w_getR (pc := 38) C fl_X9_78 rfl dX9_divides_38 (St9_k f6) f8 ?_
        obtain ⟨f9, hv⟩ := hv
        refine w_cV0_1 (pc := 41) C cl_X9_99 lv_X4_copyFrom (by decide) dX9_divides_41 (Nat.le_of_ble_eq_true rfl) (c := 4) rfl (St4_k f9) (hv.mono (fun v h10 hp => ?_))
        obtain ⟨rfl, hv⟩ := hp
        refine w_aload_n (pc := 44) C dX9_divides_44 rfl ?_
        obtain ⟨f11, hv⟩ := hv
        obtain ⟨f12, hv⟩ := hv
        refine w_getR (pc := 45) C fl_X9_82 rfl dX9_divides_45 (St9_k f11) f12 ?_
        obtain ⟨f13, hv⟩ := hv
        refine w_cV0_0 (pc := 48) C cl_X9_349 lv_X4_wipeAll (by decide) dX9_divides_48 (Nat.le_of_ble_eq_true rfl) (c := 4) rfl (St4_k f13) (hv.mono (fun v h14 hp => ?_))
        obtain ⟨x15, rfl, hv⟩ := hp
        refine w_pop (pc := 51) C dX9_divides_51 rfl ?_
        refine w_aload_n (pc := 52) C dX9_divides_52 rfl ?_
        obtain ⟨f16, hv⟩ := hv
        obtain ⟨f17, hv⟩ := hv
        refine w_getR (pc := 53) C fl_X9_82 rfl dX9_divides_53 (St9_k f16) f17 ?_
        obtain ⟨f18, hv⟩ := hv
        refine w_cV0_0 (pc := 56) C cl_X9_336 lv_X4_takeOut (by decide) dX9_divides_56 (Nat.le_of_ble_eq_true rfl) (c := 4) rfl (St4_k f18) (hv.mono (fun v h19 hp => ?_))
        obtain ⟨x20, rfl, hv⟩ := hp
        refine w_pop (pc := 59) C dX9_divides_59 rfl ?_
        refine w_iload_n (pc := 60) C dX9_divides_60 rfl ?_
        refine w_iconst (pc := 61) C (v := 2) dX9_divides_61 (by decide) ?_
        refine w_icmp_ne (pc := 62) C (tgt := 69) dX9_divides_62 (by decide) ?_
        obtain ⟨hv1, hv2⟩ := hv
        refine ⟨fun c25 => ?_, fun c25 => ?_⟩
        · have hv := hv1 c25
          refine w_iconst (pc := 69) C (v := 0) dX9_divides_69 (by decide) ?_
          refine w_istore_n (pc := 70) C dX9_divides_70 (by decide) ?_
          refine w_sub ?_ hv
          exact ⟨rfl, rfl, rfl, rfl, trivial⟩
        · have hv := hv2 c25
          refine w_aload_n (pc := 65) C dX9_divides_65 rfl ?_
          obtain ⟨f21, hv⟩ := hv
          obtain ⟨k23, n24, hm1, hm2, hv⟩ := hv
          refine w_cV1_0 (pc := 66) C cl_X9_352 lv_X9_putInDifferential (by decide) dX9_divides_66 (Nat.le_of_ble_eq_true rfl) (c := 9) rfl hm1 hm2 (St9_k f21) (hv.mono (fun v h22 hp => ?_))
          obtain ⟨rfl, hv⟩ := hp
          refine w_iconst (pc := 69) C (v := 0) dX9_divides_69 (by decide) ?_
          refine w_istore_n (pc := 70) C dX9_divides_70 (by decide) ?_
          refine w_sub ?_ hv
          exact ⟨rfl, rfl, rfl, rfl, trivial⟩
      · have hv := hv2 c26
        refine w_bipush (pc := 30) C (v := (-2)) dX9_divides_30 (by decide) ?_
        exact w_iret (pc := 32) C dX9_divides_32 hv
    · have hv := hv2 c27
      refine w_iconst (pc := 19) C (v := (-1)) dX9_divides_19 (by decide) ?_
      exact w_iret (pc := 20) C dX9_divides_20 hv
set_option maxRecDepth 20000 in
set_option maxHeartbeats 2000000 in
theorem V_X9_divides_71 {X : Ctx} (C : C_X9_divides X) {k n : Nat} {Q : Pq} {h : Hp} {v0 : Nat} {v1 v2 v3 : Int32}
    (hv : ((v1 ≤ v3 → St9 h v0 ∧ (∃ k3 n4, k + k3 ≤ mcX X ∧ n + n4 ≤ msX X ∧ S_X9_adopt (lX X) (dtX X) k3 n4 [.ref v0, .int 0] h (QI fun x5 h2 =>
    St9 h2 v0 ∧ nn h2 v0 12 ∧ S_X3_look (lX X) (dtX X) 0 0 [.ref (v0 + 9), .ref (gp h2 v0 12)] h2 (QV fun h8 =>
    St9 h8 v0 ∧ nn h8 v0 12 ∧ St4 h8 (gp h8 v0 12) ∧ ((¬ (gl h8 ((gp h8 v0 12) + 2) 0) = 0 → Wj X (k + k3) (n + n4) Q 143 [(0, .ref v0)] [.long 0, .ref (v0 + 3)] (tcl h8 (v0 + 3))) ∧
    ((gl h8 ((gp h8 v0 12) + 2) 0) = 0 → Wj X (k + k3) (n + n4) Q 143 [(0, .ref v0)] [.long 1, .ref (v0 + 3)] (tcl h8 (v0 + 3)))))))) ∧
    (¬ v1 ≤ v3 → St9 h v0 ∧ nn h v0 13 ∧ St4 h (gp h v0 13) ∧ S_X4_scribe (lX X) (dtX X) 0 0 [.ref (gp h v0 13)] h (QI fun x17 h16 =>
    St9 h16 v0 ∧ S_X9_windWay (lX X) (dtX X) 0 0 [.ref v0, .int v2] h16 (QV fun h19 =>
    Wj X k n Q 71 [(0, .ref v0), (1, .int v1), (2, .int v2), (3, .int (v3 + Int32.ofInt 1))] [] h19))))) :
    Wj X k n Q 71 [(0, .ref v0), (1, .int v1), (2, .int v2), (3, .int v3)] [] h := by
  refine w_iload_n (pc := 71) C dX9_divides_71 rfl ?_
  refine w_iload_n (pc := 72) C dX9_divides_72 rfl ?_
  refine w_icmp_ge (pc := 73) C (tgt := 95) dX9_divides_73 (by decide) ?_
  obtain ⟨hv1, hv2⟩ := hv
  refine ⟨fun c20 => ?_, fun c20 => ?_⟩
  · have hv := hv1 c20
    refine w_aload_n (pc := 95) C dX9_divides_95 rfl ?_
    refine w_iconst (pc := 96) C (v := 0) dX9_divides_96 (by decide) ?_
    obtain ⟨f1, hv⟩ := hv
    obtain ⟨k3, n4, hm1, hm2, hv⟩ := hv
    refine w_cV1_1 (pc := 97) C cl_X9_107 lv_X9_adopt (by decide) dX9_divides_97 (Nat.le_of_ble_eq_true rfl) (c := 9) rfl hm1 hm2 (St9_k f1) (hv.mono (fun v h2 hp => ?_))
    obtain ⟨x5, rfl, hv⟩ := hp
    refine w_pop (pc := 100) C dX9_divides_100 rfl ?_
    refine w_aload_n (pc := 101) C dX9_divides_101 rfl ?_
    obtain ⟨f6, hv⟩ := hv
    refine w_getR (pc := 102) C fl_X9_47 rfl dX9_divides_102 (St9_k f6) (St9_r5 f6) ?_
    refine w_aload_n (pc := 105) C dX9_divides_105 rfl ?_
    obtain ⟨f7, hv⟩ := hv
    refine w_getR (pc := 106) C fl_X9_78 rfl dX9_divides_106 (St9_k f6) f7 ?_
    refine w_cV0_1 (pc := 109) C cl_X9_358 lv_X3_look (by decide) dX9_divides_109 (Nat.le_of_ble_eq_true rfl) (c := 3) rfl (St3_k (St9_s5 f6)) (hv.mono (fun v h8 hp => ?_))
    obtain ⟨rfl, hv⟩ := hp
    refine w_aload_n (pc := 112) C dX9_divides_112 rfl ?_
    obtain ⟨f9, hv⟩ := hv
    refine w_getR (pc := 113) C fl_X9_19 rfl dX9_divides_113 (St9_k f9) (St9_r1 f9) ?_
    refine w_cV0_0 (pc := 116) C cl_X9_158 lv_X8_clear (by decide) dX9_divides_116 (Nat.le_of_ble_eq_true rfl) (c := 8) rfl (St8_k (St9_s1 f9)) ((sf_X8_clear (h := h8) (St9_s1 f9)).mono (fun v h9 hp => ?_))
    obtain ⟨e1, e2⟩ := hp
    rw [e1, e2]
    refine w_aload_n (pc := 119) C dX9_divides_119 rfl ?_
    refine w_getR (pc := 120) C fl_X9_19 rfl dX9_divides_120 (St9_k f9) (St9_r1 f9) ?_
    refine w_aload_n (pc := 123) C dX9_divides_123 rfl ?_
    obtain ⟨f10, hv⟩ := hv
    refine w_getR (pc := 124) C fl_X9_78 rfl dX9_divides_124 (St9_k f9) f10 ?_
    obtain ⟨f11, hv⟩ := hv
    refine w_getR (pc := 127) C fl_X9_343 rfl dX9_divides_127 (St4_k f11) (St4_r9 f11) ?_
    refine w_getL (pc := 130) C fl_X9_297 rfl dX9_divides_130 (St4_k9 f11) ?_
    refine w_lconst (pc := 133) C (v := 0) dX9_divides_133 (by decide) ?_
    refine w_lcmp_ne (pc := 134) C (tgt := 142) dX9_divides_134 dX9_divides_135 (by decide) ?_
    obtain ⟨hv1, hv2⟩ := hv
    refine ⟨fun c12 => ?_, fun c12 => ?_⟩
    · have hv := hv1 c12
      refine w_lconst (pc := 142) C (v := 0) dX9_divides_142 (by decide) ?_
      refine w_sub ?_ hv
      exact ⟨rfl, trivial⟩
    · have hv := hv2 c12
      refine w_lconst (pc := 138) C (v := 1) dX9_divides_138 (by decide) ?_
      refine w_goto (pc := 139) C (tgt := 143) dX9_divides_139 (by decide) ?_
      refine w_sub ?_ hv
      exact ⟨rfl, trivial⟩
  · have hv := hv2 c20
    refine w_aload_n (pc := 76) C dX9_divides_76 rfl ?_
    obtain ⟨f13, hv⟩ := hv
    obtain ⟨f14, hv⟩ := hv
    refine w_getR (pc := 77) C fl_X9_82 rfl dX9_divides_77 (St9_k f13) f14 ?_
    obtain ⟨f15, hv⟩ := hv
    refine w_cV0_0 (pc := 80) C cl_X9_346 lv_X4_scribe (by decide) dX9_divides_80 (Nat.le_of_ble_eq_true rfl) (c := 4) rfl (St4_k f15) (hv.mono (fun v h16 hp => ?_))
    obtain ⟨x17, rfl, hv⟩ := hp
    refine w_pop (pc := 83) C dX9_divides_83 rfl ?_
    refine w_aload_n (pc := 84) C dX9_divides_84 rfl ?_
    refine w_iload_n (pc := 85) C dX9_divides_85 rfl ?_
    obtain ⟨f18, hv⟩ := hv
    refine w_cV0_1 (pc := 86) C cl_X9_355 lv_X9_windWay (by decide) dX9_divides_86 (Nat.le_of_ble_eq_true rfl) (c := 9) rfl (St9_k f18) (hv.mono (fun v h19 hp => ?_))
    obtain ⟨rfl, hv⟩ := hp
    refine w_iinc (pc := 89) C dX9_divides_89 rfl (by decide) ?_
    refine w_goto (pc := 92) C (tgt := 71) dX9_divides_92 (by decide) ?_
    refine w_sub ?_ hv
    exact ⟨rfl, rfl, rfl, rfl, trivial⟩
set_option maxRecDepth 20000 in
set_option maxHeartbeats 2000000 in
theorem V_X9_divides_143 {X : Ctx} (C : C_X9_divides X) {k n : Nat} {Q : Pq} {h : Hp} {v0 s0 : Nat} {s1 : Int64}
    (hv : St8 h s0 ∧ S_X8_add (lX X) (dtX X) 0 0 [.ref s0, .long s1] h (QV fun h2 =>
    St9 h2 v0 ∧ ((¬ (gi h2 (v0 + 9) 0) = 1 → Wj X k n Q 166 [(0, .ref v0)] [.long 0, .ref (v0 + 3)] h2) ∧
    ((gi h2 (v0 + 9) 0) = 1 → Wj X k n Q 166 [(0, .ref v0)] [.long 1, .ref (v0 + 3)] h2)))) :
    Wj X k n Q 143 [(0, .ref v0)] [.long s1, .ref s0] h := by
  obtain ⟨f1, hv⟩ := hv
  refine w_cV0_1 (pc := 143) C cl_X9_164 lv_X8_add (by decide) dX9_divides_143 (Nat.le_of_ble_eq_true rfl) (c := 8) rfl (St8_k f1) (hv.mono (fun v h2 hp => ?_))
  obtain ⟨rfl, hv⟩ := hp
  refine w_aload_n (pc := 146) C dX9_divides_146 rfl ?_
  obtain ⟨f3, hv⟩ := hv
  refine w_getR (pc := 147) C fl_X9_19 rfl dX9_divides_147 (St9_k f3) (St9_r1 f3) ?_
  refine w_aload_n (pc := 150) C dX9_divides_150 rfl ?_
  refine w_getR (pc := 151) C fl_X9_47 rfl dX9_divides_151 (St9_k f3) (St9_r5 f3) ?_
  refine w_getI (pc := 154) C fl_X9_360 rfl dX9_divides_154 (St3_k (St9_s5 f3)) ?_
  refine w_iconst (pc := 157) C (v := 1) dX9_divides_157 (by decide) ?_
  refine w_icmp_ne (pc := 158) C (tgt := 165) dX9_divides_158 (by decide) ?_
  obtain ⟨hv1, hv2⟩ := hv
  refine ⟨fun c4 => ?_, fun c4 => ?_⟩
  · have hv := hv1 c4
    refine w_lconst (pc := 165) C (v := 0) dX9_divides_165 (by decide) ?_
    refine w_sub ?_ hv
    exact ⟨rfl, trivial⟩
  · have hv := hv2 c4
    refine w_lconst (pc := 161) C (v := 1) dX9_divides_161 (by decide) ?_
    refine w_goto (pc := 162) C (tgt := 166) dX9_divides_162 (by decide) ?_
    refine w_sub ?_ hv
    exact ⟨rfl, trivial⟩
set_option maxRecDepth 20000 in
set_option maxHeartbeats 2000000 in
theorem V_X9_divides_166 {X : Ctx} (C : C_X9_divides X) {k n : Nat} {Q : Pq} {h : Hp} {v0 s0 : Nat} {s1 : Int64}
    (hv : St8 h s0 ∧ S_X8_add (lX X) (dtX X) 0 0 [.ref s0, .long s1] h (QV fun h2 =>
    St9 h2 v0 ∧ nn h2 v0 12 ∧ St4 h2 (gp h2 v0 12) ∧ Q (some (.int (gi h2 (gp h2 v0 12) 7))) h2)) :
    Wj X k n Q 166 [(0, .ref v0)] [.long s1, .ref s0] h := by
  obtain ⟨f1, hv⟩ := hv
  refine w_cV0_1 (pc := 166) C cl_X9_164 lv_X8_add (by decide) dX9_divides_166 (Nat.le_of_ble_eq_true rfl) (c := 8) rfl (St8_k f1) (hv.mono (fun v h2 hp => ?_))
  obtain ⟨rfl, hv⟩ := hp
  refine w_aload_n (pc := 169) C dX9_divides_169 rfl ?_
  obtain ⟨f3, hv⟩ := hv
  obtain ⟨f4, hv⟩ := hv
  refine w_getR (pc := 170) C fl_X9_78 rfl dX9_divides_170 (St9_k f3) f4 ?_
  obtain ⟨f5, hv⟩ := hv
  refine w_getI (pc := 173) C fl_X9_363 rfl dX9_divides_173 (St4_k f5) ?_
  exact w_iret (pc := 176) C dX9_divides_176 hv
theorem dX10_isDifferential_0 : decode cX10_isDifferential 0 = .ok (.iload_n 2, 1) := by decide +kernel
theorem dX10_isDifferential_1 : decode cX10_isDifferential 1 = .ok (.iconst 2, 1) := by decide +kernel
theorem dX10_isDifferential_2 : decode cX10_isDifferential 2 = .ok (.if_icmp .lt 37, 3) := by decide +kernel
theorem dX10_isDifferential_5 : decode cX10_isDifferential 5 = .ok (.aload_n 0, 1) := by decide +kernel
theorem dX10_isDifferential_6 : decode cX10_isDifferential 6 = .ok (.iload_n 2, 1) := by decide +kernel
theorem dX10_isDifferential_7 : decode cX10_isDifferential 7 = .ok (.invokevirtual 182, 3) := by decide +kernel
theorem dX10_isDifferential_10 : decode cX10_isDifferential 10 = .ok (.ifCond .lt 29, 3) := by decide +kernel
theorem dX10_isDifferential_13 : decode cX10_isDifferential 13 = .ok (.aload_n 0, 1) := by decide +kernel
theorem dX10_isDifferential_14 : decode cX10_isDifferential 14 = .ok (.aload_n 0, 1) := by decide +kernel
theorem dX10_isDifferential_15 : decode cX10_isDifferential 15 = .ok (.invokevirtual 168, 3) := by decide +kernel
theorem dX10_isDifferential_18 : decode cX10_isDifferential 18 = .ok (.i2l, 1) := by decide +kernel
theorem dX10_isDifferential_19 : decode cX10_isDifferential 19 = .ok (.iload_n 2, 1) := by decide +kernel
theorem dX10_isDifferential_20 : decode cX10_isDifferential 20 = .ok (.iload_n 1, 1) := by decide +kernel
theorem dX10_isDifferential_21 : decode cX10_isDifferential 21 = .ok (.isub, 1) := by decide +kernel
theorem dX10_isDifferential_22 : decode cX10_isDifferential 22 = .ok (.invokestatic 189, 3) := by decide +kernel
theorem dX10_isDifferential_25 : decode cX10_isDifferential 25 = .ok (.i2l, 1) := by decide +kernel
theorem dX10_isDifferential_26 : decode cX10_isDifferential 26 = .ok (.lmul, 1) := by decide +kernel
theorem dX10_isDifferential_27 : decode cX10_isDifferential 27 = .ok (.iload_n 2, 1) := by decide +kernel
theorem dX10_isDifferential_28 : decode cX10_isDifferential 28 = .ok (.i2l, 1) := by decide +kernel
theorem dX10_isDifferential_29 : decode cX10_isDifferential 29 = .ok (.invokevirtual 246, 3) := by decide +kernel
theorem dX10_isDifferential_32 : decode cX10_isDifferential 32 = .ok (.ifCond .eq 7, 3) := by decide +kernel
theorem dX10_isDifferential_35 : decode cX10_isDifferential 35 = .ok (.iconst 1, 1) := by decide +kernel
theorem dX10_isDifferential_36 : decode cX10_isDifferential 36 = .ok (.goto 4, 3) := by decide +kernel
theorem dX10_isDifferential_39 : decode cX10_isDifferential 39 = .ok (.iconst 0, 1) := by decide +kernel
theorem dX10_isDifferential_40 : decode cX10_isDifferential 40 = .ok (.ireturn, 1) := by decide +kernel
set_option maxRecDepth 20000 in
set_option maxHeartbeats 2000000 in
theorem V_X10_isDifferential_0 {X : Ctx} (C : C_X10_isDifferential X) {k n : Nat} {Q : Pq} {h : Hp} {v0 : Nat} {v1 v2 : Int32}
    (hv : ((v2 < 2 → Q (some (.int 0)) h) ∧
    (¬ v2 < 2 → St10 h v0 ∧ S_X10_firstSimple (lX X) (dtX X) 0 0 [.ref v0, .int v2] h (QI fun x3 h2 =>
    ((x3 < 0 → Q (some (.int 0)) h2) ∧
    (¬ x3 < 0 → St10 h2 v0 ∧ S_X10_findsTrain (lX X) (dtX X) 0 0 [.ref v0, .long ((Int32.toInt64 (gi h2 (v0 + 3) (ix 0))) * (Int32.toInt64 (abI (v2 - v1)))), .long (Int32.toInt64 v2)] h2 (QI fun x6 h5 =>
    ((x6 = 0 → Q (some (.int 0)) h5) ∧
    (¬ x6 = 0 → Q (some (.int 1)) h5))))))))) :
    Wj X k n Q 0 [(0, .ref v0), (1, .int v1), (2, .int v2)] [] h := by
  refine w_iload_n (pc := 0) C dX10_isDifferential_0 rfl ?_
  refine w_iconst (pc := 1) C (v := 2) dX10_isDifferential_1 (by decide) ?_
  refine w_icmp_lt (pc := 2) C (tgt := 39) dX10_isDifferential_2 (by decide) ?_
  obtain ⟨hv1, hv2⟩ := hv
  refine ⟨fun c9 => ?_, fun c9 => ?_⟩
  · have hv := hv1 c9
    refine w_iconst (pc := 39) C (v := 0) dX10_isDifferential_39 (by decide) ?_
    exact w_zret (pc := 40) C dX10_isDifferential_40 (by decide) hv
  · have hv := hv2 c9
    refine w_aload_n (pc := 5) C dX10_isDifferential_5 rfl ?_
    refine w_iload_n (pc := 6) C dX10_isDifferential_6 rfl ?_
    obtain ⟨f1, hv⟩ := hv
    refine w_cV0_1 (pc := 7) C cl_X10_182 lv_X10_firstSimple (by decide) dX10_isDifferential_7 (Nat.le_of_ble_eq_true rfl) (c := 10) rfl (St10_k f1) (hv.mono (fun v h2 hp => ?_))
    obtain ⟨x3, rfl, hv⟩ := hp
    refine w_if_lt (pc := 10) C (tgt := 39) dX10_isDifferential_10 (by decide) ?_
    obtain ⟨hv1, hv2⟩ := hv
    refine ⟨fun c8 => ?_, fun c8 => ?_⟩
    · have hv := hv1 c8
      refine w_iconst (pc := 39) C (v := 0) dX10_isDifferential_39 (by decide) ?_
      exact w_zret (pc := 40) C dX10_isDifferential_40 (by decide) hv
    · have hv := hv2 c8
      refine w_aload_n (pc := 13) C dX10_isDifferential_13 rfl ?_
      refine w_aload_n (pc := 14) C dX10_isDifferential_14 rfl ?_
      obtain ⟨f4, hv⟩ := hv
      refine w_cV0_0 (pc := 15) C cl_X10_168 lv_X10_worm (by decide) dX10_isDifferential_15 (Nat.le_of_ble_eq_true rfl) (c := 10) rfl (St10_k f4) ((sf_X10_worm (h := h2) f4).mono (fun v h9 hp => ?_))
      obtain ⟨e1, e2⟩ := hp
      rw [e1, e2]
      refine w_i2l (pc := 18) C dX10_isDifferential_18 ?_
      refine w_iload_n (pc := 19) C dX10_isDifferential_19 rfl ?_
      refine w_iload_n (pc := 20) C dX10_isDifferential_20 rfl ?_
      refine w_isub (pc := 21) C dX10_isDifferential_21 ?_
      refine w_cS0_1 (pc := 22) C cl_X10_189 ls_X10_size (by decide) dX10_isDifferential_22 (Nat.le_of_ble_eq_true rfl) ((sf_X10_size (h := h2) ).mono (fun v h9 hp => ?_))
      obtain ⟨e1, e2⟩ := hp
      rw [e1, e2]
      refine w_i2l (pc := 25) C dX10_isDifferential_25 ?_
      refine w_lmul (pc := 26) C dX10_isDifferential_26 ?_
      refine w_iload_n (pc := 27) C dX10_isDifferential_27 rfl ?_
      refine w_i2l (pc := 28) C dX10_isDifferential_28 ?_
      refine w_cV0_2 (pc := 29) C cl_X10_246 lv_X10_findsTrain (by decide) dX10_isDifferential_29 (Nat.le_of_ble_eq_true rfl) (c := 10) rfl (St10_k f4) (hv.mono (fun v h5 hp => ?_))
      obtain ⟨x6, rfl, hv⟩ := hp
      refine w_if_eq (pc := 32) C (tgt := 39) dX10_isDifferential_32 (by decide) ?_
      obtain ⟨hv1, hv2⟩ := hv
      refine ⟨fun c7 => ?_, fun c7 => ?_⟩
      · have hv := hv1 c7
        refine w_iconst (pc := 39) C (v := 0) dX10_isDifferential_39 (by decide) ?_
        exact w_zret (pc := 40) C dX10_isDifferential_40 (by decide) hv
      · have hv := hv2 c7
        refine w_iconst (pc := 35) C (v := 1) dX10_isDifferential_35 (by decide) ?_
        refine w_goto (pc := 36) C (tgt := 40) dX10_isDifferential_36 (by decide) ?_
        exact w_zret (pc := 40) C dX10_isDifferential_40 (by decide) hv
theorem dX10_findsDifferential_0 : decode cX10_findsDifferential 0 = .ok (.iconst 1, 1) := by decide +kernel
theorem dX10_findsDifferential_1 : decode cX10_findsDifferential 1 = .ok (.istore_n 2, 1) := by decide +kernel
theorem dX10_findsDifferential_2 : decode cX10_findsDifferential 2 = .ok (.iload_n 2, 1) := by decide +kernel
theorem dX10_findsDifferential_3 : decode cX10_findsDifferential 3 = .ok (.bipush 20, 2) := by decide +kernel
theorem dX10_findsDifferential_5 : decode cX10_findsDifferential 5 = .ok (.if_icmp .gt 70, 3) := by decide +kernel
theorem dX10_findsDifferential_8 : decode cX10_findsDifferential 8 = .ok (.iconst 0, 1) := by decide +kernel
theorem dX10_findsDifferential_9 : decode cX10_findsDifferential 9 = .ok (.istore_n 3, 1) := by decide +kernel
theorem dX10_findsDifferential_10 : decode cX10_findsDifferential 10 = .ok (.iload_n 3, 1) := by decide +kernel
theorem dX10_findsDifferential_11 : decode cX10_findsDifferential 11 = .ok (.iconst 2, 1) := by decide +kernel
theorem dX10_findsDifferential_12 : decode cX10_findsDifferential 12 = .ok (.if_icmp .ge 57, 3) := by decide +kernel
theorem dX10_findsDifferential_15 : decode cX10_findsDifferential 15 = .ok (.iload_n 3, 1) := by decide +kernel
theorem dX10_findsDifferential_16 : decode cX10_findsDifferential 16 = .ok (.ifCond .ne 9, 3) := by decide +kernel
theorem dX10_findsDifferential_19 : decode cX10_findsDifferential 19 = .ok (.iload_n 1, 1) := by decide +kernel
theorem dX10_findsDifferential_20 : decode cX10_findsDifferential 20 = .ok (.iload_n 2, 1) := by decide +kernel
theorem dX10_findsDifferential_21 : decode cX10_findsDifferential 21 = .ok (.isub, 1) := by decide +kernel
theorem dX10_findsDifferential_22 : decode cX10_findsDifferential 22 = .ok (.goto 6, 3) := by decide +kernel
theorem dX10_findsDifferential_25 : decode cX10_findsDifferential 25 = .ok (.iload_n 1, 1) := by decide +kernel
theorem dX10_findsDifferential_26 : decode cX10_findsDifferential 26 = .ok (.iload_n 2, 1) := by decide +kernel
theorem dX10_findsDifferential_27 : decode cX10_findsDifferential 27 = .ok (.iadd, 1) := by decide +kernel
theorem dX10_findsDifferential_28 : decode cX10_findsDifferential 28 = .ok (.istore 4, 2) := by decide +kernel
theorem dX10_findsDifferential_30 : decode cX10_findsDifferential 30 = .ok (.aload_n 0, 1) := by decide +kernel
theorem dX10_findsDifferential_31 : decode cX10_findsDifferential 31 = .ok (.iload_n 1, 1) := by decide +kernel
theorem dX10_findsDifferential_32 : decode cX10_findsDifferential 32 = .ok (.iload 4, 2) := by decide +kernel
theorem dX10_findsDifferential_34 : decode cX10_findsDifferential 34 = .ok (.invokevirtual 250, 3) := by decide +kernel
theorem dX10_findsDifferential_37 : decode cX10_findsDifferential 37 = .ok (.ifCond .eq 26, 3) := by decide +kernel
theorem dX10_findsDifferential_40 : decode cX10_findsDifferential 40 = .ok (.aload_n 0, 1) := by decide +kernel
theorem dX10_findsDifferential_41 : decode cX10_findsDifferential 41 = .ok (.iload 4, 2) := by decide +kernel
theorem dX10_findsDifferential_43 : decode cX10_findsDifferential 43 = .ok (.putfield 253, 3) := by decide +kernel
theorem dX10_findsDifferential_46 : decode cX10_findsDifferential 46 = .ok (.aload_n 0, 1) := by decide +kernel
theorem dX10_findsDifferential_47 : decode cX10_findsDifferential 47 = .ok (.iload 4, 2) := by decide +kernel
theorem dX10_findsDifferential_49 : decode cX10_findsDifferential 49 = .ok (.iload_n 1, 1) := by decide +kernel
theorem dX10_findsDifferential_50 : decode cX10_findsDifferential 50 = .ok (.if_icmp .le 7, 3) := by decide +kernel
theorem dX10_findsDifferential_53 : decode cX10_findsDifferential 53 = .ok (.iconst 1, 1) := by decide +kernel
theorem dX10_findsDifferential_54 : decode cX10_findsDifferential 54 = .ok (.goto 4, 3) := by decide +kernel
theorem dX10_findsDifferential_57 : decode cX10_findsDifferential 57 = .ok (.iconst (-1), 1) := by decide +kernel
theorem dX10_findsDifferential_58 : decode cX10_findsDifferential 58 = .ok (.putfield 256, 3) := by decide +kernel
theorem dX10_findsDifferential_61 : decode cX10_findsDifferential 61 = .ok (.iconst 1, 1) := by decide +kernel
theorem dX10_findsDifferential_62 : decode cX10_findsDifferential 62 = .ok (.ireturn, 1) := by decide +kernel
theorem dX10_findsDifferential_63 : decode cX10_findsDifferential 63 = .ok (.iinc 3 1, 3) := by decide +kernel
theorem dX10_findsDifferential_66 : decode cX10_findsDifferential 66 = .ok (.goto (-56), 3) := by decide +kernel
theorem dX10_findsDifferential_69 : decode cX10_findsDifferential 69 = .ok (.iinc 2 1, 3) := by decide +kernel
theorem dX10_findsDifferential_72 : decode cX10_findsDifferential 72 = .ok (.goto (-70), 3) := by decide +kernel
theorem dX10_findsDifferential_75 : decode cX10_findsDifferential 75 = .ok (.iconst 0, 1) := by decide +kernel
theorem dX10_findsDifferential_76 : decode cX10_findsDifferential 76 = .ok (.ireturn, 1) := by decide +kernel
set_option maxRecDepth 20000 in
set_option maxHeartbeats 2000000 in
theorem V_X10_findsDifferential_0 {X : Ctx} (C : C_X10_findsDifferential X) {k n : Nat} {Q : Pq} {h : Hp} {v0 : Nat} {v1 : Int32}
    (hv : Wj X k n Q 2 [(0, .ref v0), (1, .int v1), (2, .int 1)] [] h) :
    Wj X k n Q 0 [(0, .ref v0), (1, .int v1)] [] h := by
  refine w_iconst (pc := 0) C (v := 1) dX10_findsDifferential_0 (by decide) ?_
  refine w_istore_n (pc := 1) C dX10_findsDifferential_1 (by decide) ?_
  refine w_sub ?_ hv
  exact ⟨rfl, rfl, rfl, trivial⟩
set_option maxRecDepth 20000 in
set_option maxHeartbeats 2000000 in
theorem V_X10_findsDifferential_2 {X : Ctx} (C : C_X10_findsDifferential X) {k n : Nat} {Q : Pq} {h : Hp} {v0 : Nat} {v1 v2 : Int32}
    (hv : ((20 < v2 → Q (some (.int 0)) h) ∧
    (¬ 20 < v2 → Wj X k n Q 10 [(0, .ref v0), (1, .int v1), (2, .int v2), (3, .int 0)] [] h))) :
    Wj X k n Q 2 [(0, .ref v0), (1, .int v1), (2, .int v2)] [] h := by
  refine w_iload_n (pc := 2) C dX10_findsDifferential_2 rfl ?_
  refine w_bipush (pc := 3) C (v := 20) dX10_findsDifferential_3 (by decide) ?_
  refine w_icmp_gt (pc := 5) C (tgt := 75) dX10_findsDifferential_5 (by decide) ?_
  obtain ⟨hv1, hv2⟩ := hv
  refine ⟨fun c1 => ?_, fun c1 => ?_⟩
  · have hv := hv1 c1
    refine w_iconst (pc := 75) C (v := 0) dX10_findsDifferential_75 (by decide) ?_
    exact w_zret (pc := 76) C dX10_findsDifferential_76 (by decide) hv
  · have hv := hv2 c1
    refine w_iconst (pc := 8) C (v := 0) dX10_findsDifferential_8 (by decide) ?_
    refine w_istore_n (pc := 9) C dX10_findsDifferential_9 (by decide) ?_
    refine w_sub ?_ hv
    exact ⟨rfl, rfl, rfl, rfl, trivial⟩
set_option maxRecDepth 20000 in
set_option maxHeartbeats 2000000 in
theorem V_X10_findsDifferential_10 {X : Ctx} (C : C_X10_findsDifferential X) {k n : Nat} {Q : Pq} {h : Hp} {v0 : Nat} {v1 v2 v3 : Int32}
    (hv : ((2 ≤ v3 → Wj X k n Q 2 [(0, .ref v0), (1, .int v1), (2, .int (v2 + Int32.ofInt 1))] [] h) ∧
    (¬ 2 ≤ v3 → ((¬ v3 = 0 → Wj X k n Q 28 [(0, .ref v0), (1, .int v1), (2, .int v2), (3, .int v3)] [.int (v1 + v2)] h) ∧
    (v3 = 0 → Wj X k n Q 28 [(0, .ref v0), (1, .int v1), (2, .int v2), (3, .int v3)] [.int (v1 - v2)] h))))) :
    Wj X k n Q 10 [(0, .ref v0), (1, .int v1), (2, .int v2), (3, .int v3)] [] h := by
  refine w_iload_n (pc := 10) C dX10_findsDifferential_10 rfl ?_
  refine w_iconst (pc := 11) C (v := 2) dX10_findsDifferential_11 (by decide) ?_
  refine w_icmp_ge (pc := 12) C (tgt := 69) dX10_findsDifferential_12 (by decide) ?_
  obtain ⟨hv1, hv2⟩ := hv
  refine ⟨fun c2 => ?_, fun c2 => ?_⟩
  · have hv := hv1 c2
    refine w_iinc (pc := 69) C dX10_findsDifferential_69 rfl (by decide) ?_
    refine w_goto (pc := 72) C (tgt := 2) dX10_findsDifferential_72 (by decide) ?_
    refine w_sub ?_ hv
    exact ⟨rfl, rfl, rfl, trivial⟩
  · have hv := hv2 c2
    refine w_iload_n (pc := 15) C dX10_findsDifferential_15 rfl ?_
    refine w_if_ne (pc := 16) C (tgt := 25) dX10_findsDifferential_16 (by decide) ?_
    obtain ⟨hv1, hv2⟩ := hv
    refine ⟨fun c1 => ?_, fun c1 => ?_⟩
    · have hv := hv1 c1
      refine w_iload_n (pc := 25) C dX10_findsDifferential_25 rfl ?_
      refine w_iload_n (pc := 26) C dX10_findsDifferential_26 rfl ?_
      refine w_iadd (pc := 27) C dX10_findsDifferential_27 ?_
      refine w_sub ?_ hv
      exact ⟨rfl, rfl, rfl, rfl, trivial⟩
    · have hv := hv2 c1
      refine w_iload_n (pc := 19) C dX10_findsDifferential_19 rfl ?_
      refine w_iload_n (pc := 20) C dX10_findsDifferential_20 rfl ?_
      refine w_isub (pc := 21) C dX10_findsDifferential_21 ?_
      refine w_goto (pc := 22) C (tgt := 28) dX10_findsDifferential_22 (by decide) ?_
      refine w_sub ?_ hv
      exact ⟨rfl, rfl, rfl, rfl, trivial⟩
set_option maxRecDepth 20000 in
set_option maxHeartbeats 2000000 in
theorem V_X10_findsDifferential_28 {X : Ctx} (C : C_X10_findsDifferential X) {k n : Nat} {Q : Pq} {h : Hp} {v0 : Nat} {v1 v2 v3 s0 : Int32}
    (hv : St10 h v0 ∧ S_X10_isDifferential (lX X) (dtX X) 0 0 [.ref v0, .int v1, .int s0] h (QI fun x3 h2 =>
    ((x3 = 0 → Wj X k n Q 10 [(0, .ref v0), (1, .int v1), (2, .int v2), (3, .int (v3 + Int32.ofInt 1))] [] h2) ∧
    (¬ x3 = 0 → St10 h2 v0 ∧ ((s0 ≤ v1 → Q (some (.int 1)) (si (si h2 v0 21 s0) v0 22 (-1))) ∧
    (¬ s0 ≤ v1 → Q (some (.int 1)) (si (si h2 v0 21 s0) v0 22 1))))))) :
    Wj X k n Q 28 [(0, .ref v0), (1, .int v1), (2, .int v2), (3, .int v3)] [.int s0] h := by
  refine w_istore (pc := 28) C dX10_findsDifferential_28 (by decide) ?_
  refine w_aload_n (pc := 30) C dX10_findsDifferential_30 rfl ?_
  refine w_iload_n (pc := 31) C dX10_findsDifferential_31 rfl ?_
  refine w_iload (pc := 32) C dX10_findsDifferential_32 rfl ?_
  obtain ⟨f1, hv⟩ := hv
  refine w_cV0_2 (pc := 34) C cl_X10_250 lv_X10_isDifferential (by decide) dX10_findsDifferential_34 (Nat.le_of_ble_eq_true rfl) (c := 10) rfl (St10_k f1) (hv.mono (fun v h2 hp => ?_))
  obtain ⟨x3, rfl, hv⟩ := hp
  refine w_if_eq (pc := 37) C (tgt := 63) dX10_findsDifferential_37 (by decide) ?_
  obtain ⟨hv1, hv2⟩ := hv
  refine ⟨fun c6 => ?_, fun c6 => ?_⟩
  · have hv := hv1 c6
    refine w_iinc (pc := 63) C dX10_findsDifferential_63 rfl (by decide) ?_
    refine w_goto (pc := 66) C (tgt := 10) dX10_findsDifferential_66 (by decide) ?_
    refine w_sub ?_ hv
    exact ⟨rfl, rfl, rfl, rfl, trivial⟩
  · have hv := hv2 c6
    refine w_aload_n (pc := 40) C dX10_findsDifferential_40 rfl ?_
    refine w_iload (pc := 41) C dX10_findsDifferential_41 rfl ?_
    obtain ⟨f4, hv⟩ := hv
    refine w_putI (pc := 43) C fl_X10_253 rfl rfl dX10_findsDifferential_43 (St10_k f4) ?_
    refine w_aload_n (pc := 46) C dX10_findsDifferential_46 rfl ?_
    refine w_iload (pc := 47) C dX10_findsDifferential_47 rfl ?_
    refine w_iload_n (pc := 49) C dX10_findsDifferential_49 rfl ?_
    refine w_icmp_le (pc := 50) C (tgt := 57) dX10_findsDifferential_50 (by decide) ?_
    obtain ⟨hv1, hv2⟩ := hv
    refine ⟨fun c5 => ?_, fun c5 => ?_⟩
    · have hv := hv1 c5
      refine w_iconst (pc := 57) C (v := (-1)) dX10_findsDifferential_57 (by decide) ?_
      refine w_putI (pc := 58) C fl_X10_256 rfl rfl dX10_findsDifferential_58 (St10_k f4) ?_
      refine w_iconst (pc := 61) C (v := 1) dX10_findsDifferential_61 (by decide) ?_
      exact w_zret (pc := 62) C dX10_findsDifferential_62 (by decide) hv
    · have hv := hv2 c5
      refine w_iconst (pc := 53) C (v := 1) dX10_findsDifferential_53 (by decide) ?_
      refine w_goto (pc := 54) C (tgt := 58) dX10_findsDifferential_54 (by decide) ?_
      refine w_putI (pc := 58) C fl_X10_256 rfl rfl dX10_findsDifferential_58 (St10_k f4) ?_
      refine w_iconst (pc := 61) C (v := 1) dX10_findsDifferential_61 (by decide) ?_
      exact w_zret (pc := 62) C dX10_findsDifferential_62 (by decide) hv
theorem dX10_differential_0 : decode cX10_differential 0 = .ok (.aload_n 0, 1) := by decide +kernel
theorem dX10_differential_1 : decode cX10_differential 1 = .ok (.iconst 0, 1) := by decide +kernel
theorem dX10_differential_2 : decode cX10_differential 2 = .ok (.putfield 1, 3) := by decide +kernel
theorem dX10_differential_5 : decode cX10_differential 5 = .ok (.iload_n 1, 1) := by decide +kernel
theorem dX10_differential_6 : decode cX10_differential 6 = .ok (.invokestatic 179, 3) := by decide +kernel
theorem dX10_differential_9 : decode cX10_differential 9 = .ok (.ifCond .ne 5, 3) := by decide +kernel
theorem dX10_differential_12 : decode cX10_differential 12 = .ok (.iconst (-1), 1) := by decide +kernel
theorem dX10_differential_13 : decode cX10_differential 13 = .ok (.ireturn, 1) := by decide +kernel
theorem dX10_differential_14 : decode cX10_differential 14 = .ok (.aload_n 0, 1) := by decide +kernel
theorem dX10_differential_15 : decode cX10_differential 15 = .ok (.iload_n 1, 1) := by decide +kernel
theorem dX10_differential_16 : decode cX10_differential 16 = .ok (.invokevirtual 259, 3) := by decide +kernel
theorem dX10_differential_19 : decode cX10_differential 19 = .ok (.ifCond .ne 6, 3) := by decide +kernel
theorem dX10_differential_22 : decode cX10_differential 22 = .ok (.bipush (-2), 2) := by decide +kernel
theorem dX10_differential_24 : decode cX10_differential 24 = .ok (.ireturn, 1) := by decide +kernel
theorem dX10_differential_25 : decode cX10_differential 25 = .ok (.aload_n 0, 1) := by decide +kernel
theorem dX10_differential_26 : decode cX10_differential 26 = .ok (.aload_n 0, 1) := by decide +kernel
theorem dX10_differential_27 : decode cX10_differential 27 = .ok (.getfield 253, 3) := by decide +kernel
theorem dX10_differential_30 : decode cX10_differential 30 = .ok (.invokevirtual 182, 3) := by decide +kernel
theorem dX10_differential_33 : decode cX10_differential 33 = .ok (.istore_n 2, 1) := by decide +kernel
theorem dX10_differential_34 : decode cX10_differential 34 = .ok (.aload_n 0, 1) := by decide +kernel
theorem dX10_differential_35 : decode cX10_differential 35 = .ok (.iconst 0, 1) := by decide +kernel
theorem dX10_differential_36 : decode cX10_differential 36 = .ok (.putfield 11, 3) := by decide +kernel
theorem dX10_differential_39 : decode cX10_differential 39 = .ok (.aload_n 0, 1) := by decide +kernel
theorem dX10_differential_40 : decode cX10_differential 40 = .ok (.iload_n 2, 1) := by decide +kernel
theorem dX10_differential_41 : decode cX10_differential 41 = .ok (.i2l, 1) := by decide +kernel
theorem dX10_differential_42 : decode cX10_differential 42 = .ok (.invokevirtual 18, 3) := by decide +kernel
theorem dX10_differential_45 : decode cX10_differential 45 = .ok (.aload_n 0, 1) := by decide +kernel
theorem dX10_differential_46 : decode cX10_differential 46 = .ok (.aload_n 0, 1) := by decide +kernel
theorem dX10_differential_47 : decode cX10_differential 47 = .ok (.iload_n 2, 1) := by decide +kernel
theorem dX10_differential_48 : decode cX10_differential 48 = .ok (.aload_n 0, 1) := by decide +kernel
theorem dX10_differential_49 : decode cX10_differential 49 = .ok (.getfield 253, 3) := by decide +kernel
theorem dX10_differential_52 : decode cX10_differential 52 = .ok (.invokevirtual 185, 3) := by decide +kernel
theorem dX10_differential_55 : decode cX10_differential 55 = .ok (.aload_n 0, 1) := by decide +kernel
theorem dX10_differential_56 : decode cX10_differential 56 = .ok (.iload_n 2, 1) := by decide +kernel
theorem dX10_differential_57 : decode cX10_differential 57 = .ok (.invokevirtual 159, 3) := by decide +kernel
theorem dX10_differential_60 : decode cX10_differential 60 = .ok (.idiv, 1) := by decide +kernel
theorem dX10_differential_61 : decode cX10_differential 61 = .ok (.i2l, 1) := by decide +kernel
theorem dX10_differential_62 : decode cX10_differential 62 = .ok (.invokevirtual 18, 3) := by decide +kernel
theorem dX10_differential_65 : decode cX10_differential 65 = .ok (.aload_n 0, 1) := by decide +kernel
theorem dX10_differential_66 : decode cX10_differential 66 = .ok (.aload_n 0, 1) := by decide +kernel
theorem dX10_differential_67 : decode cX10_differential 67 = .ok (.iload_n 2, 1) := by decide +kernel
theorem dX10_differential_68 : decode cX10_differential 68 = .ok (.aload_n 0, 1) := by decide +kernel
theorem dX10_differential_69 : decode cX10_differential 69 = .ok (.getfield 253, 3) := by decide +kernel
theorem dX10_differential_72 : decode cX10_differential 72 = .ok (.invokevirtual 185, 3) := by decide +kernel
theorem dX10_differential_75 : decode cX10_differential 75 = .ok (.aload_n 0, 1) := by decide +kernel
theorem dX10_differential_76 : decode cX10_differential 76 = .ok (.iload_n 2, 1) := by decide +kernel
theorem dX10_differential_77 : decode cX10_differential 77 = .ok (.invokevirtual 159, 3) := by decide +kernel
theorem dX10_differential_80 : decode cX10_differential 80 = .ok (.irem, 1) := by decide +kernel
theorem dX10_differential_81 : decode cX10_differential 81 = .ok (.i2l, 1) := by decide +kernel
theorem dX10_differential_82 : decode cX10_differential 82 = .ok (.invokevirtual 18, 3) := by decide +kernel
theorem dX10_differential_85 : decode cX10_differential 85 = .ok (.iconst 0, 1) := by decide +kernel
theorem dX10_differential_86 : decode cX10_differential 86 = .ok (.istore_n 3, 1) := by decide +kernel
theorem dX10_differential_87 : decode cX10_differential 87 = .ok (.iload_n 3, 1) := by decide +kernel
theorem dX10_differential_88 : decode cX10_differential 88 = .ok (.iconst 4, 1) := by decide +kernel
theorem dX10_differential_89 : decode cX10_differential 89 = .ok (.if_icmp .ge 20, 3) := by decide +kernel
theorem dX10_differential_92 : decode cX10_differential 92 = .ok (.aload_n 0, 1) := by decide +kernel
theorem dX10_differential_93 : decode cX10_differential 93 = .ok (.aload_n 0, 1) := by decide +kernel
theorem dX10_differential_94 : decode cX10_differential 94 = .ok (.getfield 83, 3) := by decide +kernel
theorem dX10_differential_97 : decode cX10_differential 97 = .ok (.iload_n 3, 1) := by decide +kernel
theorem dX10_differential_98 : decode cX10_differential 98 = .ok (.iaload, 1) := by decide +kernel
theorem dX10_differential_99 : decode cX10_differential 99 = .ok (.i2l, 1) := by decide +kernel
theorem dX10_differential_100 : decode cX10_differential 100 = .ok (.invokevirtual 18, 3) := by decide +kernel
theorem dX10_differential_103 : decode cX10_differential 103 = .ok (.iinc 3 1, 3) := by decide +kernel
theorem dX10_differential_106 : decode cX10_differential 106 = .ok (.goto (-19), 3) := by decide +kernel
theorem dX10_differential_109 : decode cX10_differential 109 = .ok (.aload_n 0, 1) := by decide +kernel
theorem dX10_differential_110 : decode cX10_differential 110 = .ok (.aload_n 0, 1) := by decide +kernel
theorem dX10_differential_111 : decode cX10_differential 111 = .ok (.getfield 256, 3) := by decide +kernel
theorem dX10_differential_114 : decode cX10_differential 114 = .ok (.i2l, 1) := by decide +kernel
theorem dX10_differential_115 : decode cX10_differential 115 = .ok (.invokevirtual 18, 3) := by decide +kernel
theorem dX10_differential_118 : decode cX10_differential 118 = .ok (.aload_n 0, 1) := by decide +kernel
theorem dX10_differential_119 : decode cX10_differential 119 = .ok (.getfield 253, 3) := by decide +kernel
theorem dX10_differential_122 : decode cX10_differential 122 = .ok (.ireturn, 1) := by decide +kernel
set_option maxRecDepth 20000 in
set_option maxHeartbeats 2000000 in
theorem V_X10_differential_0 {X : Ctx} (C : C_X10_differential X) {k n : Nat} {Q : Pq} {h : Hp} {v0 : Nat} {v1 : Int32}
    (hv : St10 h v0 ∧ ((¬ (btL (Int32.toInt64 v1) 2 400) = 0 → S_X10_findsDifferential (lX X) (dtX X) 0 0 [.ref v0, .int v1] (si h v0 0 0) (QI fun x3 h2 =>
    ((¬ x3 = 0 → St10 h2 v0 ∧ S_X10_firstSimple (lX X) (dtX X) 0 0 [.ref v0, .int (gi h2 v0 21)] h2 (QI fun x6 h5 =>
    St10 h5 v0 ∧ S_X10_enters (lX X) (dtX X) 0 0 [.ref v0, .long (Int32.toInt64 x6)] (si h5 v0 1 0) (QV fun h8 =>
    St10 h8 v0 ∧ inb (23 + x6) 732 ∧ ¬ (gi h8 v0 21) = 0 ∧ ¬ (gi h8 (v0 + 3) (ix (23 + x6))) = 0 ∧ S_X10_enters (lX X) (dtX X) 0 0 [.ref v0, .long (Int32.toInt64 ((gi h8 (v0 + 3) (ix 0) * gi h8 (v0 + 3) (ix (23 + x6)) / (gi h8 v0 21)) / (gi h8 (v0 + 3) (ix (23 + x6)))))] h8 (QV fun h13 =>
    St10 h13 v0 ∧ inb (23 + x6) 732 ∧ ¬ (gi h13 v0 21) = 0 ∧ ¬ (gi h13 (v0 + 3) (ix (23 + x6))) = 0 ∧ S_X10_enters (lX X) (dtX X) 0 0 [.ref v0, .long (Int32.toInt64 ((gi h13 (v0 + 3) (ix 0) * gi h13 (v0 + 3) (ix (23 + x6)) / (gi h13 v0 21)) % (gi h13 (v0 + 3) (ix (23 + x6)))))] h13 (QV fun h18 =>
    Wj X k n Q 87 [(0, .ref v0), (3, .int 0)] [] h18))))) ∧
    (x3 = 0 → Q (some (.int (-2))) h2)))) ∧
    ((btL (Int32.toInt64 v1) 2 400) = 0 → Q (some (.int (-1))) (si h v0 0 0)))) :
    Wj X k n Q 0 [(0, .ref v0), (1, .int v1)] [] h := by
  refine w_aload_n (pc := 0) C dX10_differential_0 rfl ?_
  refine w_iconst (pc := 1) C (v := 0) dX10_differential_1 (by decide) ?_
  obtain ⟨f1, hv⟩ := hv
  refine w_putI (pc := 2) C fl_X10_1 rfl rfl dX10_differential_2 (St10_k f1) ?_
  refine w_iload_n (pc := 5) C dX10_differential_5 rfl ?_
  refine w_cS0_1 (pc := 6) C cl_X10_179 ls_X10_isNumber (by decide) dX10_differential_6 (Nat.le_of_ble_eq_true rfl) ((sf_X10_isNumber (h := (si h v0 0 0)) ).mono (fun v h9 hp => ?_))
  obtain ⟨e1, e2⟩ := hp
  rw [e1, e2]
  refine w_if_ne (pc := 9) C (tgt := 14) dX10_differential_9 (by decide) ?_
  obtain ⟨hv1, hv2⟩ := hv
  refine ⟨fun c20 => ?_, fun c20 => ?_⟩
  · have hv := hv1 c20
    refine w_aload_n (pc := 14) C dX10_differential_14 rfl ?_
    refine w_iload_n (pc := 15) C dX10_differential_15 rfl ?_
    refine w_cV0_1 (pc := 16) C cl_X10_259 lv_X10_findsDifferential (by decide) dX10_differential_16 (Nat.le_of_ble_eq_true rfl) (c := 10) rfl (St10_k f1) (hv.mono (fun v h2 hp => ?_))
    obtain ⟨x3, rfl, hv⟩ := hp
    refine w_if_ne (pc := 19) C (tgt := 25) dX10_differential_19 (by decide) ?_
    obtain ⟨hv1, hv2⟩ := hv
    refine ⟨fun c19 => ?_, fun c19 => ?_⟩
    · have hv := hv1 c19
      refine w_aload_n (pc := 25) C dX10_differential_25 rfl ?_
      refine w_aload_n (pc := 26) C dX10_differential_26 rfl ?_
      obtain ⟨f4, hv⟩ := hv
      refine w_getI (pc := 27) C fl_X10_253 rfl dX10_differential_27 (St10_k f4) ?_
      refine w_cV0_1 (pc := 30) C cl_X10_182 lv_X10_firstSimple (by decide) dX10_differential_30 (Nat.le_of_ble_eq_true rfl) (c := 10) rfl (St10_k f4) (hv.mono (fun v h5 hp => ?_))
      obtain ⟨x6, rfl, hv⟩ := hp
      refine w_istore_n (pc := 33) C dX10_differential_33 (by decide) ?_
      refine w_aload_n (pc := 34) C dX10_differential_34 rfl ?_
      refine w_iconst (pc := 35) C (v := 0) dX10_differential_35 (by decide) ?_
      obtain ⟨f7, hv⟩ := hv
      refine w_putI (pc := 36) C fl_X10_11 rfl rfl dX10_differential_36 (St10_k f7) ?_
      refine w_aload_n (pc := 39) C dX10_differential_39 rfl ?_
      refine w_iload_n (pc := 40) C dX10_differential_40 rfl ?_
      refine w_i2l (pc := 41) C dX10_differential_41 ?_
      refine w_cV0_1 (pc := 42) C cl_X10_18 lv_X10_enters (by decide) dX10_differential_42 (Nat.le_of_ble_eq_true rfl) (c := 10) rfl (St10_k f7) (hv.mono (fun v h8 hp => ?_))
      obtain ⟨rfl, hv⟩ := hp
      refine w_aload_n (pc := 45) C dX10_differential_45 rfl ?_
      refine w_aload_n (pc := 46) C dX10_differential_46 rfl ?_
      refine w_iload_n (pc := 47) C dX10_differential_47 rfl ?_
      refine w_aload_n (pc := 48) C dX10_differential_48 rfl ?_
      obtain ⟨f9, hv⟩ := hv
      refine w_getI (pc := 49) C fl_X10_253 rfl dX10_differential_49 (St10_k f9) ?_
      obtain ⟨f10, hv⟩ := hv
      obtain ⟨f11, hv⟩ := hv
      refine w_cV0_2 (pc := 52) C cl_X10_185 lv_X10_allHoles (by decide) dX10_differential_52 (Nat.le_of_ble_eq_true rfl) (c := 10) rfl (St10_k f9) ((sf_X10_allHoles (h := h8) f9 f10 f11).mono (fun v h9 hp => ?_))
      obtain ⟨e1, e2⟩ := hp
      rw [e1, e2]
      refine w_aload_n (pc := 55) C dX10_differential_55 rfl ?_
      refine w_iload_n (pc := 56) C dX10_differential_56 rfl ?_
      refine w_cV0_1 (pc := 57) C cl_X10_159 lv_X10_holes (by decide) dX10_differential_57 (Nat.le_of_ble_eq_true rfl) (c := 10) rfl (St10_k f9) ((sf_X10_holes (h := h8) f9 f10).mono (fun v h9 hp => ?_))
      obtain ⟨e1, e2⟩ := hp
      rw [e1, e2]
      obtain ⟨f12, hv⟩ := hv
      refine w_idiv (pc := 60) C dX10_differential_60 f12 ?_
      refine w_i2l (pc := 61) C dX10_differential_61 ?_
      refine w_cV0_1 (pc := 62) C cl_X10_18 lv_X10_enters (by decide) dX10_differential_62 (Nat.le_of_ble_eq_true rfl) (c := 10) rfl (St10_k f9) (hv.mono (fun v h13 hp => ?_))
      obtain ⟨rfl, hv⟩ := hp
      refine w_aload_n (pc := 65) C dX10_differential_65 rfl ?_
      refine w_aload_n (pc := 66) C dX10_differential_66 rfl ?_
      refine w_iload_n (pc := 67) C dX10_differential_67 rfl ?_
      refine w_aload_n (pc := 68) C dX10_differential_68 rfl ?_
      obtain ⟨f14, hv⟩ := hv
      refine w_getI (pc := 69) C fl_X10_253 rfl dX10_differential_69 (St10_k f14) ?_
      obtain ⟨f15, hv⟩ := hv
      obtain ⟨f16, hv⟩ := hv
      refine w_cV0_2 (pc := 72) C cl_X10_185 lv_X10_allHoles (by decide) dX10_differential_72 (Nat.le_of_ble_eq_true rfl) (c := 10) rfl (St10_k f14) ((sf_X10_allHoles (h := h13) f14 f15 f16).mono (fun v h9 hp => ?_))
      obtain ⟨e1, e2⟩ := hp
      rw [e1, e2]
      refine w_aload_n (pc := 75) C dX10_differential_75 rfl ?_
      refine w_iload_n (pc := 76) C dX10_differential_76 rfl ?_
      refine w_cV0_1 (pc := 77) C cl_X10_159 lv_X10_holes (by decide) dX10_differential_77 (Nat.le_of_ble_eq_true rfl) (c := 10) rfl (St10_k f14) ((sf_X10_holes (h := h13) f14 f15).mono (fun v h9 hp => ?_))
      obtain ⟨e1, e2⟩ := hp
      rw [e1, e2]
      obtain ⟨f17, hv⟩ := hv
      refine w_irem (pc := 80) C dX10_differential_80 f17 ?_
      refine w_i2l (pc := 81) C dX10_differential_81 ?_
      refine w_cV0_1 (pc := 82) C cl_X10_18 lv_X10_enters (by decide) dX10_differential_82 (Nat.le_of_ble_eq_true rfl) (c := 10) rfl (St10_k f14) (hv.mono (fun v h18 hp => ?_))
      obtain ⟨rfl, hv⟩ := hp
      refine w_iconst (pc := 85) C (v := 0) dX10_differential_85 (by decide) ?_
      refine w_istore_n (pc := 86) C dX10_differential_86 (by decide) ?_
      refine w_sub ?_ hv
      exact ⟨rfl, rfl, trivial⟩
    · have hv := hv2 c19
      refine w_bipush (pc := 22) C (v := (-2)) dX10_differential_22 (by decide) ?_
      exact w_iret (pc := 24) C dX10_differential_24 hv
  · have hv := hv2 c20
    refine w_iconst (pc := 12) C (v := (-1)) dX10_differential_12 (by decide) ?_
    exact w_iret (pc := 13) C dX10_differential_13 hv
set_option maxRecDepth 20000 in
set_option maxHeartbeats 2000000 in
theorem V_X10_differential_87 {X : Ctx} (C : C_X10_differential X) {k n : Nat} {Q : Pq} {h : Hp} {v0 : Nat} {v3 : Int32}
    (hv : ((4 ≤ v3 → St10 h v0 ∧ S_X10_enters (lX X) (dtX X) 0 0 [.ref v0, .long (Int32.toInt64 (gi h v0 22))] h (QV fun h2 =>
    St10 h2 v0 ∧ Q (some (.int (gi h2 v0 21))) h2)) ∧
    (¬ 4 ≤ v3 → St10 h v0 ∧ inb v3 4 ∧ S_X10_enters (lX X) (dtX X) 0 0 [.ref v0, .long (Int32.toInt64 (gi h (v0 + 8) (ix v3)))] h (QV fun h6 =>
    Wj X k n Q 87 [(0, .ref v0), (3, .int (v3 + Int32.ofInt 1))] [] h6)))) :
    Wj X k n Q 87 [(0, .ref v0), (3, .int v3)] [] h := by
  refine w_iload_n (pc := 87) C dX10_differential_87 rfl ?_
  refine w_iconst (pc := 88) C (v := 4) dX10_differential_88 (by decide) ?_
  refine w_icmp_ge (pc := 89) C (tgt := 109) dX10_differential_89 (by decide) ?_
  obtain ⟨hv1, hv2⟩ := hv
  refine ⟨fun c7 => ?_, fun c7 => ?_⟩
  · have hv := hv1 c7
    refine w_aload_n (pc := 109) C dX10_differential_109 rfl ?_
    refine w_aload_n (pc := 110) C dX10_differential_110 rfl ?_
    obtain ⟨f1, hv⟩ := hv
    refine w_getI (pc := 111) C fl_X10_256 rfl dX10_differential_111 (St10_k f1) ?_
    refine w_i2l (pc := 114) C dX10_differential_114 ?_
    refine w_cV0_1 (pc := 115) C cl_X10_18 lv_X10_enters (by decide) dX10_differential_115 (Nat.le_of_ble_eq_true rfl) (c := 10) rfl (St10_k f1) (hv.mono (fun v h2 hp => ?_))
    obtain ⟨rfl, hv⟩ := hp
    refine w_aload_n (pc := 118) C dX10_differential_118 rfl ?_
    obtain ⟨f3, hv⟩ := hv
    refine w_getI (pc := 119) C fl_X10_253 rfl dX10_differential_119 (St10_k f3) ?_
    exact w_iret (pc := 122) C dX10_differential_122 hv
  · have hv := hv2 c7
    refine w_aload_n (pc := 92) C dX10_differential_92 rfl ?_
    refine w_aload_n (pc := 93) C dX10_differential_93 rfl ?_
    obtain ⟨f4, hv⟩ := hv
    refine w_getR (pc := 94) C fl_X10_83 rfl dX10_differential_94 (St10_k f4) (St10_r19 f4) ?_
    refine w_iload_n (pc := 97) C dX10_differential_97 rfl ?_
    obtain ⟨f5, hv⟩ := hv
    refine w_iald (pc := 98) C dX10_differential_98 (St10_k19 f4) (inbl (St10_l19 f4) f5) ?_
    refine w_i2l (pc := 99) C dX10_differential_99 ?_
    refine w_cV0_1 (pc := 100) C cl_X10_18 lv_X10_enters (by decide) dX10_differential_100 (Nat.le_of_ble_eq_true rfl) (c := 10) rfl (St10_k f4) (hv.mono (fun v h6 hp => ?_))
    obtain ⟨rfl, hv⟩ := hp
    refine w_iinc (pc := 103) C dX10_differential_103 rfl (by decide) ?_
    refine w_goto (pc := 106) C (tgt := 87) dX10_differential_106 (by decide) ?_
    refine w_sub ?_ hv
    exact ⟨rfl, rfl, trivial⟩
theorem dX10_waysOf_0 : decode cX10_waysOf 0 = .ok (.aload_n 0, 1) := by decide +kernel
theorem dX10_waysOf_1 : decode cX10_waysOf 1 = .ok (.iload_n 1, 1) := by decide +kernel
theorem dX10_waysOf_2 : decode cX10_waysOf 2 = .ok (.invokevirtual 182, 3) := by decide +kernel
theorem dX10_waysOf_5 : decode cX10_waysOf 5 = .ok (.ifCond .lt 7, 3) := by decide +kernel
theorem dX10_waysOf_8 : decode cX10_waysOf 8 = .ok (.iconst 1, 1) := by decide +kernel
theorem dX10_waysOf_9 : decode cX10_waysOf 9 = .ok (.goto 4, 3) := by decide +kernel
theorem dX10_waysOf_12 : decode cX10_waysOf 12 = .ok (.iconst 0, 1) := by decide +kernel
theorem dX10_waysOf_13 : decode cX10_waysOf 13 = .ok (.invokestatic 39, 3) := by decide +kernel
theorem dX10_waysOf_16 : decode cX10_waysOf 16 = .ok (.iconst 2, 1) := by decide +kernel
theorem dX10_waysOf_17 : decode cX10_waysOf 17 = .ok (.aload_n 0, 1) := by decide +kernel
theorem dX10_waysOf_18 : decode cX10_waysOf 18 = .ok (.iload_n 1, 1) := by decide +kernel
theorem dX10_waysOf_19 : decode cX10_waysOf 19 = .ok (.invokevirtual 211, 3) := by decide +kernel
theorem dX10_waysOf_22 : decode cX10_waysOf 22 = .ok (.ifCond .lt 7, 3) := by decide +kernel
theorem dX10_waysOf_25 : decode cX10_waysOf 25 = .ok (.iconst 1, 1) := by decide +kernel
theorem dX10_waysOf_26 : decode cX10_waysOf 26 = .ok (.goto 4, 3) := by decide +kernel
theorem dX10_waysOf_29 : decode cX10_waysOf 29 = .ok (.iconst 0, 1) := by decide +kernel
theorem dX10_waysOf_30 : decode cX10_waysOf 30 = .ok (.invokestatic 39, 3) := by decide +kernel
theorem dX10_waysOf_33 : decode cX10_waysOf 33 = .ok (.imul, 1) := by decide +kernel
theorem dX10_waysOf_34 : decode cX10_waysOf 34 = .ok (.iadd, 1) := by decide +kernel
theorem dX10_waysOf_35 : decode cX10_waysOf 35 = .ok (.iconst 4, 1) := by decide +kernel
theorem dX10_waysOf_36 : decode cX10_waysOf 36 = .ok (.aload_n 0, 1) := by decide +kernel
theorem dX10_waysOf_37 : decode cX10_waysOf 37 = .ok (.iload_n 1, 1) := by decide +kernel
theorem dX10_waysOf_38 : decode cX10_waysOf 38 = .ok (.invokevirtual 259, 3) := by decide +kernel
theorem dX10_waysOf_41 : decode cX10_waysOf 41 = .ok (.invokestatic 39, 3) := by decide +kernel
theorem dX10_waysOf_44 : decode cX10_waysOf 44 = .ok (.imul, 1) := by decide +kernel
theorem dX10_waysOf_45 : decode cX10_waysOf 45 = .ok (.iadd, 1) := by decide +kernel
theorem dX10_waysOf_46 : decode cX10_waysOf 46 = .ok (.ireturn, 1) := by decide +kernel
set_option maxRecDepth 20000 in
set_option maxHeartbeats 2000000 in
theorem V_X10_waysOf_0 {X : Ctx} (C : C_X10_waysOf X) {k n : Nat} {Q : Pq} {h : Hp} {v0 : Nat} {v1 : Int32}
    (hv : St10 h v0 ∧ S_X10_firstSimple (lX X) (dtX X) 0 0 [.ref v0, .int v1] h (QI fun x3 h2 =>
    ((x3 < 0 → Wj X k n Q 13 [(0, .ref v0), (1, .int v1)] [.int 0] h2) ∧
    (¬ x3 < 0 → Wj X k n Q 13 [(0, .ref v0), (1, .int v1)] [.int 1] h2)))) :
    Wj X k n Q 0 [(0, .ref v0), (1, .int v1)] [] h := by
  refine w_aload_n (pc := 0) C dX10_waysOf_0 rfl ?_
  refine w_iload_n (pc := 1) C dX10_waysOf_1 rfl ?_
  obtain ⟨f1, hv⟩ := hv
  refine w_cV0_1 (pc := 2) C cl_X10_182 lv_X10_firstSimple (by decide) dX10_waysOf_2 (Nat.le_of_ble_eq_true rfl) (c := 10) rfl (St10_k f1) (hv.mono (fun v h2 hp => ?_))
  obtain ⟨x3, rfl, hv⟩ := hp
  refine w_if_lt (pc := 5) C (tgt := 12) dX10_waysOf_5 (by decide) ?_
  obtain ⟨hv1, hv2⟩ := hv
  refine ⟨fun c4 => ?_, fun c4 => ?_⟩
  · have hv := hv1 c4
    refine w_iconst (pc := 12) C (v := 0) dX10_waysOf_12 (by decide) ?_
    refine w_sub ?_ hv
    exact ⟨rfl, rfl, trivial⟩
  · have hv := hv2 c4
    refine w_iconst (pc := 8) C (v := 1) dX10_waysOf_8 (by decide) ?_
    refine w_goto (pc := 9) C (tgt := 13) dX10_waysOf_9 (by decide) ?_
    refine w_sub ?_ hv
    exact ⟨rfl, rfl, trivial⟩
set_option maxRecDepth 20000 in
set_option maxHeartbeats 2000000 in
theorem V_X10_waysOf_13 {X : Ctx} (C : C_X10_waysOf X) {k n : Nat} {Q : Pq} {h : Hp} {v0 : Nat} {v1 s0 : Int32}
    (hv : St10 h v0 ∧ S_X10_findsCompound (lX X) (dtX X) 0 0 [.ref v0, .int v1] h (QI fun x3 h2 =>
    ((x3 < 0 → Wj X k n Q 30 [(0, .ref v0), (1, .int v1)] [.int 0, .int 2, .int (flg s0)] h2) ∧
    (¬ x3 < 0 → Wj X k n Q 30 [(0, .ref v0), (1, .int v1)] [.int 1, .int 2, .int (flg s0)] h2)))) :
    Wj X k n Q 13 [(0, .ref v0), (1, .int v1)] [.int s0] h := by
  refine w_cS0_1 (pc := 13) C cl_X10_39 ls_X10_flag (by decide) dX10_waysOf_13 (Nat.le_of_ble_eq_true rfl) ((sf_X10_flag (h := h) ).mono (fun v h9 hp => ?_))
  obtain ⟨e1, e2⟩ := hp
  rw [e1, e2]
  refine w_iconst (pc := 16) C (v := 2) dX10_waysOf_16 (by decide) ?_
  refine w_aload_n (pc := 17) C dX10_waysOf_17 rfl ?_
  refine w_iload_n (pc := 18) C dX10_waysOf_18 rfl ?_
  obtain ⟨f1, hv⟩ := hv
  refine w_cV0_1 (pc := 19) C cl_X10_211 lv_X10_findsCompound (by decide) dX10_waysOf_19 (Nat.le_of_ble_eq_true rfl) (c := 10) rfl (St10_k f1) (hv.mono (fun v h2 hp => ?_))
  obtain ⟨x3, rfl, hv⟩ := hp
  refine w_if_lt (pc := 22) C (tgt := 29) dX10_waysOf_22 (by decide) ?_
  obtain ⟨hv1, hv2⟩ := hv
  refine ⟨fun c4 => ?_, fun c4 => ?_⟩
  · have hv := hv1 c4
    refine w_iconst (pc := 29) C (v := 0) dX10_waysOf_29 (by decide) ?_
    refine w_sub ?_ hv
    exact ⟨rfl, rfl, trivial⟩
  · have hv := hv2 c4
    refine w_iconst (pc := 25) C (v := 1) dX10_waysOf_25 (by decide) ?_
    refine w_goto (pc := 26) C (tgt := 30) dX10_waysOf_26 (by decide) ?_
    refine w_sub ?_ hv
    exact ⟨rfl, rfl, trivial⟩
set_option maxRecDepth 20000 in
set_option maxHeartbeats 2000000 in
theorem V_X10_waysOf_30 {X : Ctx} (C : C_X10_waysOf X) {k n : Nat} {Q : Pq} {h : Hp} {v0 : Nat} {v1 s0 s1 s2 : Int32}
    (hv : St10 h v0 ∧ S_X10_findsDifferential (lX X) (dtX X) 0 0 [.ref v0, .int v1] h (QI fun x3 h2 =>
    Q (some (.int ((s0 + (s1 * (flg s2))) + (4 * (flg x3))))) h2)) :
    Wj X k n Q 30 [(0, .ref v0), (1, .int v1)] [.int s2, .int s1, .int s0] h := by
  refine w_cS0_1 (pc := 30) C cl_X10_39 ls_X10_flag (by decide) dX10_waysOf_30 (Nat.le_of_ble_eq_true rfl) ((sf_X10_flag (h := h) ).mono (fun v h9 hp => ?_))
  obtain ⟨e1, e2⟩ := hp
  rw [e1, e2]
  refine w_imul (pc := 33) C dX10_waysOf_33 ?_
  refine w_iadd (pc := 34) C dX10_waysOf_34 ?_
  refine w_iconst (pc := 35) C (v := 4) dX10_waysOf_35 (by decide) ?_
  refine w_aload_n (pc := 36) C dX10_waysOf_36 rfl ?_
  refine w_iload_n (pc := 37) C dX10_waysOf_37 rfl ?_
  obtain ⟨f1, hv⟩ := hv
  refine w_cV0_1 (pc := 38) C cl_X10_259 lv_X10_findsDifferential (by decide) dX10_waysOf_38 (Nat.le_of_ble_eq_true rfl) (c := 10) rfl (St10_k f1) (hv.mono (fun v h2 hp => ?_))
  obtain ⟨x3, rfl, hv⟩ := hp
  refine w_cS0_1 (pc := 41) C cl_X10_39 ls_X10_flag (by decide) dX10_waysOf_41 (Nat.le_of_ble_eq_true rfl) ((sf_X10_flag (h := h2) ).mono (fun v h9 hp => ?_))
  obtain ⟨e1, e2⟩ := hp
  rw [e1, e2]
  refine w_imul (pc := 44) C dX10_waysOf_44 ?_
  refine w_iadd (pc := 45) C dX10_waysOf_45 ?_
  exact w_iret (pc := 46) C dX10_waysOf_46 hv
theorem dX10_ways_0 : decode cX10_ways 0 = .ok (.aload_n 0, 1) := by decide +kernel
theorem dX10_ways_1 : decode cX10_ways 1 = .ok (.iconst 0, 1) := by decide +kernel
theorem dX10_ways_2 : decode cX10_ways 2 = .ok (.putfield 1, 3) := by decide +kernel
theorem dX10_ways_5 : decode cX10_ways 5 = .ok (.iload_n 1, 1) := by decide +kernel
theorem dX10_ways_6 : decode cX10_ways 6 = .ok (.invokestatic 179, 3) := by decide +kernel
theorem dX10_ways_9 : decode cX10_ways 9 = .ok (.ifCond .ne 5, 3) := by decide +kernel
theorem dX10_ways_12 : decode cX10_ways 12 = .ok (.iconst (-1), 1) := by decide +kernel
theorem dX10_ways_13 : decode cX10_ways 13 = .ok (.ireturn, 1) := by decide +kernel
theorem dX10_ways_14 : decode cX10_ways 14 = .ok (.aload_n 0, 1) := by decide +kernel
theorem dX10_ways_15 : decode cX10_ways 15 = .ok (.iload_n 1, 1) := by decide +kernel
theorem dX10_ways_16 : decode cX10_ways 16 = .ok (.invokevirtual 262, 3) := by decide +kernel
theorem dX10_ways_19 : decode cX10_ways 19 = .ok (.istore_n 2, 1) := by decide +kernel
theorem dX10_ways_20 : decode cX10_ways 20 = .ok (.aload_n 0, 1) := by decide +kernel
theorem dX10_ways_21 : decode cX10_ways 21 = .ok (.iconst 0, 1) := by decide +kernel
theorem dX10_ways_22 : decode cX10_ways 22 = .ok (.putfield 11, 3) := by decide +kernel
theorem dX10_ways_25 : decode cX10_ways 25 = .ok (.aload_n 0, 1) := by decide +kernel
theorem dX10_ways_26 : decode cX10_ways 26 = .ok (.iload_n 2, 1) := by decide +kernel
theorem dX10_ways_27 : decode cX10_ways 27 = .ok (.iconst 2, 1) := by decide +kernel
theorem dX10_ways_28 : decode cX10_ways 28 = .ok (.irem, 1) := by decide +kernel
theorem dX10_ways_29 : decode cX10_ways 29 = .ok (.iload_n 2, 1) := by decide +kernel
theorem dX10_ways_30 : decode cX10_ways 30 = .ok (.iconst 2, 1) := by decide +kernel
theorem dX10_ways_31 : decode cX10_ways 31 = .ok (.idiv, 1) := by decide +kernel
theorem dX10_ways_32 : decode cX10_ways 32 = .ok (.iconst 2, 1) := by decide +kernel
theorem dX10_ways_33 : decode cX10_ways 33 = .ok (.irem, 1) := by decide +kernel
theorem dX10_ways_34 : decode cX10_ways 34 = .ok (.iadd, 1) := by decide +kernel
theorem dX10_ways_35 : decode cX10_ways 35 = .ok (.iload_n 2, 1) := by decide +kernel
theorem dX10_ways_36 : decode cX10_ways 36 = .ok (.iconst 4, 1) := by decide +kernel
theorem dX10_ways_37 : decode cX10_ways 37 = .ok (.idiv, 1) := by decide +kernel
theorem dX10_ways_38 : decode cX10_ways 38 = .ok (.iadd, 1) := by decide +kernel
theorem dX10_ways_39 : decode cX10_ways 39 = .ok (.i2l, 1) := by decide +kernel
theorem dX10_ways_40 : decode cX10_ways 40 = .ok (.invokevirtual 18, 3) := by decide +kernel
theorem dX10_ways_43 : decode cX10_ways 43 = .ok (.iload_n 2, 1) := by decide +kernel
theorem dX10_ways_44 : decode cX10_ways 44 = .ok (.ireturn, 1) := by decide +kernel
set_option maxRecDepth 20000 in
set_option maxHeartbeats 2000000 in
theorem V_X10_ways_0 {X : Ctx} (C : C_X10_ways X) {k n : Nat} {Q : Pq} {h : Hp} {v0 : Nat} {v1 : Int32}
    (hv : St10 h v0 ∧ ((¬ (btL (Int32.toInt64 v1) 2 400) = 0 → S_X10_waysOf (lX X) (dtX X) 0 0 [.ref v0, .int v1] (si h v0 0 0) (QI fun x3 h2 =>
    St10 h2 v0 ∧ S_X10_enters (lX X) (dtX X) 0 0 [.ref v0, .long (Int32.toInt64 (((x3 % 2) + ((x3 / 2) % 2)) + (x3 / 4)))] (si h2 v0 1 0) (QV fun h5 =>
    Q (some (.int x3)) h5))) ∧
    ((btL (Int32.toInt64 v1) 2 400) = 0 → Q (some (.int (-1))) (si h v0 0 0)))) :
    Wj X k n Q 0 [(0, .ref v0), (1, .int v1)] [] h := by
  refine w_aload_n (pc := 0) C dX10_ways_0 rfl ?_
  refine w_iconst (pc := 1) C (v := 0) dX10_ways_1 (by decide) ?_
  obtain ⟨f1, hv⟩ := hv
  refine w_putI (pc := 2) C fl_X10_1 rfl rfl dX10_ways_2 (St10_k f1) ?_
  refine w_iload_n (pc := 5) C dX10_ways_5 rfl ?_
  refine w_cS0_1 (pc := 6) C cl_X10_179 ls_X10_isNumber (by decide) dX10_ways_6 (Nat.le_of_ble_eq_true rfl) ((sf_X10_isNumber (h := (si h v0 0 0)) ).mono (fun v h9 hp => ?_))
  obtain ⟨e1, e2⟩ := hp
  rw [e1, e2]
  refine w_if_ne (pc := 9) C (tgt := 14) dX10_ways_9 (by decide) ?_
  obtain ⟨hv1, hv2⟩ := hv
  refine ⟨fun c6 => ?_, fun c6 => ?_⟩
  · have hv := hv1 c6
    refine w_aload_n (pc := 14) C dX10_ways_14 rfl ?_
    refine w_iload_n (pc := 15) C dX10_ways_15 rfl ?_
    refine w_cV0_1 (pc := 16) C cl_X10_262 lv_X10_waysOf (by decide) dX10_ways_16 (Nat.le_of_ble_eq_true rfl) (c := 10) rfl (St10_k f1) (hv.mono (fun v h2 hp => ?_))
    obtain ⟨x3, rfl, hv⟩ := hp
    refine w_istore_n (pc := 19) C dX10_ways_19 (by decide) ?_
    refine w_aload_n (pc := 20) C dX10_ways_20 rfl ?_
    refine w_iconst (pc := 21) C (v := 0) dX10_ways_21 (by decide) ?_
    obtain ⟨f4, hv⟩ := hv
    refine w_putI (pc := 22) C fl_X10_11 rfl rfl dX10_ways_22 (St10_k f4) ?_
    refine w_aload_n (pc := 25) C dX10_ways_25 rfl ?_
    refine w_iload_n (pc := 26) C dX10_ways_26 rfl ?_
    refine w_iconst (pc := 27) C (v := 2) dX10_ways_27 (by decide) ?_
    refine w_irem (pc := 28) C dX10_ways_28 (by decide) ?_
    refine w_iload_n (pc := 29) C dX10_ways_29 rfl ?_
    refine w_iconst (pc := 30) C (v := 2) dX10_ways_30 (by decide) ?_
    refine w_idiv (pc := 31) C dX10_ways_31 (by decide) ?_
    refine w_iconst (pc := 32) C (v := 2) dX10_ways_32 (by decide) ?_
    refine w_irem (pc := 33) C dX10_ways_33 (by decide) ?_
    refine w_iadd (pc := 34) C dX10_ways_34 ?_
    refine w_iload_n (pc := 35) C dX10_ways_35 rfl ?_
    refine w_iconst (pc := 36) C (v := 4) dX10_ways_36 (by decide) ?_
    refine w_idiv (pc := 37) C dX10_ways_37 (by decide) ?_
    refine w_iadd (pc := 38) C dX10_ways_38 ?_
    refine w_i2l (pc := 39) C dX10_ways_39 ?_
    refine w_cV0_1 (pc := 40) C cl_X10_18 lv_X10_enters (by decide) dX10_ways_40 (Nat.le_of_ble_eq_true rfl) (c := 10) rfl (St10_k f4) (hv.mono (fun v h5 hp => ?_))
    obtain ⟨rfl, hv⟩ := hp
    refine w_iload_n (pc := 43) C dX10_ways_43 rfl ?_
    exact w_iret (pc := 44) C dX10_ways_44 hv
  · have hv := hv2 c6
    refine w_iconst (pc := 12) C (v := (-1)) dX10_ways_12 (by decide) ?_
    exact w_iret (pc := 13) C dX10_ways_13 hv
theorem dX10_hard_0 : decode cX10_hard 0 = .ok (.aload_n 0, 1) := by decide +kernel
theorem dX10_hard_1 : decode cX10_hard 1 = .ok (.iconst 0, 1) := by decide +kernel
theorem dX10_hard_2 : decode cX10_hard 2 = .ok (.putfield 1, 3) := by decide +kernel
theorem dX10_hard_5 : decode cX10_hard 5 = .ok (.iload_n 1, 1) := by decide +kernel
theorem dX10_hard_6 : decode cX10_hard 6 = .ok (.invokestatic 179, 3) := by decide +kernel
theorem dX10_hard_9 : decode cX10_hard 9 = .ok (.ifCond .eq 23, 3) := by decide +kernel
theorem dX10_hard_12 : decode cX10_hard 12 = .ok (.iload_n 2, 1) := by decide +kernel
theorem dX10_hard_13 : decode cX10_hard 13 = .ok (.invokestatic 179, 3) := by decide +kernel
theorem dX10_hard_16 : decode cX10_hard 16 = .ok (.ifCond .eq 16, 3) := by decide +kernel
theorem dX10_hard_19 : decode cX10_hard 19 = .ok (.iload_n 2, 1) := by decide +kernel
theorem dX10_hard_20 : decode cX10_hard 20 = .ok (.iload_n 1, 1) := by decide +kernel
theorem dX10_hard_21 : decode cX10_hard 21 = .ok (.if_icmp .lt 11, 3) := by decide +kernel
theorem dX10_hard_24 : decode cX10_hard 24 = .ok (.iload_n 2, 1) := by decide +kernel
theorem dX10_hard_25 : decode cX10_hard 25 = .ok (.iload_n 1, 1) := by decide +kernel
theorem dX10_hard_26 : decode cX10_hard 26 = .ok (.isub, 1) := by decide +kernel
theorem dX10_hard_27 : decode cX10_hard 27 = .ok (.bipush 60, 2) := by decide +kernel
theorem dX10_hard_29 : decode cX10_hard 29 = .ok (.if_icmp .lt 5, 3) := by decide +kernel
theorem dX10_hard_32 : decode cX10_hard 32 = .ok (.iconst (-1), 1) := by decide +kernel
theorem dX10_hard_33 : decode cX10_hard 33 = .ok (.ireturn, 1) := by decide +kernel
theorem dX10_hard_34 : decode cX10_hard 34 = .ok (.iconst 0, 1) := by decide +kernel
theorem dX10_hard_35 : decode cX10_hard 35 = .ok (.istore_n 3, 1) := by decide +kernel
theorem dX10_hard_36 : decode cX10_hard 36 = .ok (.iconst (-1), 1) := by decide +kernel
theorem dX10_hard_37 : decode cX10_hard 37 = .ok (.istore 4, 2) := by decide +kernel
theorem dX10_hard_39 : decode cX10_hard 39 = .ok (.iconst 0, 1) := by decide +kernel
theorem dX10_hard_40 : decode cX10_hard 40 = .ok (.istore 5, 2) := by decide +kernel
theorem dX10_hard_42 : decode cX10_hard 42 = .ok (.iconst 0, 1) := by decide +kernel
theorem dX10_hard_43 : decode cX10_hard 43 = .ok (.istore 6, 2) := by decide +kernel
theorem dX10_hard_45 : decode cX10_hard 45 = .ok (.iconst 0, 1) := by decide +kernel
theorem dX10_hard_46 : decode cX10_hard 46 = .ok (.istore 7, 2) := by decide +kernel
theorem dX10_hard_48 : decode cX10_hard 48 = .ok (.iload_n 2, 1) := by decide +kernel
theorem dX10_hard_49 : decode cX10_hard 49 = .ok (.istore 8, 2) := by decide +kernel
theorem dX10_hard_51 : decode cX10_hard 51 = .ok (.iload 8, 2) := by decide +kernel
theorem dX10_hard_53 : decode cX10_hard 53 = .ok (.iload_n 1, 1) := by decide +kernel
theorem dX10_hard_54 : decode cX10_hard 54 = .ok (.if_icmp .lt 74, 3) := by decide +kernel
theorem dX10_hard_57 : decode cX10_hard 57 = .ok (.aload_n 0, 1) := by decide +kernel
theorem dX10_hard_58 : decode cX10_hard 58 = .ok (.iload 8, 2) := by decide +kernel
theorem dX10_hard_60 : decode cX10_hard 60 = .ok (.invokevirtual 182, 3) := by decide +kernel
theorem dX10_hard_63 : decode cX10_hard 63 = .ok (.ifCond .lt 6, 3) := by decide +kernel
theorem dX10_hard_66 : decode cX10_hard 66 = .ok (.goto 56, 3) := by decide +kernel
theorem dX10_hard_69 : decode cX10_hard 69 = .ok (.aload_n 0, 1) := by decide +kernel
theorem dX10_hard_70 : decode cX10_hard 70 = .ok (.iload 8, 2) := by decide +kernel
theorem dX10_hard_72 : decode cX10_hard 72 = .ok (.invokevirtual 262, 3) := by decide +kernel
theorem dX10_hard_75 : decode cX10_hard 75 = .ok (.istore 9, 2) := by decide +kernel
theorem dX10_hard_77 : decode cX10_hard 77 = .ok (.iinc 3 1, 3) := by decide +kernel
theorem dX10_hard_80 : decode cX10_hard 80 = .ok (.iload 8, 2) := by decide +kernel
theorem dX10_hard_82 : decode cX10_hard 82 = .ok (.istore 4, 2) := by decide +kernel
theorem dX10_hard_84 : decode cX10_hard 84 = .ok (.iload 5, 2) := by decide +kernel
theorem dX10_hard_86 : decode cX10_hard 86 = .ok (.iload 9, 2) := by decide +kernel
theorem dX10_hard_88 : decode cX10_hard 88 = .ok (.iconst 2, 1) := by decide +kernel
theorem dX10_hard_89 : decode cX10_hard 89 = .ok (.idiv, 1) := by decide +kernel
theorem dX10_hard_90 : decode cX10_hard 90 = .ok (.iconst 2, 1) := by decide +kernel
theorem dX10_hard_91 : decode cX10_hard 91 = .ok (.irem, 1) := by decide +kernel
theorem dX10_hard_92 : decode cX10_hard 92 = .ok (.iadd, 1) := by decide +kernel
theorem dX10_hard_93 : decode cX10_hard 93 = .ok (.istore 5, 2) := by decide +kernel
theorem dX10_hard_95 : decode cX10_hard 95 = .ok (.iload 6, 2) := by decide +kernel
theorem dX10_hard_97 : decode cX10_hard 97 = .ok (.iload 9, 2) := by decide +kernel
theorem dX10_hard_99 : decode cX10_hard 99 = .ok (.iconst 4, 1) := by decide +kernel
theorem dX10_hard_100 : decode cX10_hard 100 = .ok (.idiv, 1) := by decide +kernel
theorem dX10_hard_101 : decode cX10_hard 101 = .ok (.iadd, 1) := by decide +kernel
theorem dX10_hard_102 : decode cX10_hard 102 = .ok (.istore 6, 2) := by decide +kernel
theorem dX10_hard_104 : decode cX10_hard 104 = .ok (.iload 7, 2) := by decide +kernel
theorem dX10_hard_106 : decode cX10_hard 106 = .ok (.iload 9, 2) := by decide +kernel
theorem dX10_hard_108 : decode cX10_hard 108 = .ok (.ifCond .ne 7, 3) := by decide +kernel
theorem dX10_hard_111 : decode cX10_hard 111 = .ok (.iconst 1, 1) := by decide +kernel
theorem dX10_hard_112 : decode cX10_hard 112 = .ok (.goto 4, 3) := by decide +kernel
theorem dX10_hard_115 : decode cX10_hard 115 = .ok (.iconst 0, 1) := by decide +kernel
theorem dX10_hard_116 : decode cX10_hard 116 = .ok (.invokestatic 39, 3) := by decide +kernel
theorem dX10_hard_119 : decode cX10_hard 119 = .ok (.iadd, 1) := by decide +kernel
theorem dX10_hard_120 : decode cX10_hard 120 = .ok (.istore 7, 2) := by decide +kernel
theorem dX10_hard_122 : decode cX10_hard 122 = .ok (.iinc 8 (-1), 3) := by decide +kernel
theorem dX10_hard_125 : decode cX10_hard 125 = .ok (.goto (-74), 3) := by decide +kernel
theorem dX10_hard_128 : decode cX10_hard 128 = .ok (.aload_n 0, 1) := by decide +kernel
theorem dX10_hard_129 : decode cX10_hard 129 = .ok (.iconst 0, 1) := by decide +kernel
theorem dX10_hard_130 : decode cX10_hard 130 = .ok (.putfield 11, 3) := by decide +kernel
theorem dX10_hard_133 : decode cX10_hard 133 = .ok (.aload_n 0, 1) := by decide +kernel
theorem dX10_hard_134 : decode cX10_hard 134 = .ok (.iload 4, 2) := by decide +kernel
theorem dX10_hard_136 : decode cX10_hard 136 = .ok (.i2l, 1) := by decide +kernel
theorem dX10_hard_137 : decode cX10_hard 137 = .ok (.invokevirtual 18, 3) := by decide +kernel
theorem dX10_hard_140 : decode cX10_hard 140 = .ok (.aload_n 0, 1) := by decide +kernel
theorem dX10_hard_141 : decode cX10_hard 141 = .ok (.iload 5, 2) := by decide +kernel
theorem dX10_hard_143 : decode cX10_hard 143 = .ok (.i2l, 1) := by decide +kernel
theorem dX10_hard_144 : decode cX10_hard 144 = .ok (.invokevirtual 18, 3) := by decide +kernel
theorem dX10_hard_147 : decode cX10_hard 147 = .ok (.aload_n 0, 1) := by decide +kernel
theorem dX10_hard_148 : decode cX10_hard 148 = .ok (.iload 6, 2) := by decide +kernel
theorem dX10_hard_150 : decode cX10_hard 150 = .ok (.i2l, 1) := by decide +kernel
theorem dX10_hard_151 : decode cX10_hard 151 = .ok (.invokevirtual 18, 3) := by decide +kernel
theorem dX10_hard_154 : decode cX10_hard 154 = .ok (.aload_n 0, 1) := by decide +kernel
theorem dX10_hard_155 : decode cX10_hard 155 = .ok (.iload 7, 2) := by decide +kernel
theorem dX10_hard_157 : decode cX10_hard 157 = .ok (.i2l, 1) := by decide +kernel
theorem dX10_hard_158 : decode cX10_hard 158 = .ok (.invokevirtual 18, 3) := by decide +kernel
theorem dX10_hard_161 : decode cX10_hard 161 = .ok (.iload_n 3, 1) := by decide +kernel
theorem dX10_hard_162 : decode cX10_hard 162 = .ok (.ireturn, 1) := by decide +kernel
set_option maxRecDepth 20000 in
set_option maxHeartbeats 2000000 in
theorem V_X10_hard_0 {X : Ctx} (C : C_X10_hard X) {k n : Nat} {Q : Pq} {h : Hp} {v0 : Nat} {v1 v2 : Int32}
    (hv : St10 h v0 ∧ (((btL (Int32.toInt64 v1) 2 400) = 0 → Q (some (.int (-1))) (si h v0 0 0)) ∧
    (¬ (btL (Int32.toInt64 v1) 2 400) = 0 → (((btL (Int32.toInt64 v2) 2 400) = 0 → Q (some (.int (-1))) (si h v0 0 0)) ∧
    (¬ (btL (Int32.toInt64 v2) 2 400) = 0 → ((v2 < v1 → Q (some (.int (-1))) (si h v0 0 0)) ∧
    (¬ v2 < v1 → (((v2 - v1) < 60 → Wj X k n Q 51 [(0, .ref v0), (1, .int v1), (3, .int 0), (4, .int (-1)), (5, .int 0), (6, .int 0), (7, .int 0), (8, .int v2)] [] (si h v0 0 0)) ∧
    (¬ (v2 - v1) < 60 → Q (some (.int (-1))) (si h v0 0 0)))))))))) :
    Wj X k n Q 0 [(0, .ref v0), (1, .int v1), (2, .int v2)] [] h := by
  refine w_aload_n (pc := 0) C dX10_hard_0 rfl ?_
  refine w_iconst (pc := 1) C (v := 0) dX10_hard_1 (by decide) ?_
  obtain ⟨f1, hv⟩ := hv
  refine w_putI (pc := 2) C fl_X10_1 rfl rfl dX10_hard_2 (St10_k f1) ?_
  refine w_iload_n (pc := 5) C dX10_hard_5 rfl ?_
  refine w_cS0_1 (pc := 6) C cl_X10_179 ls_X10_isNumber (by decide) dX10_hard_6 (Nat.le_of_ble_eq_true rfl) ((sf_X10_isNumber (h := (si h v0 0 0)) ).mono (fun v h9 hp => ?_))
  obtain ⟨e1, e2⟩ := hp
  rw [e1, e2]
  refine w_if_eq (pc := 9) C (tgt := 32) dX10_hard_9 (by decide) ?_
  obtain ⟨hv1, hv2⟩ := hv
  refine ⟨fun c5 => ?_, fun c5 => ?_⟩
  · have hv := hv1 c5
    refine w_iconst (pc := 32) C (v := (-1)) dX10_hard_32 (by decide) ?_
    exact w_iret (pc := 33) C dX10_hard_33 hv
  · have hv := hv2 c5
    refine w_iload_n (pc := 12) C dX10_hard_12 rfl ?_
    refine w_cS0_1 (pc := 13) C cl_X10_179 ls_X10_isNumber (by decide) dX10_hard_13 (Nat.le_of_ble_eq_true rfl) ((sf_X10_isNumber (h := (si h v0 0 0)) ).mono (fun v h9 hp => ?_))
    obtain ⟨e1, e2⟩ := hp
    rw [e1, e2]
    refine w_if_eq (pc := 16) C (tgt := 32) dX10_hard_16 (by decide) ?_
    obtain ⟨hv1, hv2⟩ := hv
    refine ⟨fun c4 => ?_, fun c4 => ?_⟩
    · have hv := hv1 c4
      refine w_iconst (pc := 32) C (v := (-1)) dX10_hard_32 (by decide) ?_
      exact w_iret (pc := 33) C dX10_hard_33 hv
    · have hv := hv2 c4
      refine w_iload_n (pc := 19) C dX10_hard_19 rfl ?_
      refine w_iload_n (pc := 20) C dX10_hard_20 rfl ?_
      refine w_icmp_lt (pc := 21) C (tgt := 32) dX10_hard_21 (by decide) ?_
      obtain ⟨hv1, hv2⟩ := hv
      refine ⟨fun c3 => ?_, fun c3 => ?_⟩
      · have hv := hv1 c3
        refine w_iconst (pc := 32) C (v := (-1)) dX10_hard_32 (by decide) ?_
        exact w_iret (pc := 33) C dX10_hard_33 hv
      · have hv := hv2 c3
        refine w_iload_n (pc := 24) C dX10_hard_24 rfl ?_
        refine w_iload_n (pc := 25) C dX10_hard_25 rfl ?_
        refine w_isub (pc := 26) C dX10_hard_26 ?_
        refine w_bipush (pc := 27) C (v := 60) dX10_hard_27 (by decide) ?_
        refine w_icmp_lt (pc := 29) C (tgt := 34) dX10_hard_29 (by decide) ?_
        obtain ⟨hv1, hv2⟩ := hv
        refine ⟨fun c2 => ?_, fun c2 => ?_⟩
        · have hv := hv1 c2
          refine w_iconst (pc := 34) C (v := 0) dX10_hard_34 (by decide) ?_
          refine w_istore_n (pc := 35) C dX10_hard_35 (by decide) ?_
          refine w_iconst (pc := 36) C (v := (-1)) dX10_hard_36 (by decide) ?_
          refine w_istore (pc := 37) C dX10_hard_37 (by decide) ?_
          refine w_iconst (pc := 39) C (v := 0) dX10_hard_39 (by decide) ?_
          refine w_istore (pc := 40) C dX10_hard_40 (by decide) ?_
          refine w_iconst (pc := 42) C (v := 0) dX10_hard_42 (by decide) ?_
          refine w_istore (pc := 43) C dX10_hard_43 (by decide) ?_
          refine w_iconst (pc := 45) C (v := 0) dX10_hard_45 (by decide) ?_
          refine w_istore (pc := 46) C dX10_hard_46 (by decide) ?_
          refine w_iload_n (pc := 48) C dX10_hard_48 rfl ?_
          refine w_istore (pc := 49) C dX10_hard_49 (by decide) ?_
          refine w_sub ?_ hv
          exact ⟨rfl, rfl, rfl, rfl, rfl, rfl, rfl, rfl, trivial⟩
        · have hv := hv2 c2
          refine w_iconst (pc := 32) C (v := (-1)) dX10_hard_32 (by decide) ?_
          exact w_iret (pc := 33) C dX10_hard_33 hv
set_option maxRecDepth 20000 in
set_option maxHeartbeats 2000000 in
theorem V_X10_hard_51 {X : Ctx} (C : C_X10_hard X) {k n : Nat} {Q : Pq} {h : Hp} {v0 : Nat} {v1 v3 v4 v5 v6 v7 v8 : Int32}
    (hv : ((v8 < v1 → St10 h v0 ∧ S_X10_enters (lX X) (dtX X) 0 0 [.ref v0, .long (Int32.toInt64 v4)] (si h v0 1 0) (QV fun h2 =>
    St10 h2 v0 ∧ S_X10_enters (lX X) (dtX X) 0 0 [.ref v0, .long (Int32.toInt64 v5)] h2 (QV fun h4 =>
    St10 h4 v0 ∧ S_X10_enters (lX X) (dtX X) 0 0 [.ref v0, .long (Int32.toInt64 v6)] h4 (QV fun h6 =>
    St10 h6 v0 ∧ S_X10_enters (lX X) (dtX X) 0 0 [.ref v0, .long (Int32.toInt64 v7)] h6 (QV fun h8 =>
    Q (some (.int v3)) h8))))) ∧
    (¬ v8 < v1 → St10 h v0 ∧ S_X10_firstSimple (lX X) (dtX X) 0 0 [.ref v0, .int v8] h (QI fun x11 h10 =>
    ((x11 < 0 → St10 h10 v0 ∧ S_X10_waysOf (lX X) (dtX X) 0 0 [.ref v0, .int v8] h10 (QI fun x14 h13 =>
    ((¬ x14 = 0 → Wj X k n Q 116 [(0, .ref v0), (1, .int v1), (3, .int (v3 + Int32.ofInt 1)), (4, .int v8), (5, .int (v5 + ((x14 / 2) % 2))), (6, .int (v6 + (x14 / 4))), (8, .int v8)] [.int 0, .int v7] h13) ∧
    (x14 = 0 → Wj X k n Q 116 [(0, .ref v0), (1, .int v1), (3, .int (v3 + Int32.ofInt 1)), (4, .int v8), (5, .int (v5 + ((x14 / 2) % 2))), (6, .int (v6 + (x14 / 4))), (8, .int v8)] [.int 1, .int v7] h13)))) ∧
    (¬ x11 < 0 → Wj X k n Q 51 [(0, .ref v0), (1, .int v1), (3, .int v3), (4, .int v4), (5, .int v5), (6, .int v6), (7, .int v7), (8, .int (v8 + Int32.ofInt (-1)))] [] h10)))))) :
    Wj X k n Q 51 [(0, .ref v0), (1, .int v1), (3, .int v3), (4, .int v4), (5, .int v5), (6, .int v6), (7, .int v7), (8, .int v8)] [] h := by
  refine w_iload (pc := 51) C dX10_hard_51 rfl ?_
  refine w_iload_n (pc := 53) C dX10_hard_53 rfl ?_
  refine w_icmp_lt (pc := 54) C (tgt := 128) dX10_hard_54 (by decide) ?_
  obtain ⟨hv1, hv2⟩ := hv
  refine ⟨fun c17 => ?_, fun c17 => ?_⟩
  · have hv := hv1 c17
    refine w_aload_n (pc := 128) C dX10_hard_128 rfl ?_
    refine w_iconst (pc := 129) C (v := 0) dX10_hard_129 (by decide) ?_
    obtain ⟨f1, hv⟩ := hv
    refine w_putI (pc := 130) C fl_X10_11 rfl rfl dX10_hard_130 (St10_k f1) ?_
    refine w_aload_n (pc := 133) C dX10_hard_133 rfl ?_
    refine w_iload (pc := 134) C dX10_hard_134 rfl ?_
    refine w_i2l (pc := 136) C dX10_hard_136 ?_
    refine w_cV0_1 (pc := 137) C cl_X10_18 lv_X10_enters (by decide) dX10_hard_137 (Nat.le_of_ble_eq_true rfl) (c := 10) rfl (St10_k f1) (hv.mono (fun v h2 hp => ?_))
    obtain ⟨rfl, hv⟩ := hp
    refine w_aload_n (pc := 140) C dX10_hard_140 rfl ?_
    refine w_iload (pc := 141) C dX10_hard_141 rfl ?_
    refine w_i2l (pc := 143) C dX10_hard_143 ?_
    obtain ⟨f3, hv⟩ := hv
    refine w_cV0_1 (pc := 144) C cl_X10_18 lv_X10_enters (by decide) dX10_hard_144 (Nat.le_of_ble_eq_true rfl) (c := 10) rfl (St10_k f3) (hv.mono (fun v h4 hp => ?_))
    obtain ⟨rfl, hv⟩ := hp
    refine w_aload_n (pc := 147) C dX10_hard_147 rfl ?_
    refine w_iload (pc := 148) C dX10_hard_148 rfl ?_
    refine w_i2l (pc := 150) C dX10_hard_150 ?_
    obtain ⟨f5, hv⟩ := hv
    refine w_cV0_1 (pc := 151) C cl_X10_18 lv_X10_enters (by decide) dX10_hard_151 (Nat.le_of_ble_eq_true rfl) (c := 10) rfl (St10_k f5) (hv.mono (fun v h6 hp => ?_))
    obtain ⟨rfl, hv⟩ := hp
    refine w_aload_n (pc := 154) C dX10_hard_154 rfl ?_
    refine w_iload (pc := 155) C dX10_hard_155 rfl ?_
    refine w_i2l (pc := 157) C dX10_hard_157 ?_
    obtain ⟨f7, hv⟩ := hv
    refine w_cV0_1 (pc := 158) C cl_X10_18 lv_X10_enters (by decide) dX10_hard_158 (Nat.le_of_ble_eq_true rfl) (c := 10) rfl (St10_k f7) (hv.mono (fun v h8 hp => ?_))
    obtain ⟨rfl, hv⟩ := hp
    refine w_iload_n (pc := 161) C dX10_hard_161 rfl ?_
    exact w_iret (pc := 162) C dX10_hard_162 hv
  · have hv := hv2 c17
    refine w_aload_n (pc := 57) C dX10_hard_57 rfl ?_
    refine w_iload (pc := 58) C dX10_hard_58 rfl ?_
    obtain ⟨f9, hv⟩ := hv
    refine w_cV0_1 (pc := 60) C cl_X10_182 lv_X10_firstSimple (by decide) dX10_hard_60 (Nat.le_of_ble_eq_true rfl) (c := 10) rfl (St10_k f9) (hv.mono (fun v h10 hp => ?_))
    obtain ⟨x11, rfl, hv⟩ := hp
    refine w_if_lt (pc := 63) C (tgt := 69) dX10_hard_63 (by decide) ?_
    obtain ⟨hv1, hv2⟩ := hv
    refine ⟨fun c16 => ?_, fun c16 => ?_⟩
    · have hv := hv1 c16
      refine w_aload_n (pc := 69) C dX10_hard_69 rfl ?_
      refine w_iload (pc := 70) C dX10_hard_70 rfl ?_
      obtain ⟨f12, hv⟩ := hv
      refine w_cV0_1 (pc := 72) C cl_X10_262 lv_X10_waysOf (by decide) dX10_hard_72 (Nat.le_of_ble_eq_true rfl) (c := 10) rfl (St10_k f12) (hv.mono (fun v h13 hp => ?_))
      obtain ⟨x14, rfl, hv⟩ := hp
      refine w_istore (pc := 75) C dX10_hard_75 (by decide) ?_
      refine w_iinc (pc := 77) C dX10_hard_77 rfl (by decide) ?_
      refine w_iload (pc := 80) C dX10_hard_80 rfl ?_
      refine w_istore (pc := 82) C dX10_hard_82 (by decide) ?_
      refine w_iload (pc := 84) C dX10_hard_84 rfl ?_
      refine w_iload (pc := 86) C dX10_hard_86 rfl ?_
      refine w_iconst (pc := 88) C (v := 2) dX10_hard_88 (by decide) ?_
      refine w_idiv (pc := 89) C dX10_hard_89 (by decide) ?_
      refine w_iconst (pc := 90) C (v := 2) dX10_hard_90 (by decide) ?_
      refine w_irem (pc := 91) C dX10_hard_91 (by decide) ?_
      refine w_iadd (pc := 92) C dX10_hard_92 ?_
      refine w_istore (pc := 93) C dX10_hard_93 (by decide) ?_
      refine w_iload (pc := 95) C dX10_hard_95 rfl ?_
      refine w_iload (pc := 97) C dX10_hard_97 rfl ?_
      refine w_iconst (pc := 99) C (v := 4) dX10_hard_99 (by decide) ?_
      refine w_idiv (pc := 100) C dX10_hard_100 (by decide) ?_
      refine w_iadd (pc := 101) C dX10_hard_101 ?_
      refine w_istore (pc := 102) C dX10_hard_102 (by decide) ?_
      refine w_iload (pc := 104) C dX10_hard_104 rfl ?_
      refine w_iload (pc := 106) C dX10_hard_106 rfl ?_
      refine w_if_ne (pc := 108) C (tgt := 115) dX10_hard_108 (by decide) ?_
      obtain ⟨hv1, hv2⟩ := hv
      refine ⟨fun c15 => ?_, fun c15 => ?_⟩
      · have hv := hv1 c15
        refine w_iconst (pc := 115) C (v := 0) dX10_hard_115 (by decide) ?_
        refine w_sub ?_ hv
        exact ⟨rfl, rfl, rfl, rfl, rfl, rfl, rfl, trivial⟩
      · have hv := hv2 c15
        refine w_iconst (pc := 111) C (v := 1) dX10_hard_111 (by decide) ?_
        refine w_goto (pc := 112) C (tgt := 116) dX10_hard_112 (by decide) ?_
        refine w_sub ?_ hv
        exact ⟨rfl, rfl, rfl, rfl, rfl, rfl, rfl, trivial⟩
    · have hv := hv2 c16
      refine w_goto (pc := 66) C (tgt := 122) dX10_hard_66 (by decide) ?_
      refine w_iinc (pc := 122) C dX10_hard_122 rfl (by decide) ?_
      refine w_goto (pc := 125) C (tgt := 51) dX10_hard_125 (by decide) ?_
      refine w_sub ?_ hv
      exact ⟨rfl, rfl, rfl, rfl, rfl, rfl, rfl, rfl, trivial⟩
set_option maxRecDepth 20000 in
set_option maxHeartbeats 2000000 in
theorem V_X10_hard_116 {X : Ctx} (C : C_X10_hard X) {k n : Nat} {Q : Pq} {h : Hp} {v0 : Nat} {v1 v3 v8 v4 v5 v6 s0 s1 : Int32}
    (hv : Wj X k n Q 51 [(0, .ref v0), (1, .int v1), (3, .int v3), (4, .int v4), (5, .int v5), (6, .int v6), (7, .int (s0 + (flg s1))), (8, .int (v8 + Int32.ofInt (-1)))] [] h) :
    Wj X k n Q 116 [(0, .ref v0), (1, .int v1), (3, .int v3), (4, .int v4), (5, .int v5), (6, .int v6), (8, .int v8)] [.int s1, .int s0] h := by
  refine w_cS0_1 (pc := 116) C cl_X10_39 ls_X10_flag (by decide) dX10_hard_116 (Nat.le_of_ble_eq_true rfl) ((sf_X10_flag (h := h) ).mono (fun v h9 hp => ?_))
  obtain ⟨e1, e2⟩ := hp
  rw [e1, e2]
  refine w_iadd (pc := 119) C dX10_hard_119 ?_
  refine w_istore (pc := 120) C dX10_hard_120 (by decide) ?_
  refine w_iinc (pc := 122) C dX10_hard_122 rfl (by decide) ?_
  refine w_goto (pc := 125) C (tgt := 51) dX10_hard_125 (by decide) ?_
  refine w_sub ?_ hv
  exact ⟨rfl, rfl, rfl, rfl, rfl, rfl, rfl, rfl, trivial⟩
theorem dX10_hasWay_0 : decode cX10_hasWay 0 = .ok (.iload_n 2, 1) := by decide +kernel
theorem dX10_hasWay_1 : decode cX10_hasWay 1 = .ok (.ifCond .ne 19, 3) := by decide +kernel
theorem dX10_hasWay_4 : decode cX10_hasWay 4 = .ok (.aload_n 0, 1) := by decide +kernel
theorem dX10_hasWay_5 : decode cX10_hasWay 5 = .ok (.iload_n 1, 1) := by decide +kernel
theorem dX10_hasWay_6 : decode cX10_hasWay 6 = .ok (.invokevirtual 182, 3) := by decide +kernel
theorem dX10_hasWay_9 : decode cX10_hasWay 9 = .ok (.ifCond .lt 7, 3) := by decide +kernel
theorem dX10_hasWay_12 : decode cX10_hasWay 12 = .ok (.iconst 1, 1) := by decide +kernel
theorem dX10_hasWay_13 : decode cX10_hasWay 13 = .ok (.goto 33, 3) := by decide +kernel
theorem dX10_hasWay_16 : decode cX10_hasWay 16 = .ok (.iconst 0, 1) := by decide +kernel
theorem dX10_hasWay_17 : decode cX10_hasWay 17 = .ok (.goto 29, 3) := by decide +kernel
theorem dX10_hasWay_20 : decode cX10_hasWay 20 = .ok (.iload_n 2, 1) := by decide +kernel
theorem dX10_hasWay_21 : decode cX10_hasWay 21 = .ok (.iconst 1, 1) := by decide +kernel
theorem dX10_hasWay_22 : decode cX10_hasWay 22 = .ok (.if_icmp .ne 19, 3) := by decide +kernel
theorem dX10_hasWay_25 : decode cX10_hasWay 25 = .ok (.aload_n 0, 1) := by decide +kernel
theorem dX10_hasWay_26 : decode cX10_hasWay 26 = .ok (.iload_n 1, 1) := by decide +kernel
theorem dX10_hasWay_27 : decode cX10_hasWay 27 = .ok (.invokevirtual 211, 3) := by decide +kernel
theorem dX10_hasWay_30 : decode cX10_hasWay 30 = .ok (.ifCond .lt 7, 3) := by decide +kernel
theorem dX10_hasWay_33 : decode cX10_hasWay 33 = .ok (.iconst 1, 1) := by decide +kernel
theorem dX10_hasWay_34 : decode cX10_hasWay 34 = .ok (.goto 12, 3) := by decide +kernel
theorem dX10_hasWay_37 : decode cX10_hasWay 37 = .ok (.iconst 0, 1) := by decide +kernel
theorem dX10_hasWay_38 : decode cX10_hasWay 38 = .ok (.goto 8, 3) := by decide +kernel
theorem dX10_hasWay_41 : decode cX10_hasWay 41 = .ok (.aload_n 0, 1) := by decide +kernel
theorem dX10_hasWay_42 : decode cX10_hasWay 42 = .ok (.iload_n 1, 1) := by decide +kernel
theorem dX10_hasWay_43 : decode cX10_hasWay 43 = .ok (.invokevirtual 259, 3) := by decide +kernel
theorem dX10_hasWay_46 : decode cX10_hasWay 46 = .ok (.ireturn, 1) := by decide +kernel
set_option maxRecDepth 20000 in
set_option maxHeartbeats 2000000 in
theorem V_X10_hasWay_0 {X : Ctx} (C : C_X10_hasWay X) {k n : Nat} {Q : Pq} {h : Hp} {v0 : Nat} {v1 v2 : Int32}
    (hv : ((¬ v2 = 0 → ((¬ v2 = 1 → St10 h v0 ∧ S_X10_findsDifferential (lX X) (dtX X) 0 0 [.ref v0, .int v1] h (QI fun x3 h2 =>
    (x3 = 0 ∨ x3 = 1) ∧ Q (some (.int x3)) h2)) ∧
    (v2 = 1 → St10 h v0 ∧ S_X10_findsCompound (lX X) (dtX X) 0 0 [.ref v0, .int v1] h (QI fun x7 h6 =>
    ((x7 < 0 → Q (some (.int 0)) h6) ∧
    (¬ x7 < 0 → Q (some (.int 1)) h6)))))) ∧
    (v2 = 0 → St10 h v0 ∧ S_X10_firstSimple (lX X) (dtX X) 0 0 [.ref v0, .int v1] h (QI fun x12 h11 =>
    ((x12 < 0 → Q (some (.int 0)) h11) ∧
    (¬ x12 < 0 → Q (some (.int 1)) h11)))))) :
    Wj X k n Q 0 [(0, .ref v0), (1, .int v1), (2, .int v2)] [] h := by
  refine w_iload_n (pc := 0) C dX10_hasWay_0 rfl ?_
  refine w_if_ne (pc := 1) C (tgt := 20) dX10_hasWay_1 (by decide) ?_
  obtain ⟨hv1, hv2⟩ := hv
  refine ⟨fun c14 => ?_, fun c14 => ?_⟩
  · have hv := hv1 c14
    refine w_iload_n (pc := 20) C dX10_hasWay_20 rfl ?_
    refine w_iconst (pc := 21) C (v := 1) dX10_hasWay_21 (by decide) ?_
    refine w_icmp_ne (pc := 22) C (tgt := 41) dX10_hasWay_22 (by decide) ?_
    obtain ⟨hv1, hv2⟩ := hv
    refine ⟨fun c9 => ?_, fun c9 => ?_⟩
    · have hv := hv1 c9
      refine w_aload_n (pc := 41) C dX10_hasWay_41 rfl ?_
      refine w_iload_n (pc := 42) C dX10_hasWay_42 rfl ?_
      obtain ⟨f1, hv⟩ := hv
      refine w_cV0_1 (pc := 43) C cl_X10_259 lv_X10_findsDifferential (by decide) dX10_hasWay_43 (Nat.le_of_ble_eq_true rfl) (c := 10) rfl (St10_k f1) (hv.mono (fun v h2 hp => ?_))
      obtain ⟨x3, rfl, hv⟩ := hp
      obtain ⟨f4, hv⟩ := hv
      exact w_zret (pc := 46) C dX10_hasWay_46 f4 hv
    · have hv := hv2 c9
      refine w_aload_n (pc := 25) C dX10_hasWay_25 rfl ?_
      refine w_iload_n (pc := 26) C dX10_hasWay_26 rfl ?_
      obtain ⟨f5, hv⟩ := hv
      refine w_cV0_1 (pc := 27) C cl_X10_211 lv_X10_findsCompound (by decide) dX10_hasWay_27 (Nat.le_of_ble_eq_true rfl) (c := 10) rfl (St10_k f5) (hv.mono (fun v h6 hp => ?_))
      obtain ⟨x7, rfl, hv⟩ := hp
      refine w_if_lt (pc := 30) C (tgt := 37) dX10_hasWay_30 (by decide) ?_
      obtain ⟨hv1, hv2⟩ := hv
      refine ⟨fun c8 => ?_, fun c8 => ?_⟩
      · have hv := hv1 c8
        refine w_iconst (pc := 37) C (v := 0) dX10_hasWay_37 (by decide) ?_
        refine w_goto (pc := 38) C (tgt := 46) dX10_hasWay_38 (by decide) ?_
        exact w_zret (pc := 46) C dX10_hasWay_46 (by decide) hv
      · have hv := hv2 c8
        refine w_iconst (pc := 33) C (v := 1) dX10_hasWay_33 (by decide) ?_
        refine w_goto (pc := 34) C (tgt := 46) dX10_hasWay_34 (by decide) ?_
        exact w_zret (pc := 46) C dX10_hasWay_46 (by decide) hv
  · have hv := hv2 c14
    refine w_aload_n (pc := 4) C dX10_hasWay_4 rfl ?_
    refine w_iload_n (pc := 5) C dX10_hasWay_5 rfl ?_
    obtain ⟨f10, hv⟩ := hv
    refine w_cV0_1 (pc := 6) C cl_X10_182 lv_X10_firstSimple (by decide) dX10_hasWay_6 (Nat.le_of_ble_eq_true rfl) (c := 10) rfl (St10_k f10) (hv.mono (fun v h11 hp => ?_))
    obtain ⟨x12, rfl, hv⟩ := hp
    refine w_if_lt (pc := 9) C (tgt := 16) dX10_hasWay_9 (by decide) ?_
    obtain ⟨hv1, hv2⟩ := hv
    refine ⟨fun c13 => ?_, fun c13 => ?_⟩
    · have hv := hv1 c13
      refine w_iconst (pc := 16) C (v := 0) dX10_hasWay_16 (by decide) ?_
      refine w_goto (pc := 17) C (tgt := 46) dX10_hasWay_17 (by decide) ?_
      exact w_zret (pc := 46) C dX10_hasWay_46 (by decide) hv
    · have hv := hv2 c13
      refine w_iconst (pc := 12) C (v := 1) dX10_hasWay_12 (by decide) ?_
      refine w_goto (pc := 13) C (tgt := 46) dX10_hasWay_13 (by decide) ?_
      exact w_zret (pc := 46) C dX10_hasWay_46 (by decide) hv
theorem dX10_stepsBy_0 : decode cX10_stepsBy 0 = .ok (.iload_n 2, 1) := by decide +kernel
theorem dX10_stepsBy_1 : decode cX10_stepsBy 1 = .ok (.iconst 2, 1) := by decide +kernel
theorem dX10_stepsBy_2 : decode cX10_stepsBy 2 = .ok (.if_icmp .ne 10, 3) := by decide +kernel
theorem dX10_stepsBy_5 : decode cX10_stepsBy 5 = .ok (.aload_n 0, 1) := by decide +kernel
theorem dX10_stepsBy_6 : decode cX10_stepsBy 6 = .ok (.getfield 253, 3) := by decide +kernel
theorem dX10_stepsBy_9 : decode cX10_stepsBy 9 = .ok (.goto 4, 3) := by decide +kernel
theorem dX10_stepsBy_12 : decode cX10_stepsBy 12 = .ok (.iload_n 1, 1) := by decide +kernel
theorem dX10_stepsBy_13 : decode cX10_stepsBy 13 = .ok (.istore_n 3, 1) := by decide +kernel
theorem dX10_stepsBy_14 : decode cX10_stepsBy 14 = .ok (.iload_n 2, 1) := by decide +kernel
theorem dX10_stepsBy_15 : decode cX10_stepsBy 15 = .ok (.iconst 1, 1) := by decide +kernel
theorem dX10_stepsBy_16 : decode cX10_stepsBy 16 = .ok (.if_icmp .eq 35, 3) := by decide +kernel
theorem dX10_stepsBy_19 : decode cX10_stepsBy 19 = .ok (.aload_n 0, 1) := by decide +kernel
theorem dX10_stepsBy_20 : decode cX10_stepsBy 20 = .ok (.iload_n 3, 1) := by decide +kernel
theorem dX10_stepsBy_21 : decode cX10_stepsBy 21 = .ok (.invokevirtual 182, 3) := by decide +kernel
theorem dX10_stepsBy_24 : decode cX10_stepsBy 24 = .ok (.istore 4, 2) := by decide +kernel
theorem dX10_stepsBy_26 : decode cX10_stepsBy 26 = .ok (.aload_n 0, 1) := by decide +kernel
theorem dX10_stepsBy_27 : decode cX10_stepsBy 27 = .ok (.getfield 68, 3) := by decide +kernel
theorem dX10_stepsBy_30 : decode cX10_stepsBy 30 = .ok (.bipush 53, 2) := by decide +kernel
theorem dX10_stepsBy_32 : decode cX10_stepsBy 32 = .ok (.iload 4, 2) := by decide +kernel
theorem dX10_stepsBy_34 : decode cX10_stepsBy 34 = .ok (.iastore, 1) := by decide +kernel
theorem dX10_stepsBy_35 : decode cX10_stepsBy 35 = .ok (.aload_n 0, 1) := by decide +kernel
theorem dX10_stepsBy_36 : decode cX10_stepsBy 36 = .ok (.iload 4, 2) := by decide +kernel
theorem dX10_stepsBy_38 : decode cX10_stepsBy 38 = .ok (.aload_n 0, 1) := by decide +kernel
theorem dX10_stepsBy_39 : decode cX10_stepsBy 39 = .ok (.iload 4, 2) := by decide +kernel
theorem dX10_stepsBy_41 : decode cX10_stepsBy 41 = .ok (.iload_n 3, 1) := by decide +kernel
theorem dX10_stepsBy_42 : decode cX10_stepsBy 42 = .ok (.invokevirtual 185, 3) := by decide +kernel
theorem dX10_stepsBy_45 : decode cX10_stepsBy 45 = .ok (.i2l, 1) := by decide +kernel
theorem dX10_stepsBy_46 : decode cX10_stepsBy 46 = .ok (.invokevirtual 370, 3) := by decide +kernel
theorem dX10_stepsBy_49 : decode cX10_stepsBy 49 = .ok (.pop, 1) := by decide +kernel
theorem dX10_stepsBy_50 : decode cX10_stepsBy 50 = .ok (.return_, 1) := by decide +kernel
theorem dX10_stepsBy_51 : decode cX10_stepsBy 51 = .ok (.aload_n 0, 1) := by decide +kernel
theorem dX10_stepsBy_52 : decode cX10_stepsBy 52 = .ok (.aload_n 0, 1) := by decide +kernel
theorem dX10_stepsBy_53 : decode cX10_stepsBy 53 = .ok (.getfield 192, 3) := by decide +kernel
theorem dX10_stepsBy_56 : decode cX10_stepsBy 56 = .ok (.aload_n 0, 1) := by decide +kernel
theorem dX10_stepsBy_57 : decode cX10_stepsBy 57 = .ok (.getfield 198, 3) := by decide +kernel
theorem dX10_stepsBy_60 : decode cX10_stepsBy 60 = .ok (.i2l, 1) := by decide +kernel
theorem dX10_stepsBy_61 : decode cX10_stepsBy 61 = .ok (.aload_n 0, 1) := by decide +kernel
theorem dX10_stepsBy_62 : decode cX10_stepsBy 62 = .ok (.aload_n 0, 1) := by decide +kernel
theorem dX10_stepsBy_63 : decode cX10_stepsBy 63 = .ok (.getfield 192, 3) := by decide +kernel
theorem dX10_stepsBy_66 : decode cX10_stepsBy 66 = .ok (.invokevirtual 159, 3) := by decide +kernel
theorem dX10_stepsBy_69 : decode cX10_stepsBy 69 = .ok (.i2l, 1) := by decide +kernel
theorem dX10_stepsBy_70 : decode cX10_stepsBy 70 = .ok (.lmul, 1) := by decide +kernel
theorem dX10_stepsBy_71 : decode cX10_stepsBy 71 = .ok (.aload_n 0, 1) := by decide +kernel
theorem dX10_stepsBy_72 : decode cX10_stepsBy 72 = .ok (.getfield 201, 3) := by decide +kernel
theorem dX10_stepsBy_75 : decode cX10_stepsBy 75 = .ok (.i2l, 1) := by decide +kernel
theorem dX10_stepsBy_76 : decode cX10_stepsBy 76 = .ok (.ladd, 1) := by decide +kernel
theorem dX10_stepsBy_77 : decode cX10_stepsBy 77 = .ok (.invokevirtual 370, 3) := by decide +kernel
theorem dX10_stepsBy_80 : decode cX10_stepsBy 80 = .ok (.pop, 1) := by decide +kernel
theorem dX10_stepsBy_81 : decode cX10_stepsBy 81 = .ok (.aload_n 0, 1) := by decide +kernel
theorem dX10_stepsBy_82 : decode cX10_stepsBy 82 = .ok (.aload_n 0, 1) := by decide +kernel
theorem dX10_stepsBy_83 : decode cX10_stepsBy 83 = .ok (.getfield 195, 3) := by decide +kernel
theorem dX10_stepsBy_86 : decode cX10_stepsBy 86 = .ok (.aload_n 0, 1) := by decide +kernel
theorem dX10_stepsBy_87 : decode cX10_stepsBy 87 = .ok (.getfield 204, 3) := by decide +kernel
theorem dX10_stepsBy_90 : decode cX10_stepsBy 90 = .ok (.i2l, 1) := by decide +kernel
theorem dX10_stepsBy_91 : decode cX10_stepsBy 91 = .ok (.invokevirtual 370, 3) := by decide +kernel
theorem dX10_stepsBy_94 : decode cX10_stepsBy 94 = .ok (.pop, 1) := by decide +kernel
theorem dX10_stepsBy_95 : decode cX10_stepsBy 95 = .ok (.aload_n 0, 1) := by decide +kernel
theorem dX10_stepsBy_96 : decode cX10_stepsBy 96 = .ok (.getfield 68, 3) := by decide +kernel
theorem dX10_stepsBy_99 : decode cX10_stepsBy 99 = .ok (.bipush 53, 2) := by decide +kernel
theorem dX10_stepsBy_101 : decode cX10_stepsBy 101 = .ok (.aload_n 0, 1) := by decide +kernel
theorem dX10_stepsBy_102 : decode cX10_stepsBy 102 = .ok (.getfield 195, 3) := by decide +kernel
theorem dX10_stepsBy_105 : decode cX10_stepsBy 105 = .ok (.iastore, 1) := by decide +kernel
theorem dX10_stepsBy_106 : decode cX10_stepsBy 106 = .ok (.return_, 1) := by decide +kernel
set_option maxRecDepth 20000 in
set_option maxHeartbeats 2000000 in
theorem V_X10_stepsBy_0 {X : Ctx} (C : C_X10_stepsBy X) {k n : Nat} {Q : Pq} {h : Hp} {v0 : Nat} {v1 v2 : Int32}
    (hv : ((¬ v2 = 2 → Wj X k n Q 13 [(0, .ref v0), (2, .int v2)] [.int v1] h) ∧
    (v2 = 2 → St10 h v0 ∧ Wj X k n Q 13 [(0, .ref v0), (2, .int v2)] [.int (gi h v0 21)] h))) :
    Wj X k n Q 0 [(0, .ref v0), (1, .int v1), (2, .int v2)] [] h := by
  refine w_iload_n (pc := 0) C dX10_stepsBy_0 rfl ?_
  refine w_iconst (pc := 1) C (v := 2) dX10_stepsBy_1 (by decide) ?_
  refine w_icmp_ne (pc := 2) C (tgt := 12) dX10_stepsBy_2 (by decide) ?_
  obtain ⟨hv1, hv2⟩ := hv
  refine ⟨fun c2 => ?_, fun c2 => ?_⟩
  · have hv := hv1 c2
    refine w_iload_n (pc := 12) C dX10_stepsBy_12 rfl ?_
    refine w_sub ?_ hv
    exact ⟨rfl, rfl, trivial⟩
  · have hv := hv2 c2
    refine w_aload_n (pc := 5) C dX10_stepsBy_5 rfl ?_
    obtain ⟨f1, hv⟩ := hv
    refine w_getI (pc := 6) C fl_X10_253 rfl dX10_stepsBy_6 (St10_k f1) ?_
    refine w_goto (pc := 9) C (tgt := 13) dX10_stepsBy_9 (by decide) ?_
    refine w_sub ?_ hv
    exact ⟨rfl, rfl, trivial⟩
set_option maxRecDepth 20000 in
set_option maxHeartbeats 2000000 in
theorem V_X10_stepsBy_13 {X : Ctx} (C : C_X10_stepsBy X) {k n : Nat} {Q : Pq} {h : Hp} {v0 : Nat} {v2 s0 : Int32}
    (hv : ((v2 = 1 → St10 h v0 ∧ inb (23 + (gi h v0 12)) 732 ∧ S_X10_goesBy (lX X) (dtX X) 0 0 [.ref v0, .int (gi h v0 12), .long (((Int32.toInt64 (gi h v0 14)) * (Int32.toInt64 (gi h (v0 + 3) (ix (23 + (gi h v0 12)))))) + (Int32.toInt64 (gi h v0 15)))] h (QI fun x4 h3 =>
    St10 h3 v0 ∧ S_X10_goesBy (lX X) (dtX X) 0 0 [.ref v0, .int (gi h3 v0 13), .long (Int32.toInt64 (gi h3 v0 16))] h3 (QI fun x7 h6 =>
    St10 h6 v0 ∧ Q none (si h6 (v0 + 3) (ix 53) (gi h6 v0 13))))) ∧
    (¬ v2 = 1 → St10 h v0 ∧ S_X10_firstSimple (lX X) (dtX X) 0 0 [.ref v0, .int s0] h (QI fun x11 h10 =>
    St10 h10 v0 ∧ inb (23 + x11) 732 ∧ ¬ s0 = 0 ∧ S_X10_goesBy (lX X) (dtX X) 0 0 [.ref v0, .int x11, .long (Int32.toInt64 (gi (si h10 (v0 + 3) (ix 53) x11) (v0 + 3) (ix 0) * gi (si h10 (v0 + 3) (ix 53) x11) (v0 + 3) (ix (23 + x11)) / s0))] (si h10 (v0 + 3) (ix 53) x11) (QI fun x16 h15 =>
    Q none h15))))) :
    Wj X k n Q 13 [(0, .ref v0), (2, .int v2)] [.int s0] h := by
  refine w_istore_n (pc := 13) C dX10_stepsBy_13 (by decide) ?_
  refine w_iload_n (pc := 14) C dX10_stepsBy_14 rfl ?_
  refine w_iconst (pc := 15) C (v := 1) dX10_stepsBy_15 (by decide) ?_
  refine w_icmp_eq (pc := 16) C (tgt := 51) dX10_stepsBy_16 (by decide) ?_
  obtain ⟨hv1, hv2⟩ := hv
  refine ⟨fun c17 => ?_, fun c17 => ?_⟩
  · have hv := hv1 c17
    refine w_aload_n (pc := 51) C dX10_stepsBy_51 rfl ?_
    refine w_aload_n (pc := 52) C dX10_stepsBy_52 rfl ?_
    obtain ⟨f1, hv⟩ := hv
    refine w_getI (pc := 53) C fl_X10_192 rfl dX10_stepsBy_53 (St10_k f1) ?_
    refine w_aload_n (pc := 56) C dX10_stepsBy_56 rfl ?_
    refine w_getI (pc := 57) C fl_X10_198 rfl dX10_stepsBy_57 (St10_k f1) ?_
    refine w_i2l (pc := 60) C dX10_stepsBy_60 ?_
    refine w_aload_n (pc := 61) C dX10_stepsBy_61 rfl ?_
    refine w_aload_n (pc := 62) C dX10_stepsBy_62 rfl ?_
    refine w_getI (pc := 63) C fl_X10_192 rfl dX10_stepsBy_63 (St10_k f1) ?_
    obtain ⟨f2, hv⟩ := hv
    refine w_cV0_1 (pc := 66) C cl_X10_159 lv_X10_holes (by decide) dX10_stepsBy_66 (Nat.le_of_ble_eq_true rfl) (c := 10) rfl (St10_k f1) ((sf_X10_holes (h := h) f1 f2).mono (fun v h9 hp => ?_))
    obtain ⟨e1, e2⟩ := hp
    rw [e1, e2]
    refine w_i2l (pc := 69) C dX10_stepsBy_69 ?_
    refine w_lmul (pc := 70) C dX10_stepsBy_70 ?_
    refine w_aload_n (pc := 71) C dX10_stepsBy_71 rfl ?_
    refine w_getI (pc := 72) C fl_X10_201 rfl dX10_stepsBy_72 (St10_k f1) ?_
    refine w_i2l (pc := 75) C dX10_stepsBy_75 ?_
    refine w_ladd (pc := 76) C dX10_stepsBy_76 ?_
    refine w_cV0_2 (pc := 77) C cl_X10_370 lv_X10_goesBy (by decide) dX10_stepsBy_77 (Nat.le_of_ble_eq_true rfl) (c := 10) rfl (St10_k f1) (hv.mono (fun v h3 hp => ?_))
    obtain ⟨x4, rfl, hv⟩ := hp
    refine w_pop (pc := 80) C dX10_stepsBy_80 rfl ?_
    refine w_aload_n (pc := 81) C dX10_stepsBy_81 rfl ?_
    refine w_aload_n (pc := 82) C dX10_stepsBy_82 rfl ?_
    obtain ⟨f5, hv⟩ := hv
    refine w_getI (pc := 83) C fl_X10_195 rfl dX10_stepsBy_83 (St10_k f5) ?_
    refine w_aload_n (pc := 86) C dX10_stepsBy_86 rfl ?_
    refine w_getI (pc := 87) C fl_X10_204 rfl dX10_stepsBy_87 (St10_k f5) ?_
    refine w_i2l (pc := 90) C dX10_stepsBy_90 ?_
    refine w_cV0_2 (pc := 91) C cl_X10_370 lv_X10_goesBy (by decide) dX10_stepsBy_91 (Nat.le_of_ble_eq_true rfl) (c := 10) rfl (St10_k f5) (hv.mono (fun v h6 hp => ?_))
    obtain ⟨x7, rfl, hv⟩ := hp
    refine w_pop (pc := 94) C dX10_stepsBy_94 rfl ?_
    refine w_aload_n (pc := 95) C dX10_stepsBy_95 rfl ?_
    obtain ⟨f8, hv⟩ := hv
    refine w_getR (pc := 96) C fl_X10_68 rfl dX10_stepsBy_96 (St10_k f8) (St10_r7 f8) ?_
    refine w_bipush (pc := 99) C (v := 53) dX10_stepsBy_99 (by decide) ?_
    refine w_aload_n (pc := 101) C dX10_stepsBy_101 rfl ?_
    refine w_getI (pc := 102) C fl_X10_195 rfl dX10_stepsBy_102 (St10_k f8) ?_
    refine w_iast (pc := 105) C dX10_stepsBy_105 (St10_k7 f8) (inbl (St10_l7 f8) (inbd (by decide))) ?_
    exact w_vret (pc := 106) C dX10_stepsBy_106 hv
  · have hv := hv2 c17
    refine w_aload_n (pc := 19) C dX10_stepsBy_19 rfl ?_
    refine w_iload_n (pc := 20) C dX10_stepsBy_20 rfl ?_
    obtain ⟨f9, hv⟩ := hv
    refine w_cV0_1 (pc := 21) C cl_X10_182 lv_X10_firstSimple (by decide) dX10_stepsBy_21 (Nat.le_of_ble_eq_true rfl) (c := 10) rfl (St10_k f9) (hv.mono (fun v h10 hp => ?_))
    obtain ⟨x11, rfl, hv⟩ := hp
    refine w_istore (pc := 24) C dX10_stepsBy_24 (by decide) ?_
    refine w_aload_n (pc := 26) C dX10_stepsBy_26 rfl ?_
    obtain ⟨f12, hv⟩ := hv
    refine w_getR (pc := 27) C fl_X10_68 rfl dX10_stepsBy_27 (St10_k f12) (St10_r7 f12) ?_
    refine w_bipush (pc := 30) C (v := 53) dX10_stepsBy_30 (by decide) ?_
    refine w_iload (pc := 32) C dX10_stepsBy_32 rfl ?_
    refine w_iast (pc := 34) C dX10_stepsBy_34 (St10_k7 f12) (inbl (St10_l7 f12) (inbd (by decide))) ?_
    refine w_aload_n (pc := 35) C dX10_stepsBy_35 rfl ?_
    refine w_iload (pc := 36) C dX10_stepsBy_36 rfl ?_
    refine w_aload_n (pc := 38) C dX10_stepsBy_38 rfl ?_
    refine w_iload (pc := 39) C dX10_stepsBy_39 rfl ?_
    refine w_iload_n (pc := 41) C dX10_stepsBy_41 rfl ?_
    obtain ⟨f13, hv⟩ := hv
    obtain ⟨f14, hv⟩ := hv
    refine w_cV0_2 (pc := 42) C cl_X10_185 lv_X10_allHoles (by decide) dX10_stepsBy_42 (Nat.le_of_ble_eq_true rfl) (c := 10) rfl (St10_k f12) ((sf_X10_allHoles (h := (si h10 (v0 + 3) (ix 53) x11)) f12 f13 f14).mono (fun v h9 hp => ?_))
    obtain ⟨e1, e2⟩ := hp
    rw [e1, e2]
    refine w_i2l (pc := 45) C dX10_stepsBy_45 ?_
    refine w_cV0_2 (pc := 46) C cl_X10_370 lv_X10_goesBy (by decide) dX10_stepsBy_46 (Nat.le_of_ble_eq_true rfl) (c := 10) rfl (St10_k f12) (hv.mono (fun v h15 hp => ?_))
    obtain ⟨x16, rfl, hv⟩ := hp
    refine w_pop (pc := 49) C dX10_stepsBy_49 rfl ?_
    exact w_vret (pc := 50) C dX10_stepsBy_50 hv
theorem dX10_divides_0 : decode cX10_divides 0 = .ok (.aload_n 0, 1) := by decide +kernel
theorem dX10_divides_1 : decode cX10_divides 1 = .ok (.iconst 0, 1) := by decide +kernel
theorem dX10_divides_2 : decode cX10_divides 2 = .ok (.putfield 1, 3) := by decide +kernel
theorem dX10_divides_5 : decode cX10_divides 5 = .ok (.iload_n 1, 1) := by decide +kernel
theorem dX10_divides_6 : decode cX10_divides 6 = .ok (.i2l, 1) := by decide +kernel
theorem dX10_divides_7 : decode cX10_divides 7 = .ok (.ldc2_w 175, 3) := by decide +kernel
theorem dX10_divides_10 : decode cX10_divides 10 = .ok (.ldc2_w 398, 3) := by decide +kernel
theorem dX10_divides_13 : decode cX10_divides 13 = .ok (.invokestatic 29, 3) := by decide +kernel
theorem dX10_divides_16 : decode cX10_divides 16 = .ok (.ifCond .eq 15, 3) := by decide +kernel
theorem dX10_divides_19 : decode cX10_divides 19 = .ok (.iload_n 2, 1) := by decide +kernel
theorem dX10_divides_20 : decode cX10_divides 20 = .ok (.i2l, 1) := by decide +kernel
theorem dX10_divides_21 : decode cX10_divides 21 = .ok (.lconst 0, 1) := by decide +kernel
theorem dX10_divides_22 : decode cX10_divides 22 = .ok (.ldc2_w 175, 3) := by decide +kernel
theorem dX10_divides_25 : decode cX10_divides 25 = .ok (.invokestatic 29, 3) := by decide +kernel
theorem dX10_divides_28 : decode cX10_divides 28 = .ok (.ifCond .ne 5, 3) := by decide +kernel
theorem dX10_divides_31 : decode cX10_divides 31 = .ok (.iconst (-1), 1) := by decide +kernel
theorem dX10_divides_32 : decode cX10_divides 32 = .ok (.ireturn, 1) := by decide +kernel
theorem dX10_divides_33 : decode cX10_divides 33 = .ok (.aload_n 0, 1) := by decide +kernel
theorem dX10_divides_34 : decode cX10_divides 34 = .ok (.iload_n 1, 1) := by decide +kernel
theorem dX10_divides_35 : decode cX10_divides 35 = .ok (.iload_n 2, 1) := by decide +kernel
theorem dX10_divides_36 : decode cX10_divides 36 = .ok (.invokevirtual 400, 3) := by decide +kernel
theorem dX10_divides_39 : decode cX10_divides 39 = .ok (.ifCond .ne 6, 3) := by decide +kernel
theorem dX10_divides_42 : decode cX10_divides 42 = .ok (.bipush (-2), 2) := by decide +kernel
theorem dX10_divides_44 : decode cX10_divides 44 = .ok (.ireturn, 1) := by decide +kernel
theorem dX10_divides_45 : decode cX10_divides 45 = .ok (.aload_n 0, 1) := by decide +kernel
theorem dX10_divides_46 : decode cX10_divides 46 = .ok (.iconst 0, 1) := by decide +kernel
theorem dX10_divides_47 : decode cX10_divides 47 = .ok (.iconst 3, 1) := by decide +kernel
theorem dX10_divides_48 : decode cX10_divides 48 = .ok (.invokevirtual 118, 3) := by decide +kernel
theorem dX10_divides_51 : decode cX10_divides 51 = .ok (.aload_n 0, 1) := by decide +kernel
theorem dX10_divides_52 : decode cX10_divides 52 = .ok (.invokevirtual 395, 3) := by decide +kernel
theorem dX10_divides_55 : decode cX10_divides 55 = .ok (.pop, 1) := by decide +kernel
theorem dX10_divides_56 : decode cX10_divides 56 = .ok (.aload_n 0, 1) := by decide +kernel
theorem dX10_divides_57 : decode cX10_divides 57 = .ok (.getfield 68, 3) := by decide +kernel
theorem dX10_divides_60 : decode cX10_divides 60 = .ok (.bipush 54, 2) := by decide +kernel
theorem dX10_divides_62 : decode cX10_divides 62 = .ok (.iconst 0, 1) := by decide +kernel
theorem dX10_divides_63 : decode cX10_divides 63 = .ok (.iastore, 1) := by decide +kernel
theorem dX10_divides_64 : decode cX10_divides 64 = .ok (.iload_n 2, 1) := by decide +kernel
theorem dX10_divides_65 : decode cX10_divides 65 = .ok (.iconst 2, 1) := by decide +kernel
theorem dX10_divides_66 : decode cX10_divides 66 = .ok (.if_icmp .ne 36, 3) := by decide +kernel
theorem dX10_divides_69 : decode cX10_divides 69 = .ok (.aload_n 0, 1) := by decide +kernel
theorem dX10_divides_70 : decode cX10_divides 70 = .ok (.aload_n 0, 1) := by decide +kernel
theorem dX10_divides_71 : decode cX10_divides 71 = .ok (.getfield 83, 3) := by decide +kernel
theorem dX10_divides_74 : decode cX10_divides 74 = .ok (.iconst 0, 1) := by decide +kernel
theorem dX10_divides_75 : decode cX10_divides 75 = .ok (.iaload, 1) := by decide +kernel
theorem dX10_divides_76 : decode cX10_divides 76 = .ok (.aload_n 0, 1) := by decide +kernel
theorem dX10_divides_77 : decode cX10_divides 77 = .ok (.getfield 83, 3) := by decide +kernel
theorem dX10_divides_80 : decode cX10_divides 80 = .ok (.iconst 1, 1) := by decide +kernel
theorem dX10_divides_81 : decode cX10_divides 81 = .ok (.iaload, 1) := by decide +kernel
theorem dX10_divides_82 : decode cX10_divides 82 = .ok (.aload_n 0, 1) := by decide +kernel
theorem dX10_divides_83 : decode cX10_divides 83 = .ok (.getfield 83, 3) := by decide +kernel
theorem dX10_divides_86 : decode cX10_divides 86 = .ok (.iconst 2, 1) := by decide +kernel
theorem dX10_divides_87 : decode cX10_divides 87 = .ok (.iaload, 1) := by decide +kernel
theorem dX10_divides_88 : decode cX10_divides 88 = .ok (.aload_n 0, 1) := by decide +kernel
theorem dX10_divides_89 : decode cX10_divides 89 = .ok (.getfield 83, 3) := by decide +kernel
theorem dX10_divides_92 : decode cX10_divides 92 = .ok (.iconst 3, 1) := by decide +kernel
theorem dX10_divides_93 : decode cX10_divides 93 = .ok (.iaload, 1) := by decide +kernel
theorem dX10_divides_94 : decode cX10_divides 94 = .ok (.aload_n 0, 1) := by decide +kernel
theorem dX10_divides_95 : decode cX10_divides 95 = .ok (.getfield 256, 3) := by decide +kernel
theorem dX10_divides_98 : decode cX10_divides 98 = .ok (.invokevirtual 332, 3) := by decide +kernel
theorem dX10_divides_101 : decode cX10_divides 101 = .ok (.pop, 1) := by decide +kernel
theorem dX10_divides_102 : decode cX10_divides 102 = .ok (.iconst 0, 1) := by decide +kernel
theorem dX10_divides_103 : decode cX10_divides 103 = .ok (.istore_n 3, 1) := by decide +kernel
theorem dX10_divides_104 : decode cX10_divides 104 = .ok (.iload_n 3, 1) := by decide +kernel
theorem dX10_divides_105 : decode cX10_divides 105 = .ok (.iload_n 1, 1) := by decide +kernel
theorem dX10_divides_106 : decode cX10_divides 106 = .ok (.if_icmp .ge 20, 3) := by decide +kernel
theorem dX10_divides_109 : decode cX10_divides 109 = .ok (.aload_n 0, 1) := by decide +kernel
theorem dX10_divides_110 : decode cX10_divides 110 = .ok (.invokevirtual 392, 3) := by decide +kernel
theorem dX10_divides_113 : decode cX10_divides 113 = .ok (.pop, 1) := by decide +kernel
theorem dX10_divides_114 : decode cX10_divides 114 = .ok (.aload_n 0, 1) := by decide +kernel
theorem dX10_divides_115 : decode cX10_divides 115 = .ok (.iload_n 1, 1) := by decide +kernel
theorem dX10_divides_116 : decode cX10_divides 116 = .ok (.iload_n 2, 1) := by decide +kernel
theorem dX10_divides_117 : decode cX10_divides 117 = .ok (.invokevirtual 403, 3) := by decide +kernel
theorem dX10_divides_120 : decode cX10_divides 120 = .ok (.iinc 3 1, 3) := by decide +kernel
theorem dX10_divides_123 : decode cX10_divides 123 = .ok (.goto (-19), 3) := by decide +kernel
theorem dX10_divides_126 : decode cX10_divides 126 = .ok (.aload_n 0, 1) := by decide +kernel
theorem dX10_divides_127 : decode cX10_divides 127 = .ok (.iconst 0, 1) := by decide +kernel
theorem dX10_divides_128 : decode cX10_divides 128 = .ok (.putfield 11, 3) := by decide +kernel
theorem dX10_divides_131 : decode cX10_divides 131 = .ok (.aload_n 0, 1) := by decide +kernel
theorem dX10_divides_132 : decode cX10_divides 132 = .ok (.aload_n 0, 1) := by decide +kernel
theorem dX10_divides_133 : decode cX10_divides 133 = .ok (.getfield 71, 3) := by decide +kernel
theorem dX10_divides_136 : decode cX10_divides 136 = .ok (.iconst 0, 1) := by decide +kernel
theorem dX10_divides_137 : decode cX10_divides 137 = .ok (.laload, 1) := by decide +kernel
theorem dX10_divides_138 : decode cX10_divides 138 = .ok (.lconst 0, 1) := by decide +kernel
theorem dX10_divides_139 : decode cX10_divides 139 = .ok (.lcmp, 1) := by decide +kernel
theorem dX10_divides_140 : decode cX10_divides 140 = .ok (.ifCond .ne 7, 3) := by decide +kernel
theorem dX10_divides_143 : decode cX10_divides 143 = .ok (.iconst 1, 1) := by decide +kernel
theorem dX10_divides_144 : decode cX10_divides 144 = .ok (.goto 4, 3) := by decide +kernel
theorem dX10_divides_147 : decode cX10_divides 147 = .ok (.iconst 0, 1) := by decide +kernel
theorem dX10_divides_148 : decode cX10_divides 148 = .ok (.invokestatic 39, 3) := by decide +kernel
theorem dX10_divides_151 : decode cX10_divides 151 = .ok (.i2l, 1) := by decide +kernel
theorem dX10_divides_152 : decode cX10_divides 152 = .ok (.invokevirtual 18, 3) := by decide +kernel
theorem dX10_divides_155 : decode cX10_divides 155 = .ok (.aload_n 0, 1) := by decide +kernel
theorem dX10_divides_156 : decode cX10_divides 156 = .ok (.invokevirtual 406, 3) := by decide +kernel
theorem dX10_divides_159 : decode cX10_divides 159 = .ok (.istore_n 3, 1) := by decide +kernel
theorem dX10_divides_160 : decode cX10_divides 160 = .ok (.aload_n 0, 1) := by decide +kernel
theorem dX10_divides_161 : decode cX10_divides 161 = .ok (.iconst 1, 1) := by decide +kernel
theorem dX10_divides_162 : decode cX10_divides 162 = .ok (.putfield 11, 3) := by decide +kernel
theorem dX10_divides_165 : decode cX10_divides 165 = .ok (.aload_n 0, 1) := by decide +kernel
theorem dX10_divides_166 : decode cX10_divides 166 = .ok (.iload_n 3, 1) := by decide +kernel
theorem dX10_divides_167 : decode cX10_divides 167 = .ok (.iconst 1, 1) := by decide +kernel
theorem dX10_divides_168 : decode cX10_divides 168 = .ok (.if_icmp .ne 7, 3) := by decide +kernel
theorem dX10_divides_171 : decode cX10_divides 171 = .ok (.iconst 1, 1) := by decide +kernel
theorem dX10_divides_172 : decode cX10_divides 172 = .ok (.goto 4, 3) := by decide +kernel
theorem dX10_divides_175 : decode cX10_divides 175 = .ok (.iconst 0, 1) := by decide +kernel
theorem dX10_divides_176 : decode cX10_divides 176 = .ok (.invokestatic 39, 3) := by decide +kernel
theorem dX10_divides_179 : decode cX10_divides 179 = .ok (.i2l, 1) := by decide +kernel
theorem dX10_divides_180 : decode cX10_divides 180 = .ok (.invokevirtual 18, 3) := by decide +kernel
theorem dX10_divides_183 : decode cX10_divides 183 = .ok (.aload_n 0, 1) := by decide +kernel
theorem dX10_divides_184 : decode cX10_divides 184 = .ok (.aload_n 0, 1) := by decide +kernel
theorem dX10_divides_185 : decode cX10_divides 185 = .ok (.invokevirtual 378, 3) := by decide +kernel
theorem dX10_divides_188 : decode cX10_divides 188 = .ok (.invokevirtual 147, 3) := by decide +kernel
theorem dX10_divides_191 : decode cX10_divides 191 = .ok (.ireturn, 1) := by decide +kernel
set_option maxRecDepth 20000 in
set_option maxHeartbeats 2000000 in
theorem V_X10_divides_0 {X : Ctx} (C : C_X10_divides X) {k n : Nat} {Q : Pq} {h : Hp} {v0 : Nat} {v1 v2 : Int32}
    (hv : St10 h v0 ∧ (((btL (Int32.toInt64 v1) 2 60) = 0 → Q (some (.int (-1))) (si h v0 0 0)) ∧
    (¬ (btL (Int32.toInt64 v1) 2 60) = 0 → ((¬ (btL (Int32.toInt64 v2) 0 2) = 0 → S_X10_hasWay (lX X) (dtX X) 0 0 [.ref v0, .int v1, .int v2] (si h v0 0 0) (QI fun x3 h2 =>
    ((¬ x3 = 0 → St10 h2 v0 ∧ S_X10_copies (lX X) (dtX X) 0 0 [.ref v0, .int 0, .int 3] h2 (QV fun h5 =>
    St10 h5 v0 ∧ S_X10_wipesOne (lX X) (dtX X) 0 0 [.ref v0] h5 (QI fun x8 h7 =>
    St10 h7 v0 ∧ ((¬ v2 = 2 → Wj X k n Q 104 [(0, .ref v0), (1, .int v1), (2, .int v2), (3, .int 0)] [] (si h7 (v0 + 3) (ix 54) 0)) ∧
    (v2 = 2 → S_X10_gearedOne (lX X) (dtX X) 0 0 [.ref v0, .int (gi (si h7 (v0 + 3) (ix 54) 0) (v0 + 8) (ix 0)), .int (gi (si h7 (v0 + 3) (ix 54) 0) (v0 + 8) (ix 1)), .int (gi (si h7 (v0 + 3) (ix 54) 0) (v0 + 8) (ix 2)), .int (gi (si h7 (v0 + 3) (ix 54) 0) (v0 + 8) (ix 3)), .int (gi (si h7 (v0 + 3) (ix 54) 0) v0 22)] (si h7 (v0 + 3) (ix 54) 0) (QI fun x11 h10 =>
    Wj X k n Q 104 [(0, .ref v0), (1, .int v1), (2, .int v2), (3, .int 0)] [] h10)))))) ∧
    (x3 = 0 → Q (some (.int (-2))) h2)))) ∧
    ((btL (Int32.toInt64 v2) 0 2) = 0 → Q (some (.int (-1))) (si h v0 0 0)))))) :
    Wj X k n Q 0 [(0, .ref v0), (1, .int v1), (2, .int v2)] [] h := by
  refine w_aload_n (pc := 0) C dX10_divides_0 rfl ?_
  refine w_iconst (pc := 1) C (v := 0) dX10_divides_1 (by decide) ?_
  obtain ⟨f1, hv⟩ := hv
  refine w_putI (pc := 2) C fl_X10_1 rfl rfl dX10_divides_2 (St10_k f1) ?_
  refine w_iload_n (pc := 5) C dX10_divides_5 rfl ?_
  refine w_i2l (pc := 6) C dX10_divides_6 ?_
  refine w_ldc2 (pc := 7) C ctl_X10_175 dX10_divides_7 ?_
  refine w_ldc2 (pc := 10) C ctl_X10_398 dX10_divides_10 ?_
  refine w_cS0_3 (pc := 13) C cl_X10_29 ls_X10_in (by decide) dX10_divides_13 (Nat.le_of_ble_eq_true rfl) ((sf_X10_in (h := (si h v0 0 0)) ).mono (fun v h9 hp => ?_))
  obtain ⟨e1, e2⟩ := hp
  rw [e1, e2]
  refine w_if_eq (pc := 16) C (tgt := 31) dX10_divides_16 (by decide) ?_
  obtain ⟨hv1, hv2⟩ := hv
  refine ⟨fun c15 => ?_, fun c15 => ?_⟩
  · have hv := hv1 c15
    refine w_iconst (pc := 31) C (v := (-1)) dX10_divides_31 (by decide) ?_
    exact w_iret (pc := 32) C dX10_divides_32 hv
  · have hv := hv2 c15
    refine w_iload_n (pc := 19) C dX10_divides_19 rfl ?_
    refine w_i2l (pc := 20) C dX10_divides_20 ?_
    refine w_lconst (pc := 21) C (v := 0) dX10_divides_21 (by decide) ?_
    refine w_ldc2 (pc := 22) C ctl_X10_175 dX10_divides_22 ?_
    refine w_cS0_3 (pc := 25) C cl_X10_29 ls_X10_in (by decide) dX10_divides_25 (Nat.le_of_ble_eq_true rfl) ((sf_X10_in (h := (si h v0 0 0)) ).mono (fun v h9 hp => ?_))
    obtain ⟨e1, e2⟩ := hp
    rw [e1, e2]
    refine w_if_ne (pc := 28) C (tgt := 33) dX10_divides_28 (by decide) ?_
    obtain ⟨hv1, hv2⟩ := hv
    refine ⟨fun c14 => ?_, fun c14 => ?_⟩
    · have hv := hv1 c14
      refine w_aload_n (pc := 33) C dX10_divides_33 rfl ?_
      refine w_iload_n (pc := 34) C dX10_divides_34 rfl ?_
      refine w_iload_n (pc := 35) C dX10_divides_35 rfl ?_
      refine w_cV0_2 (pc := 36) C cl_X10_400 lv_X10_hasWay (by decide) dX10_divides_36 (Nat.le_of_ble_eq_true rfl) (c := 10) rfl (St10_k f1) (hv.mono (fun v h2 hp => ?_))
      obtain ⟨x3, rfl, hv⟩ := hp
      refine w_if_ne (pc := 39) C (tgt := 45) dX10_divides_39 (by decide) ?_
      obtain ⟨hv1, hv2⟩ := hv
      refine ⟨fun c13 => ?_, fun c13 => ?_⟩
      · have hv := hv1 c13
        refine w_aload_n (pc := 45) C dX10_divides_45 rfl ?_
        refine w_iconst (pc := 46) C (v := 0) dX10_divides_46 (by decide) ?_
        refine w_iconst (pc := 47) C (v := 3) dX10_divides_47 (by decide) ?_
        obtain ⟨f4, hv⟩ := hv
        refine w_cV0_2 (pc := 48) C cl_X10_118 lv_X10_copies (by decide) dX10_divides_48 (Nat.le_of_ble_eq_true rfl) (c := 10) rfl (St10_k f4) (hv.mono (fun v h5 hp => ?_))
        obtain ⟨rfl, hv⟩ := hp
        refine w_aload_n (pc := 51) C dX10_divides_51 rfl ?_
        obtain ⟨f6, hv⟩ := hv
        refine w_cV0_0 (pc := 52) C cl_X10_395 lv_X10_wipesOne (by decide) dX10_divides_52 (Nat.le_of_ble_eq_true rfl) (c := 10) rfl (St10_k f6) (hv.mono (fun v h7 hp => ?_))
        obtain ⟨x8, rfl, hv⟩ := hp
        refine w_pop (pc := 55) C dX10_divides_55 rfl ?_
        refine w_aload_n (pc := 56) C dX10_divides_56 rfl ?_
        obtain ⟨f9, hv⟩ := hv
        refine w_getR (pc := 57) C fl_X10_68 rfl dX10_divides_57 (St10_k f9) (St10_r7 f9) ?_
        refine w_bipush (pc := 60) C (v := 54) dX10_divides_60 (by decide) ?_
        refine w_iconst (pc := 62) C (v := 0) dX10_divides_62 (by decide) ?_
        refine w_iast (pc := 63) C dX10_divides_63 (St10_k7 f9) (inbl (St10_l7 f9) (inbd (by decide))) ?_
        refine w_iload_n (pc := 64) C dX10_divides_64 rfl ?_
        refine w_iconst (pc := 65) C (v := 2) dX10_divides_65 (by decide) ?_
        refine w_icmp_ne (pc := 66) C (tgt := 102) dX10_divides_66 (by decide) ?_
        obtain ⟨hv1, hv2⟩ := hv
        refine ⟨fun c12 => ?_, fun c12 => ?_⟩
        · have hv := hv1 c12
          refine w_iconst (pc := 102) C (v := 0) dX10_divides_102 (by decide) ?_
          refine w_istore_n (pc := 103) C dX10_divides_103 (by decide) ?_
          refine w_sub ?_ hv
          exact ⟨rfl, rfl, rfl, rfl, trivial⟩
        · have hv := hv2 c12
          refine w_aload_n (pc := 69) C dX10_divides_69 rfl ?_
          refine w_aload_n (pc := 70) C dX10_divides_70 rfl ?_
          refine w_getR (pc := 71) C fl_X10_83 rfl dX10_divides_71 (St10_k f9) (St10_r19 f9) ?_
          refine w_iconst (pc := 74) C (v := 0) dX10_divides_74 (by decide) ?_
          refine w_iald (pc := 75) C dX10_divides_75 (St10_k19 f9) (inbl (St10_l19 f9) (inbd (by decide))) ?_
          refine w_aload_n (pc := 76) C dX10_divides_76 rfl ?_
          refine w_getR (pc := 77) C fl_X10_83 rfl dX10_divides_77 (St10_k f9) (St10_r19 f9) ?_
          refine w_iconst (pc := 80) C (v := 1) dX10_divides_80 (by decide) ?_
          refine w_iald (pc := 81) C dX10_divides_81 (St10_k19 f9) (inbl (St10_l19 f9) (inbd (by decide))) ?_
          refine w_aload_n (pc := 82) C dX10_divides_82 rfl ?_
          refine w_getR (pc := 83) C fl_X10_83 rfl dX10_divides_83 (St10_k f9) (St10_r19 f9) ?_
          refine w_iconst (pc := 86) C (v := 2) dX10_divides_86 (by decide) ?_
          refine w_iald (pc := 87) C dX10_divides_87 (St10_k19 f9) (inbl (St10_l19 f9) (inbd (by decide))) ?_
          refine w_aload_n (pc := 88) C dX10_divides_88 rfl ?_
          refine w_getR (pc := 89) C fl_X10_83 rfl dX10_divides_89 (St10_k f9) (St10_r19 f9) ?_
          refine w_iconst (pc := 92) C (v := 3) dX10_divides_92 (by decide) ?_
          refine w_iald (pc := 93) C dX10_divides_93 (St10_k19 f9) (inbl (St10_l19 f9) (inbd (by decide))) ?_
          refine w_aload_n (pc := 94) C dX10_divides_94 rfl ?_
          refine w_getI (pc := 95) C fl_X10_256 rfl dX10_divides_95 (St10_k f9) ?_
          refine w_cV0_5 (pc := 98) C cl_X10_332 lv_X10_gearedOne (by decide) dX10_divides_98 (Nat.le_of_ble_eq_true rfl) (c := 10) rfl (St10_k f9) (hv.mono (fun v h10 hp => ?_))
          obtain ⟨x11, rfl, hv⟩ := hp
          refine w_pop (pc := 101) C dX10_divides_101 rfl ?_
          refine w_iconst (pc := 102) C (v := 0) dX10_divides_102 (by decide) ?_
          refine w_istore_n (pc := 103) C dX10_divides_103 (by decide) ?_
          refine w_sub ?_ hv
          exact ⟨rfl, rfl, rfl, rfl, trivial⟩
      · have hv := hv2 c13
        refine w_bipush (pc := 42) C (v := (-2)) dX10_divides_42 (by decide) ?_
        exact w_iret (pc := 44) C dX10_divides_44 hv
    · have hv := hv2 c14
      refine w_iconst (pc := 31) C (v := (-1)) dX10_divides_31 (by decide) ?_
      exact w_iret (pc := 32) C dX10_divides_32 hv
set_option maxRecDepth 20000 in
set_option maxHeartbeats 2000000 in
theorem V_X10_divides_104 {X : Ctx} (C : C_X10_divides X) {k n : Nat} {Q : Pq} {h : Hp} {v0 : Nat} {v1 v2 v3 : Int32}
    (hv : ((v1 ≤ v3 → St10 h v0 ∧ ((¬ (gl h (v0 + 4) (ix 0)) = 0 → Wj X k n Q 148 [(0, .ref v0)] [.int 0, .ref v0] (si h v0 1 0)) ∧
    ((gl h (v0 + 4) (ix 0)) = 0 → Wj X k n Q 148 [(0, .ref v0)] [.int 1, .ref v0] (si h v0 1 0)))) ∧
    (¬ v1 ≤ v3 → St10 h v0 ∧ S_X10_cutsOne (lX X) (dtX X) 0 0 [.ref v0] h (QI fun x5 h4 =>
    St10 h4 v0 ∧ S_X10_stepsBy (lX X) (dtX X) 0 0 [.ref v0, .int v1, .int v2] h4 (QV fun h7 =>
    Wj X k n Q 104 [(0, .ref v0), (1, .int v1), (2, .int v2), (3, .int (v3 + Int32.ofInt 1))] [] h7))))) :
    Wj X k n Q 104 [(0, .ref v0), (1, .int v1), (2, .int v2), (3, .int v3)] [] h := by
  refine w_iload_n (pc := 104) C dX10_divides_104 rfl ?_
  refine w_iload_n (pc := 105) C dX10_divides_105 rfl ?_
  refine w_icmp_ge (pc := 106) C (tgt := 126) dX10_divides_106 (by decide) ?_
  obtain ⟨hv1, hv2⟩ := hv
  refine ⟨fun c8 => ?_, fun c8 => ?_⟩
  · have hv := hv1 c8
    refine w_aload_n (pc := 126) C dX10_divides_126 rfl ?_
    refine w_iconst (pc := 127) C (v := 0) dX10_divides_127 (by decide) ?_
    obtain ⟨f1, hv⟩ := hv
    refine w_putI (pc := 128) C fl_X10_11 rfl rfl dX10_divides_128 (St10_k f1) ?_
    refine w_aload_n (pc := 131) C dX10_divides_131 rfl ?_
    refine w_aload_n (pc := 132) C dX10_divides_132 rfl ?_
    refine w_getR (pc := 133) C fl_X10_71 rfl dX10_divides_133 (St10_k f1) (St10_r8 f1) ?_
    refine w_iconst (pc := 136) C (v := 0) dX10_divides_136 (by decide) ?_
    refine w_lald (pc := 137) C dX10_divides_137 (St10_k8 f1) (inbl (St10_l8 f1) (inbd (by decide))) ?_
    refine w_lconst (pc := 138) C (v := 0) dX10_divides_138 (by decide) ?_
    refine w_lcmp_ne (pc := 139) C (tgt := 147) dX10_divides_139 dX10_divides_140 (by decide) ?_
    obtain ⟨hv1, hv2⟩ := hv
    refine ⟨fun c2 => ?_, fun c2 => ?_⟩
    · have hv := hv1 c2
      refine w_iconst (pc := 147) C (v := 0) dX10_divides_147 (by decide) ?_
      refine w_sub ?_ hv
      exact ⟨rfl, trivial⟩
    · have hv := hv2 c2
      refine w_iconst (pc := 143) C (v := 1) dX10_divides_143 (by decide) ?_
      refine w_goto (pc := 144) C (tgt := 148) dX10_divides_144 (by decide) ?_
      refine w_sub ?_ hv
      exact ⟨rfl, trivial⟩
  · have hv := hv2 c8
    refine w_aload_n (pc := 109) C dX10_divides_109 rfl ?_
    obtain ⟨f3, hv⟩ := hv
    refine w_cV0_0 (pc := 110) C cl_X10_392 lv_X10_cutsOne (by decide) dX10_divides_110 (Nat.le_of_ble_eq_true rfl) (c := 10) rfl (St10_k f3) (hv.mono (fun v h4 hp => ?_))
    obtain ⟨x5, rfl, hv⟩ := hp
    refine w_pop (pc := 113) C dX10_divides_113 rfl ?_
    refine w_aload_n (pc := 114) C dX10_divides_114 rfl ?_
    refine w_iload_n (pc := 115) C dX10_divides_115 rfl ?_
    refine w_iload_n (pc := 116) C dX10_divides_116 rfl ?_
    obtain ⟨f6, hv⟩ := hv
    refine w_cV0_2 (pc := 117) C cl_X10_403 lv_X10_stepsBy (by decide) dX10_divides_117 (Nat.le_of_ble_eq_true rfl) (c := 10) rfl (St10_k f6) (hv.mono (fun v h7 hp => ?_))
    obtain ⟨rfl, hv⟩ := hp
    refine w_iinc (pc := 120) C dX10_divides_120 rfl (by decide) ?_
    refine w_goto (pc := 123) C (tgt := 104) dX10_divides_123 (by decide) ?_
    refine w_sub ?_ hv
    exact ⟨rfl, rfl, rfl, rfl, trivial⟩
set_option maxRecDepth 20000 in
set_option maxHeartbeats 2000000 in
theorem V_X10_divides_148 {X : Ctx} (C : C_X10_divides X) {k n : Nat} {Q : Pq} {h : Hp} {v0 s0 : Nat} {s1 : Int32}
    (hv : St10 h s0 ∧ S_X10_enters (lX X) (dtX X) 0 0 [.ref s0, .long (Int32.toInt64 (flg s1))] h (QV fun h2 =>
    St10 h2 v0 ∧ S_X10_laysGaps (lX X) (dtX X) 0 0 [.ref v0] h2 (QI fun x5 h4 =>
    St10 h4 v0 ∧ ((¬ x5 = 1 → Wj X k n Q 176 [(0, .ref v0)] [.int 0, .ref v0] (si h4 v0 1 1)) ∧
    (x5 = 1 → Wj X k n Q 176 [(0, .ref v0)] [.int 1, .ref v0] (si h4 v0 1 1)))))) :
    Wj X k n Q 148 [(0, .ref v0)] [.int s1, .ref s0] h := by
  refine w_cS0_1 (pc := 148) C cl_X10_39 ls_X10_flag (by decide) dX10_divides_148 (Nat.le_of_ble_eq_true rfl) ((sf_X10_flag (h := h) ).mono (fun v h9 hp => ?_))
  obtain ⟨e1, e2⟩ := hp
  rw [e1, e2]
  refine w_i2l (pc := 151) C dX10_divides_151 ?_
  obtain ⟨f1, hv⟩ := hv
  refine w_cV0_1 (pc := 152) C cl_X10_18 lv_X10_enters (by decide) dX10_divides_152 (Nat.le_of_ble_eq_true rfl) (c := 10) rfl (St10_k f1) (hv.mono (fun v h2 hp => ?_))
  obtain ⟨rfl, hv⟩ := hp
  refine w_aload_n (pc := 155) C dX10_divides_155 rfl ?_
  obtain ⟨f3, hv⟩ := hv
  refine w_cV0_0 (pc := 156) C cl_X10_406 lv_X10_laysGaps (by decide) dX10_divides_156 (Nat.le_of_ble_eq_true rfl) (c := 10) rfl (St10_k f3) (hv.mono (fun v h4 hp => ?_))
  obtain ⟨x5, rfl, hv⟩ := hp
  refine w_istore_n (pc := 159) C dX10_divides_159 (by decide) ?_
  refine w_aload_n (pc := 160) C dX10_divides_160 rfl ?_
  refine w_iconst (pc := 161) C (v := 1) dX10_divides_161 (by decide) ?_
  obtain ⟨f6, hv⟩ := hv
  refine w_putI (pc := 162) C fl_X10_11 rfl rfl dX10_divides_162 (St10_k f6) ?_
  refine w_aload_n (pc := 165) C dX10_divides_165 rfl ?_
  refine w_iload_n (pc := 166) C dX10_divides_166 rfl ?_
  refine w_iconst (pc := 167) C (v := 1) dX10_divides_167 (by decide) ?_
  refine w_icmp_ne (pc := 168) C (tgt := 175) dX10_divides_168 (by decide) ?_
  obtain ⟨hv1, hv2⟩ := hv
  refine ⟨fun c7 => ?_, fun c7 => ?_⟩
  · have hv := hv1 c7
    refine w_iconst (pc := 175) C (v := 0) dX10_divides_175 (by decide) ?_
    refine w_sub ?_ hv
    exact ⟨rfl, trivial⟩
  · have hv := hv2 c7
    refine w_iconst (pc := 171) C (v := 1) dX10_divides_171 (by decide) ?_
    refine w_goto (pc := 172) C (tgt := 176) dX10_divides_172 (by decide) ?_
    refine w_sub ?_ hv
    exact ⟨rfl, trivial⟩
set_option maxRecDepth 20000 in
set_option maxHeartbeats 2000000 in
theorem V_X10_divides_176 {X : Ctx} (C : C_X10_divides X) {k n : Nat} {Q : Pq} {h : Hp} {v0 s0 : Nat} {s1 : Int32}
    (hv : St10 h s0 ∧ S_X10_enters (lX X) (dtX X) 0 0 [.ref s0, .long (Int32.toInt64 (flg s1))] h (QV fun h2 =>
    St10 h2 v0 ∧ S_X10_done (lX X) (dtX X) 0 0 [.ref v0, .int (gi h2 (v0 + 3) (ix 60))] h2 (QI fun x5 h4 =>
    Q (some (.int x5)) h4))) :
    Wj X k n Q 176 [(0, .ref v0)] [.int s1, .ref s0] h := by
  refine w_cS0_1 (pc := 176) C cl_X10_39 ls_X10_flag (by decide) dX10_divides_176 (Nat.le_of_ble_eq_true rfl) ((sf_X10_flag (h := h) ).mono (fun v h9 hp => ?_))
  obtain ⟨e1, e2⟩ := hp
  rw [e1, e2]
  refine w_i2l (pc := 179) C dX10_divides_179 ?_
  obtain ⟨f1, hv⟩ := hv
  refine w_cV0_1 (pc := 180) C cl_X10_18 lv_X10_enters (by decide) dX10_divides_180 (Nat.le_of_ble_eq_true rfl) (c := 10) rfl (St10_k f1) (hv.mono (fun v h2 hp => ?_))
  obtain ⟨rfl, hv⟩ := hp
  refine w_aload_n (pc := 183) C dX10_divides_183 rfl ?_
  refine w_aload_n (pc := 184) C dX10_divides_184 rfl ?_
  obtain ⟨f3, hv⟩ := hv
  refine w_cV0_0 (pc := 185) C cl_X10_378 lv_X10_marks (by decide) dX10_divides_185 (Nat.le_of_ble_eq_true rfl) (c := 10) rfl (St10_k f3) ((sf_X10_marks (h := h2) f3).mono (fun v h9 hp => ?_))
  obtain ⟨e1, e2⟩ := hp
  rw [e1, e2]
  refine w_cV0_1 (pc := 188) C cl_X10_147 lv_X10_done (by decide) dX10_divides_188 (Nat.le_of_ble_eq_true rfl) (c := 10) rfl (St10_k f3) (hv.mono (fun v h4 hp => ?_))
  obtain ⟨x5, rfl, hv⟩ := hp
  exact w_iret (pc := 191) C dX10_divides_191 hv
