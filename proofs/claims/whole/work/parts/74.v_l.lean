-- compound ways (by program: gen_parts.py)
theorem dX0_init_0 : decode cX0_init 0 = .ok (.aload_n 0, 1) := by decide +kernel
theorem dX0_init_1 : decode cX0_init 1 = .ok (.invokespecial 3, 3) := by decide +kernel
theorem dX0_init_4 : decode cX0_init 4 = .ok (.aload_n 0, 1) := by decide +kernel
theorem dX0_init_5 : decode cX0_init 5 = .ok (.iconst 0, 1) := by decide +kernel
theorem dX0_init_6 : decode cX0_init 6 = .ok (.putfield 9, 3) := by decide +kernel
theorem dX0_init_9 : decode cX0_init 9 = .ok (.aload_n 0, 1) := by decide +kernel
theorem dX0_init_10 : decode cX0_init 10 = .ok (.iconst (-1), 1) := by decide +kernel
theorem dX0_init_11 : decode cX0_init 11 = .ok (.putfield 15, 3) := by decide +kernel
theorem dX0_init_14 : decode cX0_init 14 = .ok (.aload_n 0, 1) := by decide +kernel
theorem dX0_init_15 : decode cX0_init 15 = .ok (.iconst (-1), 1) := by decide +kernel
theorem dX0_init_16 : decode cX0_init 16 = .ok (.putfield 18, 3) := by decide +kernel
theorem dX0_init_19 : decode cX0_init 19 = .ok (.aload_n 0, 1) := by decide +kernel
theorem dX0_init_20 : decode cX0_init 20 = .ok (.iconst 0, 1) := by decide +kernel
theorem dX0_init_21 : decode cX0_init 21 = .ok (.putfield 21, 3) := by decide +kernel
theorem dX0_init_24 : decode cX0_init 24 = .ok (.aload_n 0, 1) := by decide +kernel
theorem dX0_init_25 : decode cX0_init 25 = .ok (.iconst 0, 1) := by decide +kernel
theorem dX0_init_26 : decode cX0_init 26 = .ok (.putfield 24, 3) := by decide +kernel
theorem dX0_init_29 : decode cX0_init 29 = .ok (.aload_n 0, 1) := by decide +kernel
theorem dX0_init_30 : decode cX0_init 30 = .ok (.iconst 0, 1) := by decide +kernel
theorem dX0_init_31 : decode cX0_init 31 = .ok (.putfield 27, 3) := by decide +kernel
theorem dX0_init_34 : decode cX0_init 34 = .ok (.return_, 1) := by decide +kernel
set_option maxRecDepth 20000 in
set_option maxHeartbeats 2000000 in
theorem V_X0_init_0 {X : Ctx} (C : C_X0_init X) {k n : Nat} {Q : Pq} {h : Hp} {v0 : Nat}
    (hv : kd h v0 = 1 ∧ Q none (si (si (si (si (si (si h v0 0 0) v0 1 (-1)) v0 2 (-1)) v0 3 0) v0 4 0) v0 5 0)) :
    Wj X k n Q 0 [(0, .ref v0)] [] h := by
  refine w_aload_n (pc := 0) C dX0_init_0 rfl ?_
  refine w_objInit (pc := 1) C oi_X0_3 ow_1 ow_2 dX0_init_1 (by decide) (Nat.le_of_ble_eq_true rfl) ?_
  refine w_aload_n (pc := 4) C dX0_init_4 rfl ?_
  refine w_iconst (pc := 5) C (v := 0) dX0_init_5 (by decide) ?_
  obtain ⟨f1, hv⟩ := hv
  refine w_putI (pc := 6) C fl_X0_9 rfl rfl dX0_init_6 f1 ?_
  refine w_aload_n (pc := 9) C dX0_init_9 rfl ?_
  refine w_iconst (pc := 10) C (v := (-1)) dX0_init_10 (by decide) ?_
  refine w_putI (pc := 11) C fl_X0_15 rfl rfl dX0_init_11 f1 ?_
  refine w_aload_n (pc := 14) C dX0_init_14 rfl ?_
  refine w_iconst (pc := 15) C (v := (-1)) dX0_init_15 (by decide) ?_
  refine w_putI (pc := 16) C fl_X0_18 rfl rfl dX0_init_16 f1 ?_
  refine w_aload_n (pc := 19) C dX0_init_19 rfl ?_
  refine w_iconst (pc := 20) C (v := 0) dX0_init_20 (by decide) ?_
  refine w_putI (pc := 21) C fl_X0_21 rfl rfl dX0_init_21 f1 ?_
  refine w_aload_n (pc := 24) C dX0_init_24 rfl ?_
  refine w_iconst (pc := 25) C (v := 0) dX0_init_25 (by decide) ?_
  refine w_putI (pc := 26) C fl_X0_24 rfl rfl dX0_init_26 f1 ?_
  refine w_aload_n (pc := 29) C dX0_init_29 rfl ?_
  refine w_iconst (pc := 30) C (v := 0) dX0_init_30 (by decide) ?_
  refine w_putI (pc := 31) C fl_X0_27 rfl rfl dX0_init_31 f1 ?_
  exact w_vret (pc := 34) C dX0_init_34 hv
theorem dX0_take_0 : decode cX0_take 0 = .ok (.iload_n 1, 1) := by decide +kernel
theorem dX0_take_1 : decode cX0_take 1 = .ok (.iload_n 2, 1) := by decide +kernel
theorem dX0_take_2 : decode cX0_take 2 = .ok (.invokestatic 65, 3) := by decide +kernel
theorem dX0_take_5 : decode cX0_take 5 = .ok (.iadd, 1) := by decide +kernel
theorem dX0_take_6 : decode cX0_take 6 = .ok (.istore 4, 2) := by decide +kernel
theorem dX0_take_8 : decode cX0_take 8 = .ok (.iload_n 3, 1) := by decide +kernel
theorem dX0_take_9 : decode cX0_take 9 = .ok (.ifCond .lt 19, 3) := by decide +kernel
theorem dX0_take_12 : decode cX0_take 12 = .ok (.aload_n 0, 1) := by decide +kernel
theorem dX0_take_13 : decode cX0_take 13 = .ok (.getfield 9, 3) := by decide +kernel
theorem dX0_take_16 : decode cX0_take 16 = .ok (.ifCond .eq 14, 3) := by decide +kernel
theorem dX0_take_19 : decode cX0_take 19 = .ok (.iload 4, 2) := by decide +kernel
theorem dX0_take_21 : decode cX0_take 21 = .ok (.aload_n 0, 1) := by decide +kernel
theorem dX0_take_22 : decode cX0_take 22 = .ok (.getfield 9, 3) := by decide +kernel
theorem dX0_take_25 : decode cX0_take 25 = .ok (.if_icmp .lt 5, 3) := by decide +kernel
theorem dX0_take_28 : decode cX0_take 28 = .ok (.iconst 0, 1) := by decide +kernel
theorem dX0_take_29 : decode cX0_take 29 = .ok (.ireturn, 1) := by decide +kernel
theorem dX0_take_30 : decode cX0_take 30 = .ok (.aload_n 0, 1) := by decide +kernel
theorem dX0_take_31 : decode cX0_take 31 = .ok (.iload 4, 2) := by decide +kernel
theorem dX0_take_33 : decode cX0_take 33 = .ok (.putfield 9, 3) := by decide +kernel
theorem dX0_take_36 : decode cX0_take 36 = .ok (.aload_n 0, 1) := by decide +kernel
theorem dX0_take_37 : decode cX0_take 37 = .ok (.iload_n 3, 1) := by decide +kernel
theorem dX0_take_38 : decode cX0_take 38 = .ok (.putfield 21, 3) := by decide +kernel
theorem dX0_take_41 : decode cX0_take 41 = .ok (.aload_n 0, 1) := by decide +kernel
theorem dX0_take_42 : decode cX0_take 42 = .ok (.iload_n 1, 1) := by decide +kernel
theorem dX0_take_43 : decode cX0_take 43 = .ok (.putfield 24, 3) := by decide +kernel
theorem dX0_take_46 : decode cX0_take 46 = .ok (.aload_n 0, 1) := by decide +kernel
theorem dX0_take_47 : decode cX0_take 47 = .ok (.iload_n 2, 1) := by decide +kernel
theorem dX0_take_48 : decode cX0_take 48 = .ok (.putfield 27, 3) := by decide +kernel
theorem dX0_take_51 : decode cX0_take 51 = .ok (.iconst 1, 1) := by decide +kernel
theorem dX0_take_52 : decode cX0_take 52 = .ok (.ireturn, 1) := by decide +kernel
set_option maxRecDepth 20000 in
set_option maxHeartbeats 2000000 in
theorem V_X0_take_0 {X : Ctx} (C : C_X0_take X) {k n : Nat} {Q : Pq} {h : Hp} {v0 : Nat} {v1 v2 v3 : Int32}
    (hv : ((v3 < 0 → Q (some (.int 0)) h) ∧
    (¬ v3 < 0 → kd h v0 = 1 ∧ (((gi h v0 0) = 0 → Wj X k n Q 30 [(0, .ref v0), (1, .int v1), (2, .int v2), (3, .int v3), (4, .int (v1 + (abI v2)))] [] h) ∧
    (¬ (gi h v0 0) = 0 → (((v1 + (abI v2)) < (gi h v0 0) → Wj X k n Q 30 [(0, .ref v0), (1, .int v1), (2, .int v2), (3, .int v3), (4, .int (v1 + (abI v2)))] [] h) ∧
    (¬ (v1 + (abI v2)) < (gi h v0 0) → Q (some (.int 0)) h))))))) :
    Wj X k n Q 0 [(0, .ref v0), (1, .int v1), (2, .int v2), (3, .int v3)] [] h := by
  refine w_iload_n (pc := 0) C dX0_take_0 rfl ?_
  refine w_iload_n (pc := 1) C dX0_take_1 rfl ?_
  refine w_cS0_1 (pc := 2) C cl_X0_65 ls_J9_abs_0f7a4 (by decide) dX0_take_2 (Nat.le_of_ble_eq_true rfl) ((sf_J9_abs_0f7a4 (h := h) ).mono (fun v h9 hp => ?_))
  obtain ⟨e1, e2⟩ := hp
  rw [e1, e2]
  refine w_iadd (pc := 5) C dX0_take_5 ?_
  refine w_istore (pc := 6) C dX0_take_6 (by decide) ?_
  refine w_iload_n (pc := 8) C dX0_take_8 rfl ?_
  refine w_if_lt (pc := 9) C (tgt := 28) dX0_take_9 (by decide) ?_
  obtain ⟨hv1, hv2⟩ := hv
  refine ⟨fun c4 => ?_, fun c4 => ?_⟩
  · have hv := hv1 c4
    refine w_iconst (pc := 28) C (v := 0) dX0_take_28 (by decide) ?_
    exact w_zret (pc := 29) C dX0_take_29 (by decide) hv
  · have hv := hv2 c4
    refine w_aload_n (pc := 12) C dX0_take_12 rfl ?_
    obtain ⟨f1, hv⟩ := hv
    refine w_getI (pc := 13) C fl_X0_9 rfl dX0_take_13 f1 ?_
    refine w_if_eq (pc := 16) C (tgt := 30) dX0_take_16 (by decide) ?_
    obtain ⟨hv1, hv2⟩ := hv
    refine ⟨fun c3 => ?_, fun c3 => ?_⟩
    · have hv := hv1 c3
      refine w_sub ?_ hv
      exact ⟨rfl, rfl, rfl, rfl, rfl, trivial⟩
    · have hv := hv2 c3
      refine w_iload (pc := 19) C dX0_take_19 rfl ?_
      refine w_aload_n (pc := 21) C dX0_take_21 rfl ?_
      refine w_getI (pc := 22) C fl_X0_9 rfl dX0_take_22 f1 ?_
      refine w_icmp_lt (pc := 25) C (tgt := 30) dX0_take_25 (by decide) ?_
      obtain ⟨hv1, hv2⟩ := hv
      refine ⟨fun c2 => ?_, fun c2 => ?_⟩
      · have hv := hv1 c2
        refine w_sub ?_ hv
        exact ⟨rfl, rfl, rfl, rfl, rfl, trivial⟩
      · have hv := hv2 c2
        refine w_iconst (pc := 28) C (v := 0) dX0_take_28 (by decide) ?_
        exact w_zret (pc := 29) C dX0_take_29 (by decide) hv
set_option maxRecDepth 20000 in
set_option maxHeartbeats 2000000 in
theorem V_X0_take_30 {X : Ctx} (C : C_X0_take X) {k n : Nat} {Q : Pq} {h : Hp} {v0 : Nat} {v1 v2 v3 v4 : Int32}
    (hv : kd h v0 = 1 ∧ Q (some (.int 1)) (si (si (si (si h v0 0 v4) v0 3 v3) v0 4 v1) v0 5 v2)) :
    Wj X k n Q 30 [(0, .ref v0), (1, .int v1), (2, .int v2), (3, .int v3), (4, .int v4)] [] h := by
  refine w_aload_n (pc := 30) C dX0_take_30 rfl ?_
  refine w_iload (pc := 31) C dX0_take_31 rfl ?_
  obtain ⟨f1, hv⟩ := hv
  refine w_putI (pc := 33) C fl_X0_9 rfl rfl dX0_take_33 f1 ?_
  refine w_aload_n (pc := 36) C dX0_take_36 rfl ?_
  refine w_iload_n (pc := 37) C dX0_take_37 rfl ?_
  refine w_putI (pc := 38) C fl_X0_21 rfl rfl dX0_take_38 f1 ?_
  refine w_aload_n (pc := 41) C dX0_take_41 rfl ?_
  refine w_iload_n (pc := 42) C dX0_take_42 rfl ?_
  refine w_putI (pc := 43) C fl_X0_24 rfl rfl dX0_take_43 f1 ?_
  refine w_aload_n (pc := 46) C dX0_take_46 rfl ?_
  refine w_iload_n (pc := 47) C dX0_take_47 rfl ?_
  refine w_putI (pc := 48) C fl_X0_27 rfl rfl dX0_take_48 f1 ?_
  refine w_iconst (pc := 51) C (v := 1) dX0_take_51 (by decide) ?_
  exact w_zret (pc := 52) C dX0_take_52 (by decide) hv
theorem dX0_offer_0 : decode cX0_offer 0 = .ok (.iload_n 3, 1) := by decide +kernel
theorem dX0_offer_1 : decode cX0_offer 1 = .ok (.ifCond .gt 5, 3) := by decide +kernel
theorem dX0_offer_4 : decode cX0_offer 4 = .ok (.iconst 0, 1) := by decide +kernel
theorem dX0_offer_5 : decode cX0_offer 5 = .ok (.ireturn, 1) := by decide +kernel
theorem dX0_offer_6 : decode cX0_offer 6 = .ok (.iload_n 2, 1) := by decide +kernel
theorem dX0_offer_7 : decode cX0_offer 7 = .ok (.iload_n 3, 1) := by decide +kernel
theorem dX0_offer_8 : decode cX0_offer 8 = .ok (.invokestatic 53, 3) := by decide +kernel
theorem dX0_offer_11 : decode cX0_offer 11 = .ok (.istore 4, 2) := by decide +kernel
theorem dX0_offer_13 : decode cX0_offer 13 = .ok (.iload_n 2, 1) := by decide +kernel
theorem dX0_offer_14 : decode cX0_offer 14 = .ok (.iload_n 3, 1) := by decide +kernel
theorem dX0_offer_15 : decode cX0_offer 15 = .ok (.invokestatic 59, 3) := by decide +kernel
theorem dX0_offer_18 : decode cX0_offer 18 = .ok (.istore 5, 2) := by decide +kernel
theorem dX0_offer_20 : decode cX0_offer 20 = .ok (.iload 4, 2) := by decide +kernel
theorem dX0_offer_22 : decode cX0_offer 22 = .ok (.ifCond .eq 23, 3) := by decide +kernel
theorem dX0_offer_25 : decode cX0_offer 25 = .ok (.aload_n 0, 1) := by decide +kernel
theorem dX0_offer_26 : decode cX0_offer 26 = .ok (.iload_n 1, 1) := by decide +kernel
theorem dX0_offer_27 : decode cX0_offer 27 = .ok (.iload 4, 2) := by decide +kernel
theorem dX0_offer_29 : decode cX0_offer 29 = .ok (.iload_n 3, 1) := by decide +kernel
theorem dX0_offer_30 : decode cX0_offer 30 = .ok (.isub, 1) := by decide +kernel
theorem dX0_offer_31 : decode cX0_offer 31 = .ok (.iload 5, 2) := by decide +kernel
theorem dX0_offer_33 : decode cX0_offer 33 = .ok (.iconst 1, 1) := by decide +kernel
theorem dX0_offer_34 : decode cX0_offer 34 = .ok (.iadd, 1) := by decide +kernel
theorem dX0_offer_35 : decode cX0_offer 35 = .ok (.invokevirtual 62, 3) := by decide +kernel
theorem dX0_offer_38 : decode cX0_offer 38 = .ok (.ifCond .eq 7, 3) := by decide +kernel
theorem dX0_offer_41 : decode cX0_offer 41 = .ok (.iconst 1, 1) := by decide +kernel
theorem dX0_offer_42 : decode cX0_offer 42 = .ok (.goto 4, 3) := by decide +kernel
theorem dX0_offer_45 : decode cX0_offer 45 = .ok (.iconst 0, 1) := by decide +kernel
theorem dX0_offer_46 : decode cX0_offer 46 = .ok (.istore 6, 2) := by decide +kernel
theorem dX0_offer_48 : decode cX0_offer 48 = .ok (.iload 4, 2) := by decide +kernel
theorem dX0_offer_50 : decode cX0_offer 50 = .ok (.ifCond .eq 19, 3) := by decide +kernel
theorem dX0_offer_53 : decode cX0_offer 53 = .ok (.aload_n 0, 1) := by decide +kernel
theorem dX0_offer_54 : decode cX0_offer 54 = .ok (.iload_n 1, 1) := by decide +kernel
theorem dX0_offer_55 : decode cX0_offer 55 = .ok (.iload 4, 2) := by decide +kernel
theorem dX0_offer_57 : decode cX0_offer 57 = .ok (.iload 5, 2) := by decide +kernel
theorem dX0_offer_59 : decode cX0_offer 59 = .ok (.invokevirtual 62, 3) := by decide +kernel
theorem dX0_offer_62 : decode cX0_offer 62 = .ok (.ifCond .eq 7, 3) := by decide +kernel
theorem dX0_offer_65 : decode cX0_offer 65 = .ok (.iconst 1, 1) := by decide +kernel
theorem dX0_offer_66 : decode cX0_offer 66 = .ok (.goto 4, 3) := by decide +kernel
theorem dX0_offer_69 : decode cX0_offer 69 = .ok (.iconst 0, 1) := by decide +kernel
theorem dX0_offer_70 : decode cX0_offer 70 = .ok (.istore 7, 2) := by decide +kernel
theorem dX0_offer_72 : decode cX0_offer 72 = .ok (.iload 6, 2) := by decide +kernel
theorem dX0_offer_74 : decode cX0_offer 74 = .ok (.ifCond .ne 8, 3) := by decide +kernel
theorem dX0_offer_77 : decode cX0_offer 77 = .ok (.iload 7, 2) := by decide +kernel
theorem dX0_offer_79 : decode cX0_offer 79 = .ok (.ifCond .eq 7, 3) := by decide +kernel
theorem dX0_offer_82 : decode cX0_offer 82 = .ok (.iconst 1, 1) := by decide +kernel
theorem dX0_offer_83 : decode cX0_offer 83 = .ok (.goto 4, 3) := by decide +kernel
theorem dX0_offer_86 : decode cX0_offer 86 = .ok (.iconst 0, 1) := by decide +kernel
theorem dX0_offer_87 : decode cX0_offer 87 = .ok (.ireturn, 1) := by decide +kernel
set_option maxRecDepth 20000 in
set_option maxHeartbeats 2000000 in
theorem V_X0_offer_0 {X : Ctx} (C : C_X0_offer X) {k n : Nat} {Q : Pq} {h : Hp} {v0 : Nat} {v1 v2 v3 : Int32}
    (hv : ((0 < v3 → 0 < (Int32.toInt v3) ∧ (((fmI v2 v3) = 0 → Wj X k n Q 46 [(0, .ref v0), (1, .int v1), (4, .int (fmI v2 v3)), (5, .int (fdI v2 v3))] [.int 0] h) ∧
    (¬ (fmI v2 v3) = 0 → kd h v0 = 1 ∧ S_X0_take (lX X) (dtX X) 0 0 [.ref v0, .int v1, .int ((fmI v2 v3) - v3), .int ((fdI v2 v3) + 1)] h (QI fun x4 h3 =>
    ((x4 = 0 → Wj X k n Q 46 [(0, .ref v0), (1, .int v1), (4, .int (fmI v2 v3)), (5, .int (fdI v2 v3))] [.int 0] h3) ∧
    (¬ x4 = 0 → Wj X k n Q 46 [(0, .ref v0), (1, .int v1), (4, .int (fmI v2 v3)), (5, .int (fdI v2 v3))] [.int 1] h3)))))) ∧
    (¬ 0 < v3 → Q (some (.int 0)) h))) :
    Wj X k n Q 0 [(0, .ref v0), (1, .int v1), (2, .int v2), (3, .int v3)] [] h := by
  refine w_iload_n (pc := 0) C dX0_offer_0 rfl ?_
  refine w_if_gt (pc := 1) C (tgt := 6) dX0_offer_1 (by decide) ?_
  obtain ⟨hv1, hv2⟩ := hv
  refine ⟨fun c7 => ?_, fun c7 => ?_⟩
  · have hv := hv1 c7
    refine w_iload_n (pc := 6) C dX0_offer_6 rfl ?_
    refine w_iload_n (pc := 7) C dX0_offer_7 rfl ?_
    obtain ⟨f1, hv⟩ := hv
    refine w_cS0_2 (pc := 8) C cl_X0_53 ls_J9_floorMod_7cf53 (by decide) dX0_offer_8 (Nat.le_of_ble_eq_true rfl) ((sf_J9_floorMod_7cf53 (h := h) f1).mono (fun v h9 hp => ?_))
    obtain ⟨e1, e2⟩ := hp
    rw [e1, e2]
    refine w_istore (pc := 11) C dX0_offer_11 (by decide) ?_
    refine w_iload_n (pc := 13) C dX0_offer_13 rfl ?_
    refine w_iload_n (pc := 14) C dX0_offer_14 rfl ?_
    refine w_cS0_2 (pc := 15) C cl_X0_59 ls_J9_floorDiv_7cf53 (by decide) dX0_offer_15 (Nat.le_of_ble_eq_true rfl) ((sf_J9_floorDiv_7cf53 (h := h) f1).mono (fun v h9 hp => ?_))
    obtain ⟨e1, e2⟩ := hp
    rw [e1, e2]
    refine w_istore (pc := 18) C dX0_offer_18 (by decide) ?_
    refine w_iload (pc := 20) C dX0_offer_20 rfl ?_
    refine w_if_eq (pc := 22) C (tgt := 45) dX0_offer_22 (by decide) ?_
    obtain ⟨hv1, hv2⟩ := hv
    refine ⟨fun c6 => ?_, fun c6 => ?_⟩
    · have hv := hv1 c6
      refine w_iconst (pc := 45) C (v := 0) dX0_offer_45 (by decide) ?_
      refine w_sub ?_ hv
      exact ⟨rfl, rfl, rfl, rfl, trivial⟩
    · have hv := hv2 c6
      refine w_aload_n (pc := 25) C dX0_offer_25 rfl ?_
      refine w_iload_n (pc := 26) C dX0_offer_26 rfl ?_
      refine w_iload (pc := 27) C dX0_offer_27 rfl ?_
      refine w_iload_n (pc := 29) C dX0_offer_29 rfl ?_
      refine w_isub (pc := 30) C dX0_offer_30 ?_
      refine w_iload (pc := 31) C dX0_offer_31 rfl ?_
      refine w_iconst (pc := 33) C (v := 1) dX0_offer_33 (by decide) ?_
      refine w_iadd (pc := 34) C dX0_offer_34 ?_
      obtain ⟨f2, hv⟩ := hv
      refine w_cV0_3 (pc := 35) C cl_X0_62 lv_X0_take (by decide) dX0_offer_35 (Nat.le_of_ble_eq_true rfl) (c := 0) rfl f2 (hv.mono (fun v h3 hp => ?_))
      obtain ⟨x4, rfl, hv⟩ := hp
      refine w_if_eq (pc := 38) C (tgt := 45) dX0_offer_38 (by decide) ?_
      obtain ⟨hv1, hv2⟩ := hv
      refine ⟨fun c5 => ?_, fun c5 => ?_⟩
      · have hv := hv1 c5
        refine w_iconst (pc := 45) C (v := 0) dX0_offer_45 (by decide) ?_
        refine w_sub ?_ hv
        exact ⟨rfl, rfl, rfl, rfl, trivial⟩
      · have hv := hv2 c5
        refine w_iconst (pc := 41) C (v := 1) dX0_offer_41 (by decide) ?_
        refine w_goto (pc := 42) C (tgt := 46) dX0_offer_42 (by decide) ?_
        refine w_sub ?_ hv
        exact ⟨rfl, rfl, rfl, rfl, trivial⟩
  · have hv := hv2 c7
    refine w_iconst (pc := 4) C (v := 0) dX0_offer_4 (by decide) ?_
    exact w_zret (pc := 5) C dX0_offer_5 (by decide) hv
set_option maxRecDepth 20000 in
set_option maxHeartbeats 2000000 in
theorem V_X0_offer_46 {X : Ctx} (C : C_X0_offer X) {k n : Nat} {Q : Pq} {h : Hp} {v0 : Nat} {v1 v4 v5 s0 : Int32}
    (hv : ((v4 = 0 → Wj X k n Q 70 [(6, .int s0)] [.int 0] h) ∧
    (¬ v4 = 0 → kd h v0 = 1 ∧ S_X0_take (lX X) (dtX X) 0 0 [.ref v0, .int v1, .int v4, .int v5] h (QI fun x3 h2 =>
    ((x3 = 0 → Wj X k n Q 70 [(6, .int s0)] [.int 0] h2) ∧
    (¬ x3 = 0 → Wj X k n Q 70 [(6, .int s0)] [.int 1] h2)))))) :
    Wj X k n Q 46 [(0, .ref v0), (1, .int v1), (4, .int v4), (5, .int v5)] [.int s0] h := by
  refine w_istore (pc := 46) C dX0_offer_46 (by decide) ?_
  refine w_iload (pc := 48) C dX0_offer_48 rfl ?_
  refine w_if_eq (pc := 50) C (tgt := 69) dX0_offer_50 (by decide) ?_
  obtain ⟨hv1, hv2⟩ := hv
  refine ⟨fun c5 => ?_, fun c5 => ?_⟩
  · have hv := hv1 c5
    refine w_iconst (pc := 69) C (v := 0) dX0_offer_69 (by decide) ?_
    refine w_sub ?_ hv
    exact ⟨rfl, trivial⟩
  · have hv := hv2 c5
    refine w_aload_n (pc := 53) C dX0_offer_53 rfl ?_
    refine w_iload_n (pc := 54) C dX0_offer_54 rfl ?_
    refine w_iload (pc := 55) C dX0_offer_55 rfl ?_
    refine w_iload (pc := 57) C dX0_offer_57 rfl ?_
    obtain ⟨f1, hv⟩ := hv
    refine w_cV0_3 (pc := 59) C cl_X0_62 lv_X0_take (by decide) dX0_offer_59 (Nat.le_of_ble_eq_true rfl) (c := 0) rfl f1 (hv.mono (fun v h2 hp => ?_))
    obtain ⟨x3, rfl, hv⟩ := hp
    refine w_if_eq (pc := 62) C (tgt := 69) dX0_offer_62 (by decide) ?_
    obtain ⟨hv1, hv2⟩ := hv
    refine ⟨fun c4 => ?_, fun c4 => ?_⟩
    · have hv := hv1 c4
      refine w_iconst (pc := 69) C (v := 0) dX0_offer_69 (by decide) ?_
      refine w_sub ?_ hv
      exact ⟨rfl, trivial⟩
    · have hv := hv2 c4
      refine w_iconst (pc := 65) C (v := 1) dX0_offer_65 (by decide) ?_
      refine w_goto (pc := 66) C (tgt := 70) dX0_offer_66 (by decide) ?_
      refine w_sub ?_ hv
      exact ⟨rfl, trivial⟩
set_option maxRecDepth 20000 in
set_option maxHeartbeats 2000000 in
theorem V_X0_offer_70 {X : Ctx} (C : C_X0_offer X) {k n : Nat} {Q : Pq} {h : Hp} {v6 s0 : Int32}
    (hv : ((¬ v6 = 0 → Q (some (.int 1)) h) ∧
    (v6 = 0 → ((s0 = 0 → Q (some (.int 0)) h) ∧
    (¬ s0 = 0 → Q (some (.int 1)) h))))) :
    Wj X k n Q 70 [(6, .int v6)] [.int s0] h := by
  refine w_istore (pc := 70) C dX0_offer_70 (by decide) ?_
  refine w_iload (pc := 72) C dX0_offer_72 rfl ?_
  refine w_if_ne (pc := 74) C (tgt := 82) dX0_offer_74 (by decide) ?_
  obtain ⟨hv1, hv2⟩ := hv
  refine ⟨fun c2 => ?_, fun c2 => ?_⟩
  · have hv := hv1 c2
    refine w_iconst (pc := 82) C (v := 1) dX0_offer_82 (by decide) ?_
    refine w_goto (pc := 83) C (tgt := 87) dX0_offer_83 (by decide) ?_
    exact w_zret (pc := 87) C dX0_offer_87 (by decide) hv
  · have hv := hv2 c2
    refine w_iload (pc := 77) C dX0_offer_77 rfl ?_
    refine w_if_eq (pc := 79) C (tgt := 86) dX0_offer_79 (by decide) ?_
    obtain ⟨hv1, hv2⟩ := hv
    refine ⟨fun c1 => ?_, fun c1 => ?_⟩
    · have hv := hv1 c1
      refine w_iconst (pc := 86) C (v := 0) dX0_offer_86 (by decide) ?_
      exact w_zret (pc := 87) C dX0_offer_87 (by decide) hv
    · have hv := hv2 c1
      refine w_iconst (pc := 82) C (v := 1) dX0_offer_82 (by decide) ?_
      refine w_goto (pc := 83) C (tgt := 87) dX0_offer_83 (by decide) ?_
      exact w_zret (pc := 87) C dX0_offer_87 (by decide) hv
theorem dX0_tryPair_0 : decode cX0_tryPair 0 = .ok (.aload_n 1, 1) := by decide +kernel
theorem dX0_tryPair_1 : decode cX0_tryPair 1 = .ok (.iload_n 2, 1) := by decide +kernel
theorem dX0_tryPair_2 : decode cX0_tryPair 2 = .ok (.invokevirtual 43, 3) := by decide +kernel
theorem dX0_tryPair_5 : decode cX0_tryPair 5 = .ok (.istore 5, 2) := by decide +kernel
theorem dX0_tryPair_7 : decode cX0_tryPair 7 = .ok (.aload_n 1, 1) := by decide +kernel
theorem dX0_tryPair_8 : decode cX0_tryPair 8 = .ok (.iload_n 3, 1) := by decide +kernel
theorem dX0_tryPair_9 : decode cX0_tryPair 9 = .ok (.invokevirtual 43, 3) := by decide +kernel
theorem dX0_tryPair_12 : decode cX0_tryPair 12 = .ok (.istore 6, 2) := by decide +kernel
theorem dX0_tryPair_14 : decode cX0_tryPair 14 = .ok (.aload_n 1, 1) := by decide +kernel
theorem dX0_tryPair_15 : decode cX0_tryPair 15 = .ok (.getfield 46, 3) := by decide +kernel
theorem dX0_tryPair_18 : decode cX0_tryPair 18 = .ok (.iload 5, 2) := by decide +kernel
theorem dX0_tryPair_20 : decode cX0_tryPair 20 = .ok (.imul, 1) := by decide +kernel
theorem dX0_tryPair_21 : decode cX0_tryPair 21 = .ok (.iload 6, 2) := by decide +kernel
theorem dX0_tryPair_23 : decode cX0_tryPair 23 = .ok (.imul, 1) := by decide +kernel
theorem dX0_tryPair_24 : decode cX0_tryPair 24 = .ok (.istore 7, 2) := by decide +kernel
theorem dX0_tryPair_26 : decode cX0_tryPair 26 = .ok (.iload 4, 2) := by decide +kernel
theorem dX0_tryPair_28 : decode cX0_tryPair 28 = .ok (.ifCond .le 21, 3) := by decide +kernel
theorem dX0_tryPair_31 : decode cX0_tryPair 31 = .ok (.iload 5, 2) := by decide +kernel
theorem dX0_tryPair_33 : decode cX0_tryPair 33 = .ok (.ifCond .le 16, 3) := by decide +kernel
theorem dX0_tryPair_36 : decode cX0_tryPair 36 = .ok (.iload 6, 2) := by decide +kernel
theorem dX0_tryPair_38 : decode cX0_tryPair 38 = .ok (.ifCond .le 11, 3) := by decide +kernel
theorem dX0_tryPair_41 : decode cX0_tryPair 41 = .ok (.iload 7, 2) := by decide +kernel
theorem dX0_tryPair_43 : decode cX0_tryPair 43 = .ok (.iload 4, 2) := by decide +kernel
theorem dX0_tryPair_45 : decode cX0_tryPair 45 = .ok (.irem, 1) := by decide +kernel
theorem dX0_tryPair_46 : decode cX0_tryPair 46 = .ok (.ifCond .eq 4, 3) := by decide +kernel
theorem dX0_tryPair_49 : decode cX0_tryPair 49 = .ok (.return_, 1) := by decide +kernel
theorem dX0_tryPair_50 : decode cX0_tryPair 50 = .ok (.iload 7, 2) := by decide +kernel
theorem dX0_tryPair_52 : decode cX0_tryPair 52 = .ok (.iload 4, 2) := by decide +kernel
theorem dX0_tryPair_54 : decode cX0_tryPair 54 = .ok (.idiv, 1) := by decide +kernel
theorem dX0_tryPair_55 : decode cX0_tryPair 55 = .ok (.istore 8, 2) := by decide +kernel
theorem dX0_tryPair_57 : decode cX0_tryPair 57 = .ok (.iconst 1, 1) := by decide +kernel
theorem dX0_tryPair_58 : decode cX0_tryPair 58 = .ok (.istore 9, 2) := by decide +kernel
theorem dX0_tryPair_60 : decode cX0_tryPair 60 = .ok (.iload 9, 2) := by decide +kernel
theorem dX0_tryPair_62 : decode cX0_tryPair 62 = .ok (.iload 5, 2) := by decide +kernel
theorem dX0_tryPair_64 : decode cX0_tryPair 64 = .ok (.if_icmp .ge 69, 3) := by decide +kernel
theorem dX0_tryPair_67 : decode cX0_tryPair 67 = .ok (.aload_n 0, 1) := by decide +kernel
theorem dX0_tryPair_68 : decode cX0_tryPair 68 = .ok (.getfield 9, 3) := by decide +kernel
theorem dX0_tryPair_71 : decode cX0_tryPair 71 = .ok (.ifCond .eq 12, 3) := by decide +kernel
theorem dX0_tryPair_74 : decode cX0_tryPair 74 = .ok (.iload 9, 2) := by decide +kernel
theorem dX0_tryPair_76 : decode cX0_tryPair 76 = .ok (.aload_n 0, 1) := by decide +kernel
theorem dX0_tryPair_77 : decode cX0_tryPair 77 = .ok (.getfield 9, 3) := by decide +kernel
theorem dX0_tryPair_80 : decode cX0_tryPair 80 = .ok (.if_icmp .ge 53, 3) := by decide +kernel
theorem dX0_tryPair_83 : decode cX0_tryPair 83 = .ok (.iload 8, 2) := by decide +kernel
theorem dX0_tryPair_85 : decode cX0_tryPair 85 = .ok (.iload 9, 2) := by decide +kernel
theorem dX0_tryPair_87 : decode cX0_tryPair 87 = .ok (.iload 6, 2) := by decide +kernel
theorem dX0_tryPair_89 : decode cX0_tryPair 89 = .ok (.imul, 1) := by decide +kernel
theorem dX0_tryPair_90 : decode cX0_tryPair 90 = .ok (.isub, 1) := by decide +kernel
theorem dX0_tryPair_91 : decode cX0_tryPair 91 = .ok (.istore 10, 2) := by decide +kernel
theorem dX0_tryPair_93 : decode cX0_tryPair 93 = .ok (.iload 10, 2) := by decide +kernel
theorem dX0_tryPair_95 : decode cX0_tryPair 95 = .ok (.iload 5, 2) := by decide +kernel
theorem dX0_tryPair_97 : decode cX0_tryPair 97 = .ok (.irem, 1) := by decide +kernel
theorem dX0_tryPair_98 : decode cX0_tryPair 98 = .ok (.ifCond .ne 29, 3) := by decide +kernel
theorem dX0_tryPair_101 : decode cX0_tryPair 101 = .ok (.aload_n 0, 1) := by decide +kernel
theorem dX0_tryPair_102 : decode cX0_tryPair 102 = .ok (.iload 9, 2) := by decide +kernel
theorem dX0_tryPair_104 : decode cX0_tryPair 104 = .ok (.iload 10, 2) := by decide +kernel
theorem dX0_tryPair_106 : decode cX0_tryPair 106 = .ok (.iload 5, 2) := by decide +kernel
theorem dX0_tryPair_108 : decode cX0_tryPair 108 = .ok (.idiv, 1) := by decide +kernel
theorem dX0_tryPair_109 : decode cX0_tryPair 109 = .ok (.iload 6, 2) := by decide +kernel
theorem dX0_tryPair_111 : decode cX0_tryPair 111 = .ok (.invokevirtual 49, 3) := by decide +kernel
theorem dX0_tryPair_114 : decode cX0_tryPair 114 = .ok (.ifCond .eq 13, 3) := by decide +kernel
theorem dX0_tryPair_117 : decode cX0_tryPair 117 = .ok (.aload_n 0, 1) := by decide +kernel
theorem dX0_tryPair_118 : decode cX0_tryPair 118 = .ok (.iload_n 2, 1) := by decide +kernel
theorem dX0_tryPair_119 : decode cX0_tryPair 119 = .ok (.putfield 15, 3) := by decide +kernel
theorem dX0_tryPair_122 : decode cX0_tryPair 122 = .ok (.aload_n 0, 1) := by decide +kernel
theorem dX0_tryPair_123 : decode cX0_tryPair 123 = .ok (.iload_n 3, 1) := by decide +kernel
theorem dX0_tryPair_124 : decode cX0_tryPair 124 = .ok (.putfield 18, 3) := by decide +kernel
theorem dX0_tryPair_127 : decode cX0_tryPair 127 = .ok (.iinc 9 1, 3) := by decide +kernel
theorem dX0_tryPair_130 : decode cX0_tryPair 130 = .ok (.goto (-70), 3) := by decide +kernel
theorem dX0_tryPair_133 : decode cX0_tryPair 133 = .ok (.return_, 1) := by decide +kernel
set_option maxRecDepth 20000 in
set_option maxHeartbeats 2000000 in
theorem V_X0_tryPair_0 {X : Ctx} (C : C_X0_tryPair X) {k n : Nat} {Q : Pq} {h : Hp} {v0 v1 : Nat} {v2 v3 v4 : Int32}
    (hv : St4 h v1 ∧ ((v4 ≤ 0 → Q none h) ∧
    (¬ v4 ≤ 0 → (((hHo h v1 v2) ≤ 0 → Q none h) ∧
    (¬ (hHo h v1 v2) ≤ 0 → (((hHo h v1 v3) ≤ 0 → Q none h) ∧
    (¬ (hHo h v1 v3) ≤ 0 → ¬ v4 = 0 ∧ ((((((gi h v1 0) * (hHo h v1 v2)) * (hHo h v1 v3)) % v4) = 0 → Wj X k n Q 60 [(0, .ref v0), (2, .int v2), (3, .int v3), (5, .int (hHo h v1 v2)), (6, .int (hHo h v1 v3)), (8, .int ((((gi h v1 0) * (hHo h v1 v2)) * (hHo h v1 v3)) / v4)), (9, .int 1)] [] h) ∧
    (¬ ((((gi h v1 0) * (hHo h v1 v2)) * (hHo h v1 v3)) % v4) = 0 → Q none h))))))))) :
    Wj X k n Q 0 [(0, .ref v0), (1, .ref v1), (2, .int v2), (3, .int v3), (4, .int v4)] [] h := by
  refine w_aload_n (pc := 0) C dX0_tryPair_0 rfl ?_
  refine w_iload_n (pc := 1) C dX0_tryPair_1 rfl ?_
  obtain ⟨f1, hv⟩ := hv
  refine w_cV0_1 (pc := 2) C cl_X0_43 lv_X4_holesOf (by decide) dX0_tryPair_2 (Nat.le_of_ble_eq_true rfl) (c := 4) rfl (St4_k f1) ((sf_X4_holesOf (h := h) f1).mono (fun v h9 hp => ?_))
  obtain ⟨e1, e2⟩ := hp
  rw [e1, e2]
  refine w_istore (pc := 5) C dX0_tryPair_5 (by decide) ?_
  refine w_aload_n (pc := 7) C dX0_tryPair_7 rfl ?_
  refine w_iload_n (pc := 8) C dX0_tryPair_8 rfl ?_
  refine w_cV0_1 (pc := 9) C cl_X0_43 lv_X4_holesOf (by decide) dX0_tryPair_9 (Nat.le_of_ble_eq_true rfl) (c := 4) rfl (St4_k f1) ((sf_X4_holesOf (h := h) f1).mono (fun v h9 hp => ?_))
  obtain ⟨e1, e2⟩ := hp
  rw [e1, e2]
  refine w_istore (pc := 12) C dX0_tryPair_12 (by decide) ?_
  refine w_aload_n (pc := 14) C dX0_tryPair_14 rfl ?_
  refine w_getI (pc := 15) C fl_X0_46 rfl dX0_tryPair_15 (St4_k f1) ?_
  refine w_iload (pc := 18) C dX0_tryPair_18 rfl ?_
  refine w_imul (pc := 20) C dX0_tryPair_20 ?_
  refine w_iload (pc := 21) C dX0_tryPair_21 rfl ?_
  refine w_imul (pc := 23) C dX0_tryPair_23 ?_
  refine w_istore (pc := 24) C dX0_tryPair_24 (by decide) ?_
  refine w_iload (pc := 26) C dX0_tryPair_26 rfl ?_
  refine w_if_le (pc := 28) C (tgt := 49) dX0_tryPair_28 (by decide) ?_
  obtain ⟨hv1, hv2⟩ := hv
  refine ⟨fun c6 => ?_, fun c6 => ?_⟩
  · have hv := hv1 c6
    exact w_vret (pc := 49) C dX0_tryPair_49 hv
  · have hv := hv2 c6
    refine w_iload (pc := 31) C dX0_tryPair_31 rfl ?_
    refine w_if_le (pc := 33) C (tgt := 49) dX0_tryPair_33 (by decide) ?_
    obtain ⟨hv1, hv2⟩ := hv
    refine ⟨fun c5 => ?_, fun c5 => ?_⟩
    · have hv := hv1 c5
      exact w_vret (pc := 49) C dX0_tryPair_49 hv
    · have hv := hv2 c5
      refine w_iload (pc := 36) C dX0_tryPair_36 rfl ?_
      refine w_if_le (pc := 38) C (tgt := 49) dX0_tryPair_38 (by decide) ?_
      obtain ⟨hv1, hv2⟩ := hv
      refine ⟨fun c4 => ?_, fun c4 => ?_⟩
      · have hv := hv1 c4
        exact w_vret (pc := 49) C dX0_tryPair_49 hv
      · have hv := hv2 c4
        refine w_iload (pc := 41) C dX0_tryPair_41 rfl ?_
        refine w_iload (pc := 43) C dX0_tryPair_43 rfl ?_
        obtain ⟨f2, hv⟩ := hv
        refine w_irem (pc := 45) C dX0_tryPair_45 f2 ?_
        refine w_if_eq (pc := 46) C (tgt := 50) dX0_tryPair_46 (by decide) ?_
        obtain ⟨hv1, hv2⟩ := hv
        refine ⟨fun c3 => ?_, fun c3 => ?_⟩
        · have hv := hv1 c3
          refine w_iload (pc := 50) C dX0_tryPair_50 rfl ?_
          refine w_iload (pc := 52) C dX0_tryPair_52 rfl ?_
          refine w_idiv (pc := 54) C dX0_tryPair_54 f2 ?_
          refine w_istore (pc := 55) C dX0_tryPair_55 (by decide) ?_
          refine w_iconst (pc := 57) C (v := 1) dX0_tryPair_57 (by decide) ?_
          refine w_istore (pc := 58) C dX0_tryPair_58 (by decide) ?_
          refine w_sub ?_ hv
          exact ⟨rfl, rfl, rfl, rfl, rfl, rfl, rfl, trivial⟩
        · have hv := hv2 c3
          exact w_vret (pc := 49) C dX0_tryPair_49 hv
set_option maxRecDepth 20000 in
set_option maxHeartbeats 2000000 in
theorem V_X0_tryPair_60 {X : Ctx} (C : C_X0_tryPair X) {k n : Nat} {Q : Pq} {h : Hp} {v0 : Nat} {v2 v3 v5 v6 v8 v9 : Int32}
    (hv : ((v5 ≤ v9 → Q none h) ∧
    (¬ v5 ≤ v9 → kd h v0 = 1 ∧ (((gi h v0 0) = 0 → Wj X k n Q 83 [(0, .ref v0), (2, .int v2), (3, .int v3), (5, .int v5), (6, .int v6), (8, .int v8), (9, .int v9)] [] h) ∧
    (¬ (gi h v0 0) = 0 → (((gi h v0 0) ≤ v9 → Q none h) ∧
    (¬ (gi h v0 0) ≤ v9 → Wj X k n Q 83 [(0, .ref v0), (2, .int v2), (3, .int v3), (5, .int v5), (6, .int v6), (8, .int v8), (9, .int v9)] [] h))))))) :
    Wj X k n Q 60 [(0, .ref v0), (2, .int v2), (3, .int v3), (5, .int v5), (6, .int v6), (8, .int v8), (9, .int v9)] [] h := by
  refine w_iload (pc := 60) C dX0_tryPair_60 rfl ?_
  refine w_iload (pc := 62) C dX0_tryPair_62 rfl ?_
  refine w_icmp_ge (pc := 64) C (tgt := 133) dX0_tryPair_64 (by decide) ?_
  obtain ⟨hv1, hv2⟩ := hv
  refine ⟨fun c4 => ?_, fun c4 => ?_⟩
  · have hv := hv1 c4
    exact w_vret (pc := 133) C dX0_tryPair_133 hv
  · have hv := hv2 c4
    refine w_aload_n (pc := 67) C dX0_tryPair_67 rfl ?_
    obtain ⟨f1, hv⟩ := hv
    refine w_getI (pc := 68) C fl_X0_9 rfl dX0_tryPair_68 f1 ?_
    refine w_if_eq (pc := 71) C (tgt := 83) dX0_tryPair_71 (by decide) ?_
    obtain ⟨hv1, hv2⟩ := hv
    refine ⟨fun c3 => ?_, fun c3 => ?_⟩
    · have hv := hv1 c3
      refine w_sub ?_ hv
      exact ⟨rfl, rfl, rfl, rfl, rfl, rfl, rfl, trivial⟩
    · have hv := hv2 c3
      refine w_iload (pc := 74) C dX0_tryPair_74 rfl ?_
      refine w_aload_n (pc := 76) C dX0_tryPair_76 rfl ?_
      refine w_getI (pc := 77) C fl_X0_9 rfl dX0_tryPair_77 f1 ?_
      refine w_icmp_ge (pc := 80) C (tgt := 133) dX0_tryPair_80 (by decide) ?_
      obtain ⟨hv1, hv2⟩ := hv
      refine ⟨fun c2 => ?_, fun c2 => ?_⟩
      · have hv := hv1 c2
        exact w_vret (pc := 133) C dX0_tryPair_133 hv
      · have hv := hv2 c2
        refine w_sub ?_ hv
        exact ⟨rfl, rfl, rfl, rfl, rfl, rfl, rfl, trivial⟩
set_option maxRecDepth 20000 in
set_option maxHeartbeats 2000000 in
theorem V_X0_tryPair_83 {X : Ctx} (C : C_X0_tryPair X) {k n : Nat} {Q : Pq} {h : Hp} {v0 : Nat} {v2 v3 v5 v6 v8 v9 : Int32}
    (hv : ¬ v5 = 0 ∧ ((¬ ((v8 - (v9 * v6)) % v5) = 0 → Wj X k n Q 60 [(0, .ref v0), (2, .int v2), (3, .int v3), (5, .int v5), (6, .int v6), (8, .int v8), (9, .int (v9 + Int32.ofInt 1))] [] h) ∧
    (((v8 - (v9 * v6)) % v5) = 0 → kd h v0 = 1 ∧ S_X0_offer (lX X) (dtX X) 0 0 [.ref v0, .int v9, .int ((v8 - (v9 * v6)) / v5), .int v6] h (QI fun x4 h3 =>
    ((x4 = 0 → Wj X k n Q 60 [(0, .ref v0), (2, .int v2), (3, .int v3), (5, .int v5), (6, .int v6), (8, .int v8), (9, .int (v9 + Int32.ofInt 1))] [] h3) ∧
    (¬ x4 = 0 → kd h3 v0 = 1 ∧ Wj X k n Q 60 [(0, .ref v0), (2, .int v2), (3, .int v3), (5, .int v5), (6, .int v6), (8, .int v8), (9, .int (v9 + Int32.ofInt 1))] [] (si (si h3 v0 1 v2) v0 2 v3))))))) :
    Wj X k n Q 83 [(0, .ref v0), (2, .int v2), (3, .int v3), (5, .int v5), (6, .int v6), (8, .int v8), (9, .int v9)] [] h := by
  refine w_iload (pc := 83) C dX0_tryPair_83 rfl ?_
  refine w_iload (pc := 85) C dX0_tryPair_85 rfl ?_
  refine w_iload (pc := 87) C dX0_tryPair_87 rfl ?_
  refine w_imul (pc := 89) C dX0_tryPair_89 ?_
  refine w_isub (pc := 90) C dX0_tryPair_90 ?_
  refine w_istore (pc := 91) C dX0_tryPair_91 (by decide) ?_
  refine w_iload (pc := 93) C dX0_tryPair_93 rfl ?_
  refine w_iload (pc := 95) C dX0_tryPair_95 rfl ?_
  obtain ⟨f1, hv⟩ := hv
  refine w_irem (pc := 97) C dX0_tryPair_97 f1 ?_
  refine w_if_ne (pc := 98) C (tgt := 127) dX0_tryPair_98 (by decide) ?_
  obtain ⟨hv1, hv2⟩ := hv
  refine ⟨fun c7 => ?_, fun c7 => ?_⟩
  · have hv := hv1 c7
    refine w_iinc (pc := 127) C dX0_tryPair_127 rfl (by decide) ?_
    refine w_goto (pc := 130) C (tgt := 60) dX0_tryPair_130 (by decide) ?_
    refine w_sub ?_ hv
    exact ⟨rfl, rfl, rfl, rfl, rfl, rfl, rfl, trivial⟩
  · have hv := hv2 c7
    refine w_aload_n (pc := 101) C dX0_tryPair_101 rfl ?_
    refine w_iload (pc := 102) C dX0_tryPair_102 rfl ?_
    refine w_iload (pc := 104) C dX0_tryPair_104 rfl ?_
    refine w_iload (pc := 106) C dX0_tryPair_106 rfl ?_
    refine w_idiv (pc := 108) C dX0_tryPair_108 f1 ?_
    refine w_iload (pc := 109) C dX0_tryPair_109 rfl ?_
    obtain ⟨f2, hv⟩ := hv
    refine w_cV0_3 (pc := 111) C cl_X0_49 lv_X0_offer (by decide) dX0_tryPair_111 (Nat.le_of_ble_eq_true rfl) (c := 0) rfl f2 (hv.mono (fun v h3 hp => ?_))
    obtain ⟨x4, rfl, hv⟩ := hp
    refine w_if_eq (pc := 114) C (tgt := 127) dX0_tryPair_114 (by decide) ?_
    obtain ⟨hv1, hv2⟩ := hv
    refine ⟨fun c6 => ?_, fun c6 => ?_⟩
    · have hv := hv1 c6
      refine w_iinc (pc := 127) C dX0_tryPair_127 rfl (by decide) ?_
      refine w_goto (pc := 130) C (tgt := 60) dX0_tryPair_130 (by decide) ?_
      refine w_sub ?_ hv
      exact ⟨rfl, rfl, rfl, rfl, rfl, rfl, rfl, trivial⟩
    · have hv := hv2 c6
      refine w_aload_n (pc := 117) C dX0_tryPair_117 rfl ?_
      refine w_iload_n (pc := 118) C dX0_tryPair_118 rfl ?_
      obtain ⟨f5, hv⟩ := hv
      refine w_putI (pc := 119) C fl_X0_15 rfl rfl dX0_tryPair_119 f5 ?_
      refine w_aload_n (pc := 122) C dX0_tryPair_122 rfl ?_
      refine w_iload_n (pc := 123) C dX0_tryPair_123 rfl ?_
      refine w_putI (pc := 124) C fl_X0_18 rfl rfl dX0_tryPair_124 f5 ?_
      refine w_iinc (pc := 127) C dX0_tryPair_127 rfl (by decide) ?_
      refine w_goto (pc := 130) C (tgt := 60) dX0_tryPair_130 (by decide) ?_
      refine w_sub ?_ hv
      exact ⟨rfl, rfl, rfl, rfl, rfl, rfl, rfl, trivial⟩
theorem dX0_look_0 : decode cX0_look 0 = .ok (.aload_n 0, 1) := by decide +kernel
theorem dX0_look_1 : decode cX0_look 1 = .ok (.iconst 0, 1) := by decide +kernel
theorem dX0_look_2 : decode cX0_look 2 = .ok (.putfield 9, 3) := by decide +kernel
theorem dX0_look_5 : decode cX0_look 5 = .ok (.iconst 0, 1) := by decide +kernel
theorem dX0_look_6 : decode cX0_look 6 = .ok (.istore_n 3, 1) := by decide +kernel
theorem dX0_look_7 : decode cX0_look 7 = .ok (.iload_n 3, 1) := by decide +kernel
theorem dX0_look_8 : decode cX0_look 8 = .ok (.aload_n 1, 1) := by decide +kernel
theorem dX0_look_9 : decode cX0_look 9 = .ok (.getfield 30, 3) := by decide +kernel
theorem dX0_look_12 : decode cX0_look 12 = .ok (.if_icmp .ge 56, 3) := by decide +kernel
theorem dX0_look_15 : decode cX0_look 15 = .ok (.aload_n 1, 1) := by decide +kernel
theorem dX0_look_16 : decode cX0_look 16 = .ok (.iload_n 3, 1) := by decide +kernel
theorem dX0_look_17 : decode cX0_look 17 = .ok (.invokevirtual 35, 3) := by decide +kernel
theorem dX0_look_20 : decode cX0_look 20 = .ok (.istore 4, 2) := by decide +kernel
theorem dX0_look_22 : decode cX0_look 22 = .ok (.iload_n 3, 1) := by decide +kernel
theorem dX0_look_23 : decode cX0_look 23 = .ok (.iconst 1, 1) := by decide +kernel
theorem dX0_look_24 : decode cX0_look 24 = .ok (.iadd, 1) := by decide +kernel
theorem dX0_look_25 : decode cX0_look 25 = .ok (.istore 5, 2) := by decide +kernel
theorem dX0_look_27 : decode cX0_look 27 = .ok (.iload 5, 2) := by decide +kernel
theorem dX0_look_29 : decode cX0_look 29 = .ok (.aload_n 1, 1) := by decide +kernel
theorem dX0_look_30 : decode cX0_look 30 = .ok (.getfield 30, 3) := by decide +kernel
theorem dX0_look_33 : decode cX0_look 33 = .ok (.if_icmp .ge 29, 3) := by decide +kernel
theorem dX0_look_36 : decode cX0_look 36 = .ok (.aload_n 1, 1) := by decide +kernel
theorem dX0_look_37 : decode cX0_look 37 = .ok (.iload 5, 2) := by decide +kernel
theorem dX0_look_39 : decode cX0_look 39 = .ok (.invokevirtual 35, 3) := by decide +kernel
theorem dX0_look_42 : decode cX0_look 42 = .ok (.iload 4, 2) := by decide +kernel
theorem dX0_look_44 : decode cX0_look 44 = .ok (.if_icmp .ne 18, 3) := by decide +kernel
theorem dX0_look_47 : decode cX0_look 47 = .ok (.aload_n 0, 1) := by decide +kernel
theorem dX0_look_48 : decode cX0_look 48 = .ok (.aload_n 1, 1) := by decide +kernel
theorem dX0_look_49 : decode cX0_look 49 = .ok (.iload_n 3, 1) := by decide +kernel
theorem dX0_look_50 : decode cX0_look 50 = .ok (.iload 5, 2) := by decide +kernel
theorem dX0_look_52 : decode cX0_look 52 = .ok (.iload_n 2, 1) := by decide +kernel
theorem dX0_look_53 : decode cX0_look 53 = .ok (.invokevirtual 39, 3) := by decide +kernel
theorem dX0_look_56 : decode cX0_look 56 = .ok (.iinc 5 1, 3) := by decide +kernel
theorem dX0_look_59 : decode cX0_look 59 = .ok (.goto (-32), 3) := by decide +kernel
theorem dX0_look_62 : decode cX0_look 62 = .ok (.iinc 3 1, 3) := by decide +kernel
theorem dX0_look_65 : decode cX0_look 65 = .ok (.goto (-58), 3) := by decide +kernel
theorem dX0_look_68 : decode cX0_look 68 = .ok (.return_, 1) := by decide +kernel
set_option maxRecDepth 20000 in
set_option maxHeartbeats 2000000 in
theorem V_X0_look_0 {X : Ctx} (C : C_X0_look X) {k n : Nat} {Q : Pq} {h : Hp} {v0 v1 : Nat} {v2 : Int32}
    (hv : kd h v0 = 1 ∧ Wj X k n Q 7 [(0, .ref v0), (1, .ref v1), (2, .int v2), (3, .int 0)] [] (si h v0 0 0)) :
    Wj X k n Q 0 [(0, .ref v0), (1, .ref v1), (2, .int v2)] [] h := by
  refine w_aload_n (pc := 0) C dX0_look_0 rfl ?_
  refine w_iconst (pc := 1) C (v := 0) dX0_look_1 (by decide) ?_
  obtain ⟨f1, hv⟩ := hv
  refine w_putI (pc := 2) C fl_X0_9 rfl rfl dX0_look_2 f1 ?_
  refine w_iconst (pc := 5) C (v := 0) dX0_look_5 (by decide) ?_
  refine w_istore_n (pc := 6) C dX0_look_6 (by decide) ?_
  refine w_sub ?_ hv
  exact ⟨rfl, rfl, rfl, rfl, trivial⟩
set_option maxRecDepth 20000 in
set_option maxHeartbeats 2000000 in
theorem V_X0_look_7 {X : Ctx} (C : C_X0_look X) {k n : Nat} {Q : Pq} {h : Hp} {v0 v1 : Nat} {v2 v3 : Int32}
    (hv : St4 h v1 ∧ (((gi h v1 3) ≤ v3 → Q none h) ∧
    (¬ (gi h v1 3) ≤ v3 → Wj X k n Q 27 [(0, .ref v0), (1, .ref v1), (2, .int v2), (3, .int v3), (4, .int (hPl h v1 v3)), (5, .int (v3 + 1))] [] h))) :
    Wj X k n Q 7 [(0, .ref v0), (1, .ref v1), (2, .int v2), (3, .int v3)] [] h := by
  refine w_iload_n (pc := 7) C dX0_look_7 rfl ?_
  refine w_aload_n (pc := 8) C dX0_look_8 rfl ?_
  obtain ⟨f1, hv⟩ := hv
  refine w_getI (pc := 9) C fl_X0_30 rfl dX0_look_9 (St4_k f1) ?_
  refine w_icmp_ge (pc := 12) C (tgt := 68) dX0_look_12 (by decide) ?_
  obtain ⟨hv1, hv2⟩ := hv
  refine ⟨fun c2 => ?_, fun c2 => ?_⟩
  · have hv := hv1 c2
    exact w_vret (pc := 68) C dX0_look_68 hv
  · have hv := hv2 c2
    refine w_aload_n (pc := 15) C dX0_look_15 rfl ?_
    refine w_iload_n (pc := 16) C dX0_look_16 rfl ?_
    refine w_cV0_1 (pc := 17) C cl_X0_35 lv_X4_plateOf (by decide) dX0_look_17 (Nat.le_of_ble_eq_true rfl) (c := 4) rfl (St4_k f1) ((sf_X4_plateOf (h := h) f1).mono (fun v h9 hp => ?_))
    obtain ⟨e1, e2⟩ := hp
    rw [e1, e2]
    refine w_istore (pc := 20) C dX0_look_20 (by decide) ?_
    refine w_iload_n (pc := 22) C dX0_look_22 rfl ?_
    refine w_iconst (pc := 23) C (v := 1) dX0_look_23 (by decide) ?_
    refine w_iadd (pc := 24) C dX0_look_24 ?_
    refine w_istore (pc := 25) C dX0_look_25 (by decide) ?_
    refine w_sub ?_ hv
    exact ⟨rfl, rfl, rfl, rfl, rfl, rfl, trivial⟩
set_option maxRecDepth 20000 in
set_option maxHeartbeats 2000000 in
theorem V_X0_look_27 {X : Ctx} (C : C_X0_look X) {k n : Nat} {Q : Pq} {h : Hp} {v0 v1 : Nat} {v2 v3 v4 v5 : Int32}
    (hv : St4 h v1 ∧ (((gi h v1 3) ≤ v5 → Wj X k n Q 7 [(0, .ref v0), (1, .ref v1), (2, .int v2), (3, .int (v3 + Int32.ofInt 1))] [] h) ∧
    (¬ (gi h v1 3) ≤ v5 → ((¬ (hPl h v1 v5) = v4 → Wj X k n Q 7 [(0, .ref v0), (1, .ref v1), (2, .int v2), (3, .int (v3 + Int32.ofInt 1))] [] h) ∧
    ((hPl h v1 v5) = v4 → kd h v0 = 1 ∧ S_X0_tryPair (lX X) (dtX X) 0 0 [.ref v0, .ref v1, .int v3, .int v5, .int v2] h (QV fun h3 =>
    Wj X k n Q 27 [(0, .ref v0), (1, .ref v1), (2, .int v2), (3, .int v3), (4, .int v4), (5, .int (v5 + Int32.ofInt 1))] [] h3)))))) :
    Wj X k n Q 27 [(0, .ref v0), (1, .ref v1), (2, .int v2), (3, .int v3), (4, .int v4), (5, .int v5)] [] h := by
  refine w_iload (pc := 27) C dX0_look_27 rfl ?_
  refine w_aload_n (pc := 29) C dX0_look_29 rfl ?_
  obtain ⟨f1, hv⟩ := hv
  refine w_getI (pc := 30) C fl_X0_30 rfl dX0_look_30 (St4_k f1) ?_
  refine w_icmp_ge (pc := 33) C (tgt := 62) dX0_look_33 (by decide) ?_
  obtain ⟨hv1, hv2⟩ := hv
  refine ⟨fun c5 => ?_, fun c5 => ?_⟩
  · have hv := hv1 c5
    refine w_iinc (pc := 62) C dX0_look_62 rfl (by decide) ?_
    refine w_goto (pc := 65) C (tgt := 7) dX0_look_65 (by decide) ?_
    refine w_sub ?_ hv
    exact ⟨rfl, rfl, rfl, rfl, trivial⟩
  · have hv := hv2 c5
    refine w_aload_n (pc := 36) C dX0_look_36 rfl ?_
    refine w_iload (pc := 37) C dX0_look_37 rfl ?_
    refine w_cV0_1 (pc := 39) C cl_X0_35 lv_X4_plateOf (by decide) dX0_look_39 (Nat.le_of_ble_eq_true rfl) (c := 4) rfl (St4_k f1) ((sf_X4_plateOf (h := h) f1).mono (fun v h9 hp => ?_))
    obtain ⟨e1, e2⟩ := hp
    rw [e1, e2]
    refine w_iload (pc := 42) C dX0_look_42 rfl ?_
    refine w_icmp_ne (pc := 44) C (tgt := 62) dX0_look_44 (by decide) ?_
    obtain ⟨hv1, hv2⟩ := hv
    refine ⟨fun c4 => ?_, fun c4 => ?_⟩
    · have hv := hv1 c4
      refine w_iinc (pc := 62) C dX0_look_62 rfl (by decide) ?_
      refine w_goto (pc := 65) C (tgt := 7) dX0_look_65 (by decide) ?_
      refine w_sub ?_ hv
      exact ⟨rfl, rfl, rfl, rfl, trivial⟩
    · have hv := hv2 c4
      refine w_aload_n (pc := 47) C dX0_look_47 rfl ?_
      refine w_aload_n (pc := 48) C dX0_look_48 rfl ?_
      refine w_iload_n (pc := 49) C dX0_look_49 rfl ?_
      refine w_iload (pc := 50) C dX0_look_50 rfl ?_
      refine w_iload_n (pc := 52) C dX0_look_52 rfl ?_
      obtain ⟨f2, hv⟩ := hv
      refine w_cV0_4 (pc := 53) C cl_X0_39 lv_X0_tryPair (by decide) dX0_look_53 (Nat.le_of_ble_eq_true rfl) (c := 0) rfl f2 (hv.mono (fun v h3 hp => ?_))
      obtain ⟨rfl, hv⟩ := hp
      refine w_iinc (pc := 56) C dX0_look_56 rfl (by decide) ?_
      refine w_goto (pc := 59) C (tgt := 27) dX0_look_59 (by decide) ?_
      refine w_sub ?_ hv
      exact ⟨rfl, rfl, rfl, rfl, rfl, rfl, trivial⟩
theorem dX9_compound_0 : decode cX9_compound 0 = .ok (.iload_n 1, 1) := by decide +kernel
theorem dX9_compound_1 : decode cX9_compound 1 = .ok (.invokestatic 177, 3) := by decide +kernel
theorem dX9_compound_4 : decode cX9_compound 4 = .ok (.ifCond .ne 5, 3) := by decide +kernel
theorem dX9_compound_7 : decode cX9_compound 7 = .ok (.iconst (-1), 1) := by decide +kernel
theorem dX9_compound_8 : decode cX9_compound 8 = .ok (.ireturn, 1) := by decide +kernel
theorem dX9_compound_9 : decode cX9_compound 9 = .ok (.aload_n 0, 1) := by decide +kernel
theorem dX9_compound_10 : decode cX9_compound 10 = .ok (.getfield 33, 3) := by decide +kernel
theorem dX9_compound_13 : decode cX9_compound 13 = .ok (.aload_n 0, 1) := by decide +kernel
theorem dX9_compound_14 : decode cX9_compound 14 = .ok (.getfield 78, 3) := by decide +kernel
theorem dX9_compound_17 : decode cX9_compound 17 = .ok (.iload_n 1, 1) := by decide +kernel
theorem dX9_compound_18 : decode cX9_compound 18 = .ok (.invokevirtual 196, 3) := by decide +kernel
theorem dX9_compound_21 : decode cX9_compound 21 = .ok (.aload_n 0, 1) := by decide +kernel
theorem dX9_compound_22 : decode cX9_compound 22 = .ok (.getfield 33, 3) := by decide +kernel
theorem dX9_compound_25 : decode cX9_compound 25 = .ok (.getfield 197, 3) := by decide +kernel
theorem dX9_compound_28 : decode cX9_compound 28 = .ok (.ifCond .ne 6, 3) := by decide +kernel
theorem dX9_compound_31 : decode cX9_compound 31 = .ok (.bipush (-2), 2) := by decide +kernel
theorem dX9_compound_33 : decode cX9_compound 33 = .ok (.ireturn, 1) := by decide +kernel
theorem dX9_compound_34 : decode cX9_compound 34 = .ok (.aload_n 0, 1) := by decide +kernel
theorem dX9_compound_35 : decode cX9_compound 35 = .ok (.getfield 19, 3) := by decide +kernel
theorem dX9_compound_38 : decode cX9_compound 38 = .ok (.invokevirtual 158, 3) := by decide +kernel
theorem dX9_compound_41 : decode cX9_compound 41 = .ok (.aload_n 0, 1) := by decide +kernel
theorem dX9_compound_42 : decode cX9_compound 42 = .ok (.getfield 19, 3) := by decide +kernel
theorem dX9_compound_45 : decode cX9_compound 45 = .ok (.aload_n 0, 1) := by decide +kernel
theorem dX9_compound_46 : decode cX9_compound 46 = .ok (.getfield 33, 3) := by decide +kernel
theorem dX9_compound_49 : decode cX9_compound 49 = .ok (.getfield 200, 3) := by decide +kernel
theorem dX9_compound_52 : decode cX9_compound 52 = .ok (.i2l, 1) := by decide +kernel
theorem dX9_compound_53 : decode cX9_compound 53 = .ok (.invokevirtual 164, 3) := by decide +kernel
theorem dX9_compound_56 : decode cX9_compound 56 = .ok (.aload_n 0, 1) := by decide +kernel
theorem dX9_compound_57 : decode cX9_compound 57 = .ok (.getfield 19, 3) := by decide +kernel
theorem dX9_compound_60 : decode cX9_compound 60 = .ok (.aload_n 0, 1) := by decide +kernel
theorem dX9_compound_61 : decode cX9_compound 61 = .ok (.getfield 33, 3) := by decide +kernel
theorem dX9_compound_64 : decode cX9_compound 64 = .ok (.getfield 201, 3) := by decide +kernel
theorem dX9_compound_67 : decode cX9_compound 67 = .ok (.i2l, 1) := by decide +kernel
theorem dX9_compound_68 : decode cX9_compound 68 = .ok (.invokevirtual 164, 3) := by decide +kernel
theorem dX9_compound_71 : decode cX9_compound 71 = .ok (.aload_n 0, 1) := by decide +kernel
theorem dX9_compound_72 : decode cX9_compound 72 = .ok (.getfield 19, 3) := by decide +kernel
theorem dX9_compound_75 : decode cX9_compound 75 = .ok (.aload_n 0, 1) := by decide +kernel
theorem dX9_compound_76 : decode cX9_compound 76 = .ok (.getfield 33, 3) := by decide +kernel
theorem dX9_compound_79 : decode cX9_compound 79 = .ok (.getfield 204, 3) := by decide +kernel
theorem dX9_compound_82 : decode cX9_compound 82 = .ok (.i2l, 1) := by decide +kernel
theorem dX9_compound_83 : decode cX9_compound 83 = .ok (.invokevirtual 164, 3) := by decide +kernel
theorem dX9_compound_86 : decode cX9_compound 86 = .ok (.aload_n 0, 1) := by decide +kernel
theorem dX9_compound_87 : decode cX9_compound 87 = .ok (.getfield 19, 3) := by decide +kernel
theorem dX9_compound_90 : decode cX9_compound 90 = .ok (.aload_n 0, 1) := by decide +kernel
theorem dX9_compound_91 : decode cX9_compound 91 = .ok (.getfield 33, 3) := by decide +kernel
theorem dX9_compound_94 : decode cX9_compound 94 = .ok (.getfield 205, 3) := by decide +kernel
theorem dX9_compound_97 : decode cX9_compound 97 = .ok (.i2l, 1) := by decide +kernel
theorem dX9_compound_98 : decode cX9_compound 98 = .ok (.invokevirtual 164, 3) := by decide +kernel
theorem dX9_compound_101 : decode cX9_compound 101 = .ok (.aload_n 0, 1) := by decide +kernel
theorem dX9_compound_102 : decode cX9_compound 102 = .ok (.getfield 19, 3) := by decide +kernel
theorem dX9_compound_105 : decode cX9_compound 105 = .ok (.aload_n 0, 1) := by decide +kernel
theorem dX9_compound_106 : decode cX9_compound 106 = .ok (.getfield 33, 3) := by decide +kernel
theorem dX9_compound_109 : decode cX9_compound 109 = .ok (.getfield 208, 3) := by decide +kernel
theorem dX9_compound_112 : decode cX9_compound 112 = .ok (.i2l, 1) := by decide +kernel
theorem dX9_compound_113 : decode cX9_compound 113 = .ok (.invokevirtual 164, 3) := by decide +kernel
theorem dX9_compound_116 : decode cX9_compound 116 = .ok (.aload_n 0, 1) := by decide +kernel
theorem dX9_compound_117 : decode cX9_compound 117 = .ok (.getfield 33, 3) := by decide +kernel
theorem dX9_compound_120 : decode cX9_compound 120 = .ok (.getfield 197, 3) := by decide +kernel
theorem dX9_compound_123 : decode cX9_compound 123 = .ok (.ireturn, 1) := by decide +kernel
set_option maxRecDepth 20000 in
set_option maxHeartbeats 2000000 in
theorem V_X9_compound_0 {X : Ctx} (C : C_X9_compound X) {k n : Nat} {Q : Pq} {h : Hp} {v0 : Nat} {v1 : Int32}
    (hv : ((¬ (bt v1 2 400) = 0 → St9 h v0 ∧ nn h v0 12 ∧ S_X0_look (lX X) (dtX X) 0 0 [.ref (v0 + 6), .ref (gp h v0 12), .int v1] h (QV fun h3 =>
    St9 h3 v0 ∧ ((¬ (gi h3 (v0 + 6) 0) = 0 → S_X8_add (lX X) (dtX X) 0 0 [.ref (v0 + 3), .long (Int32.toInt64 (gi (tcl h3 (v0 + 3)) (v0 + 6) 1))] (tcl h3 (v0 + 3)) (QV fun h5 =>
    St9 h5 v0 ∧ S_X8_add (lX X) (dtX X) 0 0 [.ref (v0 + 3), .long (Int32.toInt64 (gi h5 (v0 + 6) 2))] h5 (QV fun h7 =>
    St9 h7 v0 ∧ S_X8_add (lX X) (dtX X) 0 0 [.ref (v0 + 3), .long (Int32.toInt64 (gi h7 (v0 + 6) 3))] h7 (QV fun h9 =>
    St9 h9 v0 ∧ S_X8_add (lX X) (dtX X) 0 0 [.ref (v0 + 3), .long (Int32.toInt64 (gi h9 (v0 + 6) 4))] h9 (QV fun h11 =>
    St9 h11 v0 ∧ S_X8_add (lX X) (dtX X) 0 0 [.ref (v0 + 3), .long (Int32.toInt64 (gi h11 (v0 + 6) 5))] h11 (QV fun h13 =>
    St9 h13 v0 ∧ Q (some (.int (gi h13 (v0 + 6) 0))) h13)))))) ∧
    ((gi h3 (v0 + 6) 0) = 0 → Q (some (.int (-2))) h3)))) ∧
    ((bt v1 2 400) = 0 → Q (some (.int (-1))) h))) :
    Wj X k n Q 0 [(0, .ref v0), (1, .int v1)] [] h := by
  refine w_iload_n (pc := 0) C dX9_compound_0 rfl ?_
  refine w_cS0_1 (pc := 1) C cl_X9_177 ls_X9_isParts (by decide) dX9_compound_1 (Nat.le_of_ble_eq_true rfl) ((sf_X9_isParts (h := h) ).mono (fun v h9 hp => ?_))
  obtain ⟨e1, e2⟩ := hp
  rw [e1, e2]
  refine w_if_ne (pc := 4) C (tgt := 9) dX9_compound_4 (by decide) ?_
  obtain ⟨hv1, hv2⟩ := hv
  refine ⟨fun c16 => ?_, fun c16 => ?_⟩
  · have hv := hv1 c16
    refine w_aload_n (pc := 9) C dX9_compound_9 rfl ?_
    obtain ⟨f1, hv⟩ := hv
    refine w_getR (pc := 10) C fl_X9_33 rfl dX9_compound_10 (St9_k f1) (St9_r3 f1) ?_
    refine w_aload_n (pc := 13) C dX9_compound_13 rfl ?_
    obtain ⟨f2, hv⟩ := hv
    refine w_getR (pc := 14) C fl_X9_78 rfl dX9_compound_14 (St9_k f1) f2 ?_
    refine w_iload_n (pc := 17) C dX9_compound_17 rfl ?_
    refine w_cV0_2 (pc := 18) C cl_X9_196 lv_X0_look (by decide) dX9_compound_18 (Nat.le_of_ble_eq_true rfl) (c := 0) rfl (St9_k3 f1) (hv.mono (fun v h3 hp => ?_))
    obtain ⟨rfl, hv⟩ := hp
    refine w_aload_n (pc := 21) C dX9_compound_21 rfl ?_
    obtain ⟨f4, hv⟩ := hv
    refine w_getR (pc := 22) C fl_X9_33 rfl dX9_compound_22 (St9_k f4) (St9_r3 f4) ?_
    refine w_getI (pc := 25) C fl_X9_197 rfl dX9_compound_25 (St9_k3 f4) ?_
    refine w_if_ne (pc := 28) C (tgt := 34) dX9_compound_28 (by decide) ?_
    obtain ⟨hv1, hv2⟩ := hv
    refine ⟨fun c15 => ?_, fun c15 => ?_⟩
    · have hv := hv1 c15
      refine w_aload_n (pc := 34) C dX9_compound_34 rfl ?_
      refine w_getR (pc := 35) C fl_X9_19 rfl dX9_compound_35 (St9_k f4) (St9_r1 f4) ?_
      refine w_cV0_0 (pc := 38) C cl_X9_158 lv_X8_clear (by decide) dX9_compound_38 (Nat.le_of_ble_eq_true rfl) (c := 8) rfl (St8_k (St9_s1 f4)) ((sf_X8_clear (h := h3) (St9_s1 f4)).mono (fun v h9 hp => ?_))
      obtain ⟨e1, e2⟩ := hp
      rw [e1, e2]
      refine w_aload_n (pc := 41) C dX9_compound_41 rfl ?_
      refine w_getR (pc := 42) C fl_X9_19 rfl dX9_compound_42 (St9_k f4) (St9_r1 f4) ?_
      refine w_aload_n (pc := 45) C dX9_compound_45 rfl ?_
      refine w_getR (pc := 46) C fl_X9_33 rfl dX9_compound_46 (St9_k f4) (St9_r3 f4) ?_
      refine w_getI (pc := 49) C fl_X9_200 rfl dX9_compound_49 (St9_k3 f4) ?_
      refine w_i2l (pc := 52) C dX9_compound_52 ?_
      refine w_cV0_1 (pc := 53) C cl_X9_164 lv_X8_add (by decide) dX9_compound_53 (Nat.le_of_ble_eq_true rfl) (c := 8) rfl (St8_k (St9_s1 f4)) (hv.mono (fun v h5 hp => ?_))
      obtain ⟨rfl, hv⟩ := hp
      refine w_aload_n (pc := 56) C dX9_compound_56 rfl ?_
      obtain ⟨f6, hv⟩ := hv
      refine w_getR (pc := 57) C fl_X9_19 rfl dX9_compound_57 (St9_k f6) (St9_r1 f6) ?_
      refine w_aload_n (pc := 60) C dX9_compound_60 rfl ?_
      refine w_getR (pc := 61) C fl_X9_33 rfl dX9_compound_61 (St9_k f6) (St9_r3 f6) ?_
      refine w_getI (pc := 64) C fl_X9_201 rfl dX9_compound_64 (St9_k3 f6) ?_
      refine w_i2l (pc := 67) C dX9_compound_67 ?_
      refine w_cV0_1 (pc := 68) C cl_X9_164 lv_X8_add (by decide) dX9_compound_68 (Nat.le_of_ble_eq_true rfl) (c := 8) rfl (St8_k (St9_s1 f6)) (hv.mono (fun v h7 hp => ?_))
      obtain ⟨rfl, hv⟩ := hp
      refine w_aload_n (pc := 71) C dX9_compound_71 rfl ?_
      obtain ⟨f8, hv⟩ := hv
      refine w_getR (pc := 72) C fl_X9_19 rfl dX9_compound_72 (St9_k f8) (St9_r1 f8) ?_
      refine w_aload_n (pc := 75) C dX9_compound_75 rfl ?_
      refine w_getR (pc := 76) C fl_X9_33 rfl dX9_compound_76 (St9_k f8) (St9_r3 f8) ?_
      refine w_getI (pc := 79) C fl_X9_204 rfl dX9_compound_79 (St9_k3 f8) ?_
      refine w_i2l (pc := 82) C dX9_compound_82 ?_
      refine w_cV0_1 (pc := 83) C cl_X9_164 lv_X8_add (by decide) dX9_compound_83 (Nat.le_of_ble_eq_true rfl) (c := 8) rfl (St8_k (St9_s1 f8)) (hv.mono (fun v h9 hp => ?_))
      obtain ⟨rfl, hv⟩ := hp
      refine w_aload_n (pc := 86) C dX9_compound_86 rfl ?_
      obtain ⟨f10, hv⟩ := hv
      refine w_getR (pc := 87) C fl_X9_19 rfl dX9_compound_87 (St9_k f10) (St9_r1 f10) ?_
      refine w_aload_n (pc := 90) C dX9_compound_90 rfl ?_
      refine w_getR (pc := 91) C fl_X9_33 rfl dX9_compound_91 (St9_k f10) (St9_r3 f10) ?_
      refine w_getI (pc := 94) C fl_X9_205 rfl dX9_compound_94 (St9_k3 f10) ?_
      refine w_i2l (pc := 97) C dX9_compound_97 ?_
      refine w_cV0_1 (pc := 98) C cl_X9_164 lv_X8_add (by decide) dX9_compound_98 (Nat.le_of_ble_eq_true rfl) (c := 8) rfl (St8_k (St9_s1 f10)) (hv.mono (fun v h11 hp => ?_))
      obtain ⟨rfl, hv⟩ := hp
      refine w_aload_n (pc := 101) C dX9_compound_101 rfl ?_
      obtain ⟨f12, hv⟩ := hv
      refine w_getR (pc := 102) C fl_X9_19 rfl dX9_compound_102 (St9_k f12) (St9_r1 f12) ?_
      refine w_aload_n (pc := 105) C dX9_compound_105 rfl ?_
      refine w_getR (pc := 106) C fl_X9_33 rfl dX9_compound_106 (St9_k f12) (St9_r3 f12) ?_
      refine w_getI (pc := 109) C fl_X9_208 rfl dX9_compound_109 (St9_k3 f12) ?_
      refine w_i2l (pc := 112) C dX9_compound_112 ?_
      refine w_cV0_1 (pc := 113) C cl_X9_164 lv_X8_add (by decide) dX9_compound_113 (Nat.le_of_ble_eq_true rfl) (c := 8) rfl (St8_k (St9_s1 f12)) (hv.mono (fun v h13 hp => ?_))
      obtain ⟨rfl, hv⟩ := hp
      refine w_aload_n (pc := 116) C dX9_compound_116 rfl ?_
      obtain ⟨f14, hv⟩ := hv
      refine w_getR (pc := 117) C fl_X9_33 rfl dX9_compound_117 (St9_k f14) (St9_r3 f14) ?_
      refine w_getI (pc := 120) C fl_X9_197 rfl dX9_compound_120 (St9_k3 f14) ?_
      exact w_iret (pc := 123) C dX9_compound_123 hv
    · have hv := hv2 c15
      refine w_bipush (pc := 31) C (v := (-2)) dX9_compound_31 (by decide) ?_
      exact w_iret (pc := 33) C dX9_compound_33 hv
  · have hv := hv2 c16
    refine w_iconst (pc := 7) C (v := (-1)) dX9_compound_7 (by decide) ?_
    exact w_iret (pc := 8) C dX9_compound_8 hv
theorem dX10_looksAt_0 : decode cX10_looksAt 0 = .ok (.aload_n 0, 1) := by decide +kernel
theorem dX10_looksAt_1 : decode cX10_looksAt 1 = .ok (.iload_n 1, 1) := by decide +kernel
theorem dX10_looksAt_2 : decode cX10_looksAt 2 = .ok (.invokevirtual 159, 3) := by decide +kernel
theorem dX10_looksAt_5 : decode cX10_looksAt 5 = .ok (.istore 5, 2) := by decide +kernel
theorem dX10_looksAt_7 : decode cX10_looksAt 7 = .ok (.aload_n 0, 1) := by decide +kernel
theorem dX10_looksAt_8 : decode cX10_looksAt 8 = .ok (.iload_n 2, 1) := by decide +kernel
theorem dX10_looksAt_9 : decode cX10_looksAt 9 = .ok (.invokevirtual 159, 3) := by decide +kernel
theorem dX10_looksAt_12 : decode cX10_looksAt 12 = .ok (.istore 6, 2) := by decide +kernel
theorem dX10_looksAt_14 : decode cX10_looksAt 14 = .ok (.iload 4, 2) := by decide +kernel
theorem dX10_looksAt_16 : decode cX10_looksAt 16 = .ok (.istore 7, 2) := by decide +kernel
theorem dX10_looksAt_18 : decode cX10_looksAt 18 = .ok (.iconst 1, 1) := by decide +kernel
theorem dX10_looksAt_19 : decode cX10_looksAt 19 = .ok (.istore 8, 2) := by decide +kernel
theorem dX10_looksAt_21 : decode cX10_looksAt 21 = .ok (.iload 8, 2) := by decide +kernel
theorem dX10_looksAt_23 : decode cX10_looksAt 23 = .ok (.iload 5, 2) := by decide +kernel
theorem dX10_looksAt_25 : decode cX10_looksAt 25 = .ok (.if_icmp .ge 155, 3) := by decide +kernel
theorem dX10_looksAt_28 : decode cX10_looksAt 28 = .ok (.iconst 1, 1) := by decide +kernel
theorem dX10_looksAt_29 : decode cX10_looksAt 29 = .ok (.iload 6, 2) := by decide +kernel
theorem dX10_looksAt_31 : decode cX10_looksAt 31 = .ok (.isub, 1) := by decide +kernel
theorem dX10_looksAt_32 : decode cX10_looksAt 32 = .ok (.istore 9, 2) := by decide +kernel
theorem dX10_looksAt_34 : decode cX10_looksAt 34 = .ok (.iload 9, 2) := by decide +kernel
theorem dX10_looksAt_36 : decode cX10_looksAt 36 = .ok (.iload 6, 2) := by decide +kernel
theorem dX10_looksAt_38 : decode cX10_looksAt 38 = .ok (.if_icmp .ge 136, 3) := by decide +kernel
theorem dX10_looksAt_41 : decode cX10_looksAt 41 = .ok (.aload_n 0, 1) := by decide +kernel
theorem dX10_looksAt_42 : decode cX10_looksAt 42 = .ok (.invokevirtual 168, 3) := by decide +kernel
theorem dX10_looksAt_45 : decode cX10_looksAt 45 = .ok (.i2l, 1) := by decide +kernel
theorem dX10_looksAt_46 : decode cX10_looksAt 46 = .ok (.iload 5, 2) := by decide +kernel
theorem dX10_looksAt_48 : decode cX10_looksAt 48 = .ok (.i2l, 1) := by decide +kernel
theorem dX10_looksAt_49 : decode cX10_looksAt 49 = .ok (.lmul, 1) := by decide +kernel
theorem dX10_looksAt_50 : decode cX10_looksAt 50 = .ok (.iload 6, 2) := by decide +kernel
theorem dX10_looksAt_52 : decode cX10_looksAt 52 = .ok (.i2l, 1) := by decide +kernel
theorem dX10_looksAt_53 : decode cX10_looksAt 53 = .ok (.lmul, 1) := by decide +kernel
theorem dX10_looksAt_54 : decode cX10_looksAt 54 = .ok (.iload_n 3, 1) := by decide +kernel
theorem dX10_looksAt_55 : decode cX10_looksAt 55 = .ok (.i2l, 1) := by decide +kernel
theorem dX10_looksAt_56 : decode cX10_looksAt 56 = .ok (.iload 8, 2) := by decide +kernel
theorem dX10_looksAt_58 : decode cX10_looksAt 58 = .ok (.iload 6, 2) := by decide +kernel
theorem dX10_looksAt_60 : decode cX10_looksAt 60 = .ok (.imul, 1) := by decide +kernel
theorem dX10_looksAt_61 : decode cX10_looksAt 61 = .ok (.iload 9, 2) := by decide +kernel
theorem dX10_looksAt_63 : decode cX10_looksAt 63 = .ok (.iload 5, 2) := by decide +kernel
theorem dX10_looksAt_65 : decode cX10_looksAt 65 = .ok (.imul, 1) := by decide +kernel
theorem dX10_looksAt_66 : decode cX10_looksAt 66 = .ok (.iadd, 1) := by decide +kernel
theorem dX10_looksAt_67 : decode cX10_looksAt 67 = .ok (.i2l, 1) := by decide +kernel
theorem dX10_looksAt_68 : decode cX10_looksAt 68 = .ok (.lmul, 1) := by decide +kernel
theorem dX10_looksAt_69 : decode cX10_looksAt 69 = .ok (.lsub, 1) := by decide +kernel
theorem dX10_looksAt_70 : decode cX10_looksAt 70 = .ok (.lstore 10, 2) := by decide +kernel
theorem dX10_looksAt_72 : decode cX10_looksAt 72 = .ok (.iload 9, 2) := by decide +kernel
theorem dX10_looksAt_74 : decode cX10_looksAt 74 = .ok (.ifCond .eq 94, 3) := by decide +kernel
theorem dX10_looksAt_77 : decode cX10_looksAt 77 = .ok (.iload 8, 2) := by decide +kernel
theorem dX10_looksAt_79 : decode cX10_looksAt 79 = .ok (.iload 9, 2) := by decide +kernel
theorem dX10_looksAt_81 : decode cX10_looksAt 81 = .ok (.invokestatic 189, 3) := by decide +kernel
theorem dX10_looksAt_84 : decode cX10_looksAt 84 = .ok (.iadd, 1) := by decide +kernel
theorem dX10_looksAt_85 : decode cX10_looksAt 85 = .ok (.iload 7, 2) := by decide +kernel
theorem dX10_looksAt_87 : decode cX10_looksAt 87 = .ok (.if_icmp .ge 81, 3) := by decide +kernel
theorem dX10_looksAt_90 : decode cX10_looksAt 90 = .ok (.lload 10, 2) := by decide +kernel
theorem dX10_looksAt_92 : decode cX10_looksAt 92 = .ok (.lconst 0, 1) := by decide +kernel
theorem dX10_looksAt_93 : decode cX10_looksAt 93 = .ok (.lcmp, 1) := by decide +kernel
theorem dX10_looksAt_94 : decode cX10_looksAt 94 = .ok (.ifCond .lt 74, 3) := by decide +kernel
theorem dX10_looksAt_97 : decode cX10_looksAt 97 = .ok (.lload 10, 2) := by decide +kernel
theorem dX10_looksAt_99 : decode cX10_looksAt 99 = .ok (.iload_n 3, 1) := by decide +kernel
theorem dX10_looksAt_100 : decode cX10_looksAt 100 = .ok (.i2l, 1) := by decide +kernel
theorem dX10_looksAt_101 : decode cX10_looksAt 101 = .ok (.iload 5, 2) := by decide +kernel
theorem dX10_looksAt_103 : decode cX10_looksAt 103 = .ok (.i2l, 1) := by decide +kernel
theorem dX10_looksAt_104 : decode cX10_looksAt 104 = .ok (.lmul, 1) := by decide +kernel
theorem dX10_looksAt_105 : decode cX10_looksAt 105 = .ok (.iload 6, 2) := by decide +kernel
theorem dX10_looksAt_107 : decode cX10_looksAt 107 = .ok (.i2l, 1) := by decide +kernel
theorem dX10_looksAt_108 : decode cX10_looksAt 108 = .ok (.lmul, 1) := by decide +kernel
theorem dX10_looksAt_109 : decode cX10_looksAt 109 = .ok (.lrem, 1) := by decide +kernel
theorem dX10_looksAt_110 : decode cX10_looksAt 110 = .ok (.lconst 0, 1) := by decide +kernel
theorem dX10_looksAt_111 : decode cX10_looksAt 111 = .ok (.lcmp, 1) := by decide +kernel
theorem dX10_looksAt_112 : decode cX10_looksAt 112 = .ok (.ifCond .eq 6, 3) := by decide +kernel
theorem dX10_looksAt_115 : decode cX10_looksAt 115 = .ok (.goto 53, 3) := by decide +kernel
theorem dX10_looksAt_118 : decode cX10_looksAt 118 = .ok (.iload 8, 2) := by decide +kernel
theorem dX10_looksAt_120 : decode cX10_looksAt 120 = .ok (.iload 9, 2) := by decide +kernel
theorem dX10_looksAt_122 : decode cX10_looksAt 122 = .ok (.invokestatic 189, 3) := by decide +kernel
theorem dX10_looksAt_125 : decode cX10_looksAt 125 = .ok (.iadd, 1) := by decide +kernel
theorem dX10_looksAt_126 : decode cX10_looksAt 126 = .ok (.istore 7, 2) := by decide +kernel
theorem dX10_looksAt_128 : decode cX10_looksAt 128 = .ok (.aload_n 0, 1) := by decide +kernel
theorem dX10_looksAt_129 : decode cX10_looksAt 129 = .ok (.iload_n 1, 1) := by decide +kernel
theorem dX10_looksAt_130 : decode cX10_looksAt 130 = .ok (.putfield 192, 3) := by decide +kernel
theorem dX10_looksAt_133 : decode cX10_looksAt 133 = .ok (.aload_n 0, 1) := by decide +kernel
theorem dX10_looksAt_134 : decode cX10_looksAt 134 = .ok (.iload_n 2, 1) := by decide +kernel
theorem dX10_looksAt_135 : decode cX10_looksAt 135 = .ok (.putfield 195, 3) := by decide +kernel
theorem dX10_looksAt_138 : decode cX10_looksAt 138 = .ok (.aload_n 0, 1) := by decide +kernel
theorem dX10_looksAt_139 : decode cX10_looksAt 139 = .ok (.lload 10, 2) := by decide +kernel
theorem dX10_looksAt_141 : decode cX10_looksAt 141 = .ok (.iload_n 3, 1) := by decide +kernel
theorem dX10_looksAt_142 : decode cX10_looksAt 142 = .ok (.i2l, 1) := by decide +kernel
theorem dX10_looksAt_143 : decode cX10_looksAt 143 = .ok (.iload 5, 2) := by decide +kernel
theorem dX10_looksAt_145 : decode cX10_looksAt 145 = .ok (.i2l, 1) := by decide +kernel
theorem dX10_looksAt_146 : decode cX10_looksAt 146 = .ok (.lmul, 1) := by decide +kernel
theorem dX10_looksAt_147 : decode cX10_looksAt 147 = .ok (.iload 6, 2) := by decide +kernel
theorem dX10_looksAt_149 : decode cX10_looksAt 149 = .ok (.i2l, 1) := by decide +kernel
theorem dX10_looksAt_150 : decode cX10_looksAt 150 = .ok (.lmul, 1) := by decide +kernel
theorem dX10_looksAt_151 : decode cX10_looksAt 151 = .ok (.ldiv, 1) := by decide +kernel
theorem dX10_looksAt_152 : decode cX10_looksAt 152 = .ok (.l2i, 1) := by decide +kernel
theorem dX10_looksAt_153 : decode cX10_looksAt 153 = .ok (.putfield 198, 3) := by decide +kernel
theorem dX10_looksAt_156 : decode cX10_looksAt 156 = .ok (.aload_n 0, 1) := by decide +kernel
theorem dX10_looksAt_157 : decode cX10_looksAt 157 = .ok (.iload 8, 2) := by decide +kernel
theorem dX10_looksAt_159 : decode cX10_looksAt 159 = .ok (.putfield 201, 3) := by decide +kernel
theorem dX10_looksAt_162 : decode cX10_looksAt 162 = .ok (.aload_n 0, 1) := by decide +kernel
theorem dX10_looksAt_163 : decode cX10_looksAt 163 = .ok (.iload 9, 2) := by decide +kernel
theorem dX10_looksAt_165 : decode cX10_looksAt 165 = .ok (.putfield 204, 3) := by decide +kernel
theorem dX10_looksAt_168 : decode cX10_looksAt 168 = .ok (.iinc 9 1, 3) := by decide +kernel
theorem dX10_looksAt_171 : decode cX10_looksAt 171 = .ok (.goto (-137), 3) := by decide +kernel
theorem dX10_looksAt_174 : decode cX10_looksAt 174 = .ok (.iinc 8 1, 3) := by decide +kernel
theorem dX10_looksAt_177 : decode cX10_looksAt 177 = .ok (.goto (-156), 3) := by decide +kernel
theorem dX10_looksAt_180 : decode cX10_looksAt 180 = .ok (.iload 7, 2) := by decide +kernel
theorem dX10_looksAt_182 : decode cX10_looksAt 182 = .ok (.ireturn, 1) := by decide +kernel
set_option maxRecDepth 20000 in
set_option maxHeartbeats 2000000 in
theorem V_X10_looksAt_0 {X : Ctx} (C : C_X10_looksAt X) {k n : Nat} {Q : Pq} {h : Hp} {v0 : Nat} {v1 v2 v3 v4 : Int32}
    (hv : St10 h v0 ∧ inb (23 + v1) 732 ∧ inb (23 + v2) 732 ∧ Wj X k n Q 21 [(0, .ref v0), (1, .int v1), (2, .int v2), (3, .int v3), (5, .int (gi h (v0 + 3) (ix (23 + v1)))), (6, .int (gi h (v0 + 3) (ix (23 + v2)))), (7, .int v4), (8, .int 1)] [] h) :
    Wj X k n Q 0 [(0, .ref v0), (1, .int v1), (2, .int v2), (3, .int v3), (4, .int v4)] [] h := by
  refine w_aload_n (pc := 0) C dX10_looksAt_0 rfl ?_
  refine w_iload_n (pc := 1) C dX10_looksAt_1 rfl ?_
  obtain ⟨f1, hv⟩ := hv
  obtain ⟨f2, hv⟩ := hv
  refine w_cV0_1 (pc := 2) C cl_X10_159 lv_X10_holes (by decide) dX10_looksAt_2 (Nat.le_of_ble_eq_true rfl) (c := 10) rfl (St10_k f1) ((sf_X10_holes (h := h) f1 f2).mono (fun v h9 hp => ?_))
  obtain ⟨e1, e2⟩ := hp
  rw [e1, e2]
  refine w_istore (pc := 5) C dX10_looksAt_5 (by decide) ?_
  refine w_aload_n (pc := 7) C dX10_looksAt_7 rfl ?_
  refine w_iload_n (pc := 8) C dX10_looksAt_8 rfl ?_
  obtain ⟨f3, hv⟩ := hv
  refine w_cV0_1 (pc := 9) C cl_X10_159 lv_X10_holes (by decide) dX10_looksAt_9 (Nat.le_of_ble_eq_true rfl) (c := 10) rfl (St10_k f1) ((sf_X10_holes (h := h) f1 f3).mono (fun v h9 hp => ?_))
  obtain ⟨e1, e2⟩ := hp
  rw [e1, e2]
  refine w_istore (pc := 12) C dX10_looksAt_12 (by decide) ?_
  refine w_iload (pc := 14) C dX10_looksAt_14 rfl ?_
  refine w_istore (pc := 16) C dX10_looksAt_16 (by decide) ?_
  refine w_iconst (pc := 18) C (v := 1) dX10_looksAt_18 (by decide) ?_
  refine w_istore (pc := 19) C dX10_looksAt_19 (by decide) ?_
  refine w_sub ?_ hv
  exact ⟨rfl, rfl, rfl, rfl, rfl, rfl, rfl, rfl, trivial⟩
set_option maxRecDepth 20000 in
set_option maxHeartbeats 2000000 in
theorem V_X10_looksAt_21 {X : Ctx} (C : C_X10_looksAt X) {k n : Nat} {Q : Pq} {h : Hp} {v0 : Nat} {v1 v2 v3 v5 v6 v7 v8 : Int32}
    (hv : ((v5 ≤ v8 → Q (some (.int v7)) h) ∧
    (¬ v5 ≤ v8 → Wj X k n Q 34 [(0, .ref v0), (1, .int v1), (2, .int v2), (3, .int v3), (5, .int v5), (6, .int v6), (7, .int v7), (8, .int v8), (9, .int (1 - v6))] [] h))) :
    Wj X k n Q 21 [(0, .ref v0), (1, .int v1), (2, .int v2), (3, .int v3), (5, .int v5), (6, .int v6), (7, .int v7), (8, .int v8)] [] h := by
  refine w_iload (pc := 21) C dX10_looksAt_21 rfl ?_
  refine w_iload (pc := 23) C dX10_looksAt_23 rfl ?_
  refine w_icmp_ge (pc := 25) C (tgt := 180) dX10_looksAt_25 (by decide) ?_
  obtain ⟨hv1, hv2⟩ := hv
  refine ⟨fun c1 => ?_, fun c1 => ?_⟩
  · have hv := hv1 c1
    refine w_iload (pc := 180) C dX10_looksAt_180 rfl ?_
    exact w_iret (pc := 182) C dX10_looksAt_182 hv
  · have hv := hv2 c1
    refine w_iconst (pc := 28) C (v := 1) dX10_looksAt_28 (by decide) ?_
    refine w_iload (pc := 29) C dX10_looksAt_29 rfl ?_
    refine w_isub (pc := 31) C dX10_looksAt_31 ?_
    refine w_istore (pc := 32) C dX10_looksAt_32 (by decide) ?_
    refine w_sub ?_ hv
    exact ⟨rfl, rfl, rfl, rfl, rfl, rfl, rfl, rfl, rfl, trivial⟩
set_option maxRecDepth 20000 in
set_option maxHeartbeats 2000000 in
theorem V_X10_looksAt_34 {X : Ctx} (C : C_X10_looksAt X) {k n : Nat} {Q : Pq} {h : Hp} {v0 : Nat} {v1 v2 v3 v5 v6 v7 v8 v9 : Int32}
    (hv : ((v6 ≤ v9 → Wj X k n Q 21 [(0, .ref v0), (1, .int v1), (2, .int v2), (3, .int v3), (5, .int v5), (6, .int v6), (7, .int v7), (8, .int (v8 + Int32.ofInt 1))] [] h) ∧
    (¬ v6 ≤ v9 → St10 h v0 ∧ (∀ z2 : Int64, z2 = ((((Int32.toInt64 (gi h (v0 + 3) (ix 0))) * (Int32.toInt64 v5)) * (Int32.toInt64 v6)) - ((Int32.toInt64 v3) * (Int32.toInt64 ((v8 * v6) + (v9 * v5))))) →
    ((v9 = 0 → Wj X k n Q 34 [(0, .ref v0), (1, .int v1), (2, .int v2), (3, .int v3), (5, .int v5), (6, .int v6), (7, .int v7), (8, .int v8), (9, .int (v9 + Int32.ofInt 1))] [] h) ∧
    (¬ v9 = 0 → ((v7 ≤ (v8 + (abI v9)) → Wj X k n Q 34 [(0, .ref v0), (1, .int v1), (2, .int v2), (3, .int v3), (5, .int v5), (6, .int v6), (7, .int v7), (8, .int v8), (9, .int (v9 + Int32.ofInt 1))] [] h) ∧
    (¬ v7 ≤ (v8 + (abI v9)) → ((z2 < 0 → Wj X k n Q 34 [(0, .ref v0), (1, .int v1), (2, .int v2), (3, .int v3), (5, .int v5), (6, .int v6), (7, .int v7), (8, .int v8), (9, .int (v9 + Int32.ofInt 1))] [] h) ∧
    (¬ z2 < 0 → ¬ (((Int32.toInt64 v3) * (Int32.toInt64 v5)) * (Int32.toInt64 v6)) = 0 ∧ (((z2 % (((Int32.toInt64 v3) * (Int32.toInt64 v5)) * (Int32.toInt64 v6))) = 0 → Wj X k n Q 34 [(0, .ref v0), (1, .int v1), (2, .int v2), (3, .int v3), (5, .int v5), (6, .int v6), (7, .int (v8 + (abI v9))), (8, .int v8), (9, .int (v9 + Int32.ofInt 1))] [] (si (si (si (si (si h v0 12 v1) v0 13 v2) v0 14 (Int64.toInt32 (z2 / (((Int32.toInt64 v3) * (Int32.toInt64 v5)) * (Int32.toInt64 v6))))) v0 15 v8) v0 16 v9)) ∧
    (¬ (z2 % (((Int32.toInt64 v3) * (Int32.toInt64 v5)) * (Int32.toInt64 v6))) = 0 → Wj X k n Q 34 [(0, .ref v0), (1, .int v1), (2, .int v2), (3, .int v3), (5, .int v5), (6, .int v6), (7, .int v7), (8, .int v8), (9, .int (v9 + Int32.ofInt 1))] [] h)))))))))))) :
    Wj X k n Q 34 [(0, .ref v0), (1, .int v1), (2, .int v2), (3, .int v3), (5, .int v5), (6, .int v6), (7, .int v7), (8, .int v8), (9, .int v9)] [] h := by
  refine w_iload (pc := 34) C dX10_looksAt_34 rfl ?_
  refine w_iload (pc := 36) C dX10_looksAt_36 rfl ?_
  refine w_icmp_ge (pc := 38) C (tgt := 174) dX10_looksAt_38 (by decide) ?_
  obtain ⟨hv1, hv2⟩ := hv
  refine ⟨fun c8 => ?_, fun c8 => ?_⟩
  · have hv := hv1 c8
    refine w_iinc (pc := 174) C dX10_looksAt_174 rfl (by decide) ?_
    refine w_goto (pc := 177) C (tgt := 21) dX10_looksAt_177 (by decide) ?_
    refine w_sub ?_ hv
    exact ⟨rfl, rfl, rfl, rfl, rfl, rfl, rfl, rfl, trivial⟩
  · have hv := hv2 c8
    refine w_aload_n (pc := 41) C dX10_looksAt_41 rfl ?_
    obtain ⟨f1, hv⟩ := hv
    refine w_cV0_0 (pc := 42) C cl_X10_168 lv_X10_worm (by decide) dX10_looksAt_42 (Nat.le_of_ble_eq_true rfl) (c := 10) rfl (St10_k f1) ((sf_X10_worm (h := h) f1).mono (fun v h9 hp => ?_))
    obtain ⟨e1, e2⟩ := hp
    rw [e1, e2]
    refine w_i2l (pc := 45) C dX10_looksAt_45 ?_
    refine w_iload (pc := 46) C dX10_looksAt_46 rfl ?_
    refine w_i2l (pc := 48) C dX10_looksAt_48 ?_
    refine w_lmul (pc := 49) C dX10_looksAt_49 ?_
    refine w_iload (pc := 50) C dX10_looksAt_50 rfl ?_
    refine w_i2l (pc := 52) C dX10_looksAt_52 ?_
    refine w_lmul (pc := 53) C dX10_looksAt_53 ?_
    refine w_iload_n (pc := 54) C dX10_looksAt_54 rfl ?_
    refine w_i2l (pc := 55) C dX10_looksAt_55 ?_
    refine w_iload (pc := 56) C dX10_looksAt_56 rfl ?_
    refine w_iload (pc := 58) C dX10_looksAt_58 rfl ?_
    refine w_imul (pc := 60) C dX10_looksAt_60 ?_
    refine w_iload (pc := 61) C dX10_looksAt_61 rfl ?_
    refine w_iload (pc := 63) C dX10_looksAt_63 rfl ?_
    refine w_imul (pc := 65) C dX10_looksAt_65 ?_
    refine w_iadd (pc := 66) C dX10_looksAt_66 ?_
    refine w_i2l (pc := 67) C dX10_looksAt_67 ?_
    refine w_lmul (pc := 68) C dX10_looksAt_68 ?_
    refine w_lsub (pc := 69) C dX10_looksAt_69 ?_
    obtain ⟨z2, ez2⟩ : ∃ z : Int64, z = ((((Int32.toInt64 (gi h (v0 + 3) (ix 0))) * (Int32.toInt64 v5)) * (Int32.toInt64 v6)) - ((Int32.toInt64 v3) * (Int32.toInt64 ((v8 * v6) + (v9 * v5))))) := ⟨_, rfl⟩
    have hv := hv z2 ez2
    rw [← ez2]
    refine w_lstore (pc := 70) C dX10_looksAt_70 (by decide) ?_
    refine w_iload (pc := 72) C dX10_looksAt_72 rfl ?_
    refine w_if_eq (pc := 74) C (tgt := 168) dX10_looksAt_74 (by decide) ?_
    obtain ⟨hv1, hv2⟩ := hv
    refine ⟨fun c7 => ?_, fun c7 => ?_⟩
    · have hv := hv1 c7
      refine w_iinc (pc := 168) C dX10_looksAt_168 rfl (by decide) ?_
      refine w_goto (pc := 171) C (tgt := 34) dX10_looksAt_171 (by decide) ?_
      refine w_sub ?_ hv
      exact ⟨rfl, rfl, rfl, rfl, rfl, rfl, rfl, rfl, rfl, trivial⟩
    · have hv := hv2 c7
      refine w_iload (pc := 77) C dX10_looksAt_77 rfl ?_
      refine w_iload (pc := 79) C dX10_looksAt_79 rfl ?_
      refine w_cS0_1 (pc := 81) C cl_X10_189 ls_X10_size (by decide) dX10_looksAt_81 (Nat.le_of_ble_eq_true rfl) ((sf_X10_size (h := h) ).mono (fun v h9 hp => ?_))
      obtain ⟨e1, e2⟩ := hp
      rw [e1, e2]
      refine w_iadd (pc := 84) C dX10_looksAt_84 ?_
      refine w_iload (pc := 85) C dX10_looksAt_85 rfl ?_
      refine w_icmp_ge (pc := 87) C (tgt := 168) dX10_looksAt_87 (by decide) ?_
      obtain ⟨hv1, hv2⟩ := hv
      refine ⟨fun c6 => ?_, fun c6 => ?_⟩
      · have hv := hv1 c6
        refine w_iinc (pc := 168) C dX10_looksAt_168 rfl (by decide) ?_
        refine w_goto (pc := 171) C (tgt := 34) dX10_looksAt_171 (by decide) ?_
        refine w_sub ?_ hv
        exact ⟨rfl, rfl, rfl, rfl, rfl, rfl, rfl, rfl, rfl, trivial⟩
      · have hv := hv2 c6
        refine w_lload (pc := 90) C dX10_looksAt_90 rfl ?_
        refine w_lconst (pc := 92) C (v := 0) dX10_looksAt_92 (by decide) ?_
        refine w_lcmp_lt (pc := 93) C (tgt := 168) dX10_looksAt_93 dX10_looksAt_94 (by decide) ?_
        obtain ⟨hv1, hv2⟩ := hv
        refine ⟨fun c5 => ?_, fun c5 => ?_⟩
        · have hv := hv1 c5
          refine w_iinc (pc := 168) C dX10_looksAt_168 rfl (by decide) ?_
          refine w_goto (pc := 171) C (tgt := 34) dX10_looksAt_171 (by decide) ?_
          refine w_sub ?_ hv
          exact ⟨rfl, rfl, rfl, rfl, rfl, rfl, rfl, rfl, rfl, trivial⟩
        · have hv := hv2 c5
          refine w_lload (pc := 97) C dX10_looksAt_97 rfl ?_
          refine w_iload_n (pc := 99) C dX10_looksAt_99 rfl ?_
          refine w_i2l (pc := 100) C dX10_looksAt_100 ?_
          refine w_iload (pc := 101) C dX10_looksAt_101 rfl ?_
          refine w_i2l (pc := 103) C dX10_looksAt_103 ?_
          refine w_lmul (pc := 104) C dX10_looksAt_104 ?_
          refine w_iload (pc := 105) C dX10_looksAt_105 rfl ?_
          refine w_i2l (pc := 107) C dX10_looksAt_107 ?_
          refine w_lmul (pc := 108) C dX10_looksAt_108 ?_
          obtain ⟨f3, hv⟩ := hv
          refine w_lrem (pc := 109) C dX10_looksAt_109 f3 ?_
          refine w_lconst (pc := 110) C (v := 0) dX10_looksAt_110 (by decide) ?_
          refine w_lcmp_eq (pc := 111) C (tgt := 118) dX10_looksAt_111 dX10_looksAt_112 (by decide) ?_
          obtain ⟨hv1, hv2⟩ := hv
          refine ⟨fun c4 => ?_, fun c4 => ?_⟩
          · have hv := hv1 c4
            refine w_iload (pc := 118) C dX10_looksAt_118 rfl ?_
            refine w_iload (pc := 120) C dX10_looksAt_120 rfl ?_
            refine w_cS0_1 (pc := 122) C cl_X10_189 ls_X10_size (by decide) dX10_looksAt_122 (Nat.le_of_ble_eq_true rfl) ((sf_X10_size (h := h) ).mono (fun v h9 hp => ?_))
            obtain ⟨e1, e2⟩ := hp
            rw [e1, e2]
            refine w_iadd (pc := 125) C dX10_looksAt_125 ?_
            refine w_istore (pc := 126) C dX10_looksAt_126 (by decide) ?_
            refine w_aload_n (pc := 128) C dX10_looksAt_128 rfl ?_
            refine w_iload_n (pc := 129) C dX10_looksAt_129 rfl ?_
            refine w_putI (pc := 130) C fl_X10_192 rfl rfl dX10_looksAt_130 (St10_k f1) ?_
            refine w_aload_n (pc := 133) C dX10_looksAt_133 rfl ?_
            refine w_iload_n (pc := 134) C dX10_looksAt_134 rfl ?_
            refine w_putI (pc := 135) C fl_X10_195 rfl rfl dX10_looksAt_135 (St10_k f1) ?_
            refine w_aload_n (pc := 138) C dX10_looksAt_138 rfl ?_
            refine w_lload (pc := 139) C dX10_looksAt_139 rfl ?_
            refine w_iload_n (pc := 141) C dX10_looksAt_141 rfl ?_
            refine w_i2l (pc := 142) C dX10_looksAt_142 ?_
            refine w_iload (pc := 143) C dX10_looksAt_143 rfl ?_
            refine w_i2l (pc := 145) C dX10_looksAt_145 ?_
            refine w_lmul (pc := 146) C dX10_looksAt_146 ?_
            refine w_iload (pc := 147) C dX10_looksAt_147 rfl ?_
            refine w_i2l (pc := 149) C dX10_looksAt_149 ?_
            refine w_lmul (pc := 150) C dX10_looksAt_150 ?_
            refine w_ldiv (pc := 151) C dX10_looksAt_151 f3 ?_
            refine w_l2i (pc := 152) C dX10_looksAt_152 ?_
            refine w_putI (pc := 153) C fl_X10_198 rfl rfl dX10_looksAt_153 (St10_k f1) ?_
            refine w_aload_n (pc := 156) C dX10_looksAt_156 rfl ?_
            refine w_iload (pc := 157) C dX10_looksAt_157 rfl ?_
            refine w_putI (pc := 159) C fl_X10_201 rfl rfl dX10_looksAt_159 (St10_k f1) ?_
            refine w_aload_n (pc := 162) C dX10_looksAt_162 rfl ?_
            refine w_iload (pc := 163) C dX10_looksAt_163 rfl ?_
            refine w_putI (pc := 165) C fl_X10_204 rfl rfl dX10_looksAt_165 (St10_k f1) ?_
            refine w_iinc (pc := 168) C dX10_looksAt_168 rfl (by decide) ?_
            refine w_goto (pc := 171) C (tgt := 34) dX10_looksAt_171 (by decide) ?_
            refine w_sub ?_ hv
            exact ⟨rfl, rfl, rfl, rfl, rfl, rfl, rfl, rfl, rfl, trivial⟩
          · have hv := hv2 c4
            refine w_goto (pc := 115) C (tgt := 168) dX10_looksAt_115 (by decide) ?_
            refine w_iinc (pc := 168) C dX10_looksAt_168 rfl (by decide) ?_
            refine w_goto (pc := 171) C (tgt := 34) dX10_looksAt_171 (by decide) ?_
            refine w_sub ?_ hv
            exact ⟨rfl, rfl, rfl, rfl, rfl, rfl, rfl, rfl, rfl, trivial⟩
theorem dX10_findsCompound_0 : decode cX10_findsCompound 0 = .ok (.sipush 1000, 3) := by decide +kernel
theorem dX10_findsCompound_3 : decode cX10_findsCompound 3 = .ok (.istore_n 2, 1) := by decide +kernel
theorem dX10_findsCompound_4 : decode cX10_findsCompound 4 = .ok (.iload_n 2, 1) := by decide +kernel
theorem dX10_findsCompound_5 : decode cX10_findsCompound 5 = .ok (.istore_n 3, 1) := by decide +kernel
theorem dX10_findsCompound_6 : decode cX10_findsCompound 6 = .ok (.iconst 0, 1) := by decide +kernel
theorem dX10_findsCompound_7 : decode cX10_findsCompound 7 = .ok (.istore 4, 2) := by decide +kernel
theorem dX10_findsCompound_9 : decode cX10_findsCompound 9 = .ok (.iload 4, 2) := by decide +kernel
theorem dX10_findsCompound_11 : decode cX10_findsCompound 11 = .ok (.aload_n 0, 1) := by decide +kernel
theorem dX10_findsCompound_12 : decode cX10_findsCompound 12 = .ok (.invokevirtual 156, 3) := by decide +kernel
theorem dX10_findsCompound_15 : decode cX10_findsCompound 15 = .ok (.if_icmp .ge 62, 3) := by decide +kernel
theorem dX10_findsCompound_18 : decode cX10_findsCompound 18 = .ok (.iload 4, 2) := by decide +kernel
theorem dX10_findsCompound_20 : decode cX10_findsCompound 20 = .ok (.iconst 1, 1) := by decide +kernel
theorem dX10_findsCompound_21 : decode cX10_findsCompound 21 = .ok (.iadd, 1) := by decide +kernel
theorem dX10_findsCompound_22 : decode cX10_findsCompound 22 = .ok (.istore 5, 2) := by decide +kernel
theorem dX10_findsCompound_24 : decode cX10_findsCompound 24 = .ok (.iload 5, 2) := by decide +kernel
theorem dX10_findsCompound_26 : decode cX10_findsCompound 26 = .ok (.aload_n 0, 1) := by decide +kernel
theorem dX10_findsCompound_27 : decode cX10_findsCompound 27 = .ok (.invokevirtual 156, 3) := by decide +kernel
theorem dX10_findsCompound_30 : decode cX10_findsCompound 30 = .ok (.if_icmp .ge 41, 3) := by decide +kernel
theorem dX10_findsCompound_33 : decode cX10_findsCompound 33 = .ok (.aload_n 0, 1) := by decide +kernel
theorem dX10_findsCompound_34 : decode cX10_findsCompound 34 = .ok (.getfield 68, 3) := by decide +kernel
theorem dX10_findsCompound_37 : decode cX10_findsCompound 37 = .ok (.iconst 5, 1) := by decide +kernel
theorem dX10_findsCompound_38 : decode cX10_findsCompound 38 = .ok (.iload 4, 2) := by decide +kernel
theorem dX10_findsCompound_40 : decode cX10_findsCompound 40 = .ok (.iadd, 1) := by decide +kernel
theorem dX10_findsCompound_41 : decode cX10_findsCompound 41 = .ok (.iaload, 1) := by decide +kernel
theorem dX10_findsCompound_42 : decode cX10_findsCompound 42 = .ok (.aload_n 0, 1) := by decide +kernel
theorem dX10_findsCompound_43 : decode cX10_findsCompound 43 = .ok (.getfield 68, 3) := by decide +kernel
theorem dX10_findsCompound_46 : decode cX10_findsCompound 46 = .ok (.iconst 5, 1) := by decide +kernel
theorem dX10_findsCompound_47 : decode cX10_findsCompound 47 = .ok (.iload 5, 2) := by decide +kernel
theorem dX10_findsCompound_49 : decode cX10_findsCompound 49 = .ok (.iadd, 1) := by decide +kernel
theorem dX10_findsCompound_50 : decode cX10_findsCompound 50 = .ok (.iaload, 1) := by decide +kernel
theorem dX10_findsCompound_51 : decode cX10_findsCompound 51 = .ok (.if_icmp .ne 14, 3) := by decide +kernel
theorem dX10_findsCompound_54 : decode cX10_findsCompound 54 = .ok (.aload_n 0, 1) := by decide +kernel
theorem dX10_findsCompound_55 : decode cX10_findsCompound 55 = .ok (.iload 4, 2) := by decide +kernel
theorem dX10_findsCompound_57 : decode cX10_findsCompound 57 = .ok (.iload 5, 2) := by decide +kernel
theorem dX10_findsCompound_59 : decode cX10_findsCompound 59 = .ok (.iload_n 1, 1) := by decide +kernel
theorem dX10_findsCompound_60 : decode cX10_findsCompound 60 = .ok (.iload_n 3, 1) := by decide +kernel
theorem dX10_findsCompound_61 : decode cX10_findsCompound 61 = .ok (.invokevirtual 207, 3) := by decide +kernel
theorem dX10_findsCompound_64 : decode cX10_findsCompound 64 = .ok (.istore_n 3, 1) := by decide +kernel
theorem dX10_findsCompound_65 : decode cX10_findsCompound 65 = .ok (.iinc 5 1, 3) := by decide +kernel
theorem dX10_findsCompound_68 : decode cX10_findsCompound 68 = .ok (.goto (-44), 3) := by decide +kernel
theorem dX10_findsCompound_71 : decode cX10_findsCompound 71 = .ok (.iinc 4 1, 3) := by decide +kernel
theorem dX10_findsCompound_74 : decode cX10_findsCompound 74 = .ok (.goto (-65), 3) := by decide +kernel
theorem dX10_findsCompound_77 : decode cX10_findsCompound 77 = .ok (.iload_n 3, 1) := by decide +kernel
theorem dX10_findsCompound_78 : decode cX10_findsCompound 78 = .ok (.iload_n 2, 1) := by decide +kernel
theorem dX10_findsCompound_79 : decode cX10_findsCompound 79 = .ok (.if_icmp .ne 7, 3) := by decide +kernel
theorem dX10_findsCompound_82 : decode cX10_findsCompound 82 = .ok (.iconst (-1), 1) := by decide +kernel
theorem dX10_findsCompound_83 : decode cX10_findsCompound 83 = .ok (.goto 4, 3) := by decide +kernel
theorem dX10_findsCompound_86 : decode cX10_findsCompound 86 = .ok (.iload_n 3, 1) := by decide +kernel
theorem dX10_findsCompound_87 : decode cX10_findsCompound 87 = .ok (.ireturn, 1) := by decide +kernel
set_option maxRecDepth 20000 in
set_option maxHeartbeats 2000000 in
theorem V_X10_findsCompound_0 {X : Ctx} (C : C_X10_findsCompound X) {k n : Nat} {Q : Pq} {h : Hp} {v0 : Nat} {v1 : Int32}
    (hv : Wj X k n Q 9 [(0, .ref v0), (1, .int v1), (2, .int 1000), (3, .int 1000), (4, .int 0)] [] h) :
    Wj X k n Q 0 [(0, .ref v0), (1, .int v1)] [] h := by
  refine w_sipush (pc := 0) C (v := 1000) dX10_findsCompound_0 (by decide) ?_
  refine w_istore_n (pc := 3) C dX10_findsCompound_3 (by decide) ?_
  refine w_iload_n (pc := 4) C dX10_findsCompound_4 rfl ?_
  refine w_istore_n (pc := 5) C dX10_findsCompound_5 (by decide) ?_
  refine w_iconst (pc := 6) C (v := 0) dX10_findsCompound_6 (by decide) ?_
  refine w_istore (pc := 7) C dX10_findsCompound_7 (by decide) ?_
  refine w_sub ?_ hv
  exact ⟨rfl, rfl, rfl, rfl, rfl, trivial⟩
set_option maxRecDepth 20000 in
set_option maxHeartbeats 2000000 in
theorem V_X10_findsCompound_9 {X : Ctx} (C : C_X10_findsCompound X) {k n : Nat} {Q : Pq} {h : Hp} {v0 : Nat} {v1 v2 v3 v4 : Int32}
    (hv : St10 h v0 ∧ (((gi h (v0 + 3) (ix 3)) ≤ v4 → ((¬ v3 = v2 → Q (some (.int v3)) h) ∧
    (v3 = v2 → Q (some (.int (-1))) h))) ∧
    (¬ (gi h (v0 + 3) (ix 3)) ≤ v4 → Wj X k n Q 24 [(0, .ref v0), (1, .int v1), (2, .int v2), (3, .int v3), (4, .int v4), (5, .int (v4 + 1))] [] h))) :
    Wj X k n Q 9 [(0, .ref v0), (1, .int v1), (2, .int v2), (3, .int v3), (4, .int v4)] [] h := by
  refine w_iload (pc := 9) C dX10_findsCompound_9 rfl ?_
  refine w_aload_n (pc := 11) C dX10_findsCompound_11 rfl ?_
  obtain ⟨f1, hv⟩ := hv
  refine w_cV0_0 (pc := 12) C cl_X10_156 lv_X10_circles (by decide) dX10_findsCompound_12 (Nat.le_of_ble_eq_true rfl) (c := 10) rfl (St10_k f1) ((sf_X10_circles (h := h) f1).mono (fun v h9 hp => ?_))
  obtain ⟨e1, e2⟩ := hp
  rw [e1, e2]
  refine w_icmp_ge (pc := 15) C (tgt := 77) dX10_findsCompound_15 (by decide) ?_
  obtain ⟨hv1, hv2⟩ := hv
  refine ⟨fun c3 => ?_, fun c3 => ?_⟩
  · have hv := hv1 c3
    refine w_iload_n (pc := 77) C dX10_findsCompound_77 rfl ?_
    refine w_iload_n (pc := 78) C dX10_findsCompound_78 rfl ?_
    refine w_icmp_ne (pc := 79) C (tgt := 86) dX10_findsCompound_79 (by decide) ?_
    obtain ⟨hv1, hv2⟩ := hv
    refine ⟨fun c2 => ?_, fun c2 => ?_⟩
    · have hv := hv1 c2
      refine w_iload_n (pc := 86) C dX10_findsCompound_86 rfl ?_
      exact w_iret (pc := 87) C dX10_findsCompound_87 hv
    · have hv := hv2 c2
      refine w_iconst (pc := 82) C (v := (-1)) dX10_findsCompound_82 (by decide) ?_
      refine w_goto (pc := 83) C (tgt := 87) dX10_findsCompound_83 (by decide) ?_
      exact w_iret (pc := 87) C dX10_findsCompound_87 hv
  · have hv := hv2 c3
    refine w_iload (pc := 18) C dX10_findsCompound_18 rfl ?_
    refine w_iconst (pc := 20) C (v := 1) dX10_findsCompound_20 (by decide) ?_
    refine w_iadd (pc := 21) C dX10_findsCompound_21 ?_
    refine w_istore (pc := 22) C dX10_findsCompound_22 (by decide) ?_
    refine w_sub ?_ hv
    exact ⟨rfl, rfl, rfl, rfl, rfl, rfl, trivial⟩
set_option maxRecDepth 20000 in
set_option maxHeartbeats 2000000 in
theorem V_X10_findsCompound_24 {X : Ctx} (C : C_X10_findsCompound X) {k n : Nat} {Q : Pq} {h : Hp} {v0 : Nat} {v1 v2 v3 v4 v5 : Int32}
    (hv : St10 h v0 ∧ (((gi h (v0 + 3) (ix 3)) ≤ v5 → Wj X k n Q 9 [(0, .ref v0), (1, .int v1), (2, .int v2), (3, .int v3), (4, .int (v4 + Int32.ofInt 1))] [] h) ∧
    (¬ (gi h (v0 + 3) (ix 3)) ≤ v5 → inb (5 + v4) 732 ∧ inb (5 + v5) 732 ∧ ((¬ (gi h (v0 + 3) (ix (5 + v4))) = (gi h (v0 + 3) (ix (5 + v5))) → Wj X k n Q 24 [(0, .ref v0), (1, .int v1), (2, .int v2), (3, .int v3), (4, .int v4), (5, .int (v5 + Int32.ofInt 1))] [] h) ∧
    ((gi h (v0 + 3) (ix (5 + v4))) = (gi h (v0 + 3) (ix (5 + v5))) → S_X10_looksAt (lX X) (dtX X) 0 0 [.ref v0, .int v4, .int v5, .int v1, .int v3] h (QI fun x5 h4 =>
    Wj X k n Q 24 [(0, .ref v0), (1, .int v1), (2, .int v2), (3, .int x5), (4, .int v4), (5, .int (v5 + Int32.ofInt 1))] [] h4)))))) :
    Wj X k n Q 24 [(0, .ref v0), (1, .int v1), (2, .int v2), (3, .int v3), (4, .int v4), (5, .int v5)] [] h := by
  refine w_iload (pc := 24) C dX10_findsCompound_24 rfl ?_
  refine w_aload_n (pc := 26) C dX10_findsCompound_26 rfl ?_
  obtain ⟨f1, hv⟩ := hv
  refine w_cV0_0 (pc := 27) C cl_X10_156 lv_X10_circles (by decide) dX10_findsCompound_27 (Nat.le_of_ble_eq_true rfl) (c := 10) rfl (St10_k f1) ((sf_X10_circles (h := h) f1).mono (fun v h9 hp => ?_))
  obtain ⟨e1, e2⟩ := hp
  rw [e1, e2]
  refine w_icmp_ge (pc := 30) C (tgt := 71) dX10_findsCompound_30 (by decide) ?_
  obtain ⟨hv1, hv2⟩ := hv
  refine ⟨fun c7 => ?_, fun c7 => ?_⟩
  · have hv := hv1 c7
    refine w_iinc (pc := 71) C dX10_findsCompound_71 rfl (by decide) ?_
    refine w_goto (pc := 74) C (tgt := 9) dX10_findsCompound_74 (by decide) ?_
    refine w_sub ?_ hv
    exact ⟨rfl, rfl, rfl, rfl, rfl, trivial⟩
  · have hv := hv2 c7
    refine w_aload_n (pc := 33) C dX10_findsCompound_33 rfl ?_
    refine w_getR (pc := 34) C fl_X10_68 rfl dX10_findsCompound_34 (St10_k f1) (St10_r7 f1) ?_
    refine w_iconst (pc := 37) C (v := 5) dX10_findsCompound_37 (by decide) ?_
    refine w_iload (pc := 38) C dX10_findsCompound_38 rfl ?_
    refine w_iadd (pc := 40) C dX10_findsCompound_40 ?_
    obtain ⟨f2, hv⟩ := hv
    refine w_iald (pc := 41) C dX10_findsCompound_41 (St10_k7 f1) (inbl (St10_l7 f1) f2) ?_
    refine w_aload_n (pc := 42) C dX10_findsCompound_42 rfl ?_
    refine w_getR (pc := 43) C fl_X10_68 rfl dX10_findsCompound_43 (St10_k f1) (St10_r7 f1) ?_
    refine w_iconst (pc := 46) C (v := 5) dX10_findsCompound_46 (by decide) ?_
    refine w_iload (pc := 47) C dX10_findsCompound_47 rfl ?_
    refine w_iadd (pc := 49) C dX10_findsCompound_49 ?_
    obtain ⟨f3, hv⟩ := hv
    refine w_iald (pc := 50) C dX10_findsCompound_50 (St10_k7 f1) (inbl (St10_l7 f1) f3) ?_
    refine w_icmp_ne (pc := 51) C (tgt := 65) dX10_findsCompound_51 (by decide) ?_
    obtain ⟨hv1, hv2⟩ := hv
    refine ⟨fun c6 => ?_, fun c6 => ?_⟩
    · have hv := hv1 c6
      refine w_iinc (pc := 65) C dX10_findsCompound_65 rfl (by decide) ?_
      refine w_goto (pc := 68) C (tgt := 24) dX10_findsCompound_68 (by decide) ?_
      refine w_sub ?_ hv
      exact ⟨rfl, rfl, rfl, rfl, rfl, rfl, trivial⟩
    · have hv := hv2 c6
      refine w_aload_n (pc := 54) C dX10_findsCompound_54 rfl ?_
      refine w_iload (pc := 55) C dX10_findsCompound_55 rfl ?_
      refine w_iload (pc := 57) C dX10_findsCompound_57 rfl ?_
      refine w_iload_n (pc := 59) C dX10_findsCompound_59 rfl ?_
      refine w_iload_n (pc := 60) C dX10_findsCompound_60 rfl ?_
      refine w_cV0_4 (pc := 61) C cl_X10_207 lv_X10_looksAt (by decide) dX10_findsCompound_61 (Nat.le_of_ble_eq_true rfl) (c := 10) rfl (St10_k f1) (hv.mono (fun v h4 hp => ?_))
      obtain ⟨x5, rfl, hv⟩ := hp
      refine w_istore_n (pc := 64) C dX10_findsCompound_64 (by decide) ?_
      refine w_iinc (pc := 65) C dX10_findsCompound_65 rfl (by decide) ?_
      refine w_goto (pc := 68) C (tgt := 24) dX10_findsCompound_68 (by decide) ?_
      refine w_sub ?_ hv
      exact ⟨rfl, rfl, rfl, rfl, rfl, rfl, trivial⟩
theorem dX10_compound_0 : decode cX10_compound 0 = .ok (.aload_n 0, 1) := by decide +kernel
theorem dX10_compound_1 : decode cX10_compound 1 = .ok (.iconst 0, 1) := by decide +kernel
theorem dX10_compound_2 : decode cX10_compound 2 = .ok (.putfield 1, 3) := by decide +kernel
theorem dX10_compound_5 : decode cX10_compound 5 = .ok (.iload_n 1, 1) := by decide +kernel
theorem dX10_compound_6 : decode cX10_compound 6 = .ok (.invokestatic 179, 3) := by decide +kernel
theorem dX10_compound_9 : decode cX10_compound 9 = .ok (.ifCond .ne 5, 3) := by decide +kernel
theorem dX10_compound_12 : decode cX10_compound 12 = .ok (.iconst (-1), 1) := by decide +kernel
theorem dX10_compound_13 : decode cX10_compound 13 = .ok (.ireturn, 1) := by decide +kernel
theorem dX10_compound_14 : decode cX10_compound 14 = .ok (.aload_n 0, 1) := by decide +kernel
theorem dX10_compound_15 : decode cX10_compound 15 = .ok (.iload_n 1, 1) := by decide +kernel
theorem dX10_compound_16 : decode cX10_compound 16 = .ok (.invokevirtual 211, 3) := by decide +kernel
theorem dX10_compound_19 : decode cX10_compound 19 = .ok (.istore_n 2, 1) := by decide +kernel
theorem dX10_compound_20 : decode cX10_compound 20 = .ok (.iload_n 2, 1) := by decide +kernel
theorem dX10_compound_21 : decode cX10_compound 21 = .ok (.ifCond .ge 6, 3) := by decide +kernel
theorem dX10_compound_24 : decode cX10_compound 24 = .ok (.bipush (-2), 2) := by decide +kernel
theorem dX10_compound_26 : decode cX10_compound 26 = .ok (.ireturn, 1) := by decide +kernel
theorem dX10_compound_27 : decode cX10_compound 27 = .ok (.aload_n 0, 1) := by decide +kernel
theorem dX10_compound_28 : decode cX10_compound 28 = .ok (.iconst 0, 1) := by decide +kernel
theorem dX10_compound_29 : decode cX10_compound 29 = .ok (.putfield 11, 3) := by decide +kernel
theorem dX10_compound_32 : decode cX10_compound 32 = .ok (.aload_n 0, 1) := by decide +kernel
theorem dX10_compound_33 : decode cX10_compound 33 = .ok (.aload_n 0, 1) := by decide +kernel
theorem dX10_compound_34 : decode cX10_compound 34 = .ok (.getfield 192, 3) := by decide +kernel
theorem dX10_compound_37 : decode cX10_compound 37 = .ok (.i2l, 1) := by decide +kernel
theorem dX10_compound_38 : decode cX10_compound 38 = .ok (.invokevirtual 18, 3) := by decide +kernel
theorem dX10_compound_41 : decode cX10_compound 41 = .ok (.aload_n 0, 1) := by decide +kernel
theorem dX10_compound_42 : decode cX10_compound 42 = .ok (.aload_n 0, 1) := by decide +kernel
theorem dX10_compound_43 : decode cX10_compound 43 = .ok (.getfield 195, 3) := by decide +kernel
theorem dX10_compound_46 : decode cX10_compound 46 = .ok (.i2l, 1) := by decide +kernel
theorem dX10_compound_47 : decode cX10_compound 47 = .ok (.invokevirtual 18, 3) := by decide +kernel
theorem dX10_compound_50 : decode cX10_compound 50 = .ok (.aload_n 0, 1) := by decide +kernel
theorem dX10_compound_51 : decode cX10_compound 51 = .ok (.aload_n 0, 1) := by decide +kernel
theorem dX10_compound_52 : decode cX10_compound 52 = .ok (.getfield 198, 3) := by decide +kernel
theorem dX10_compound_55 : decode cX10_compound 55 = .ok (.i2l, 1) := by decide +kernel
theorem dX10_compound_56 : decode cX10_compound 56 = .ok (.invokevirtual 18, 3) := by decide +kernel
theorem dX10_compound_59 : decode cX10_compound 59 = .ok (.aload_n 0, 1) := by decide +kernel
theorem dX10_compound_60 : decode cX10_compound 60 = .ok (.aload_n 0, 1) := by decide +kernel
theorem dX10_compound_61 : decode cX10_compound 61 = .ok (.getfield 201, 3) := by decide +kernel
theorem dX10_compound_64 : decode cX10_compound 64 = .ok (.i2l, 1) := by decide +kernel
theorem dX10_compound_65 : decode cX10_compound 65 = .ok (.invokevirtual 18, 3) := by decide +kernel
theorem dX10_compound_68 : decode cX10_compound 68 = .ok (.aload_n 0, 1) := by decide +kernel
theorem dX10_compound_69 : decode cX10_compound 69 = .ok (.aload_n 0, 1) := by decide +kernel
theorem dX10_compound_70 : decode cX10_compound 70 = .ok (.getfield 204, 3) := by decide +kernel
theorem dX10_compound_73 : decode cX10_compound 73 = .ok (.i2l, 1) := by decide +kernel
theorem dX10_compound_74 : decode cX10_compound 74 = .ok (.invokevirtual 18, 3) := by decide +kernel
theorem dX10_compound_77 : decode cX10_compound 77 = .ok (.iload_n 2, 1) := by decide +kernel
theorem dX10_compound_78 : decode cX10_compound 78 = .ok (.ireturn, 1) := by decide +kernel
set_option maxRecDepth 20000 in
set_option maxHeartbeats 2000000 in
theorem V_X10_compound_0 {X : Ctx} (C : C_X10_compound X) {k n : Nat} {Q : Pq} {h : Hp} {v0 : Nat} {v1 : Int32}
    (hv : St10 h v0 ∧ ((¬ (btL (Int32.toInt64 v1) 2 400) = 0 → S_X10_findsCompound (lX X) (dtX X) 0 0 [.ref v0, .int v1] (si h v0 0 0) (QI fun x3 h2 =>
    ((0 ≤ x3 → St10 h2 v0 ∧ S_X10_enters (lX X) (dtX X) 0 0 [.ref v0, .long (Int32.toInt64 (gi (si h2 v0 1 0) v0 12))] (si h2 v0 1 0) (QV fun h5 =>
    St10 h5 v0 ∧ S_X10_enters (lX X) (dtX X) 0 0 [.ref v0, .long (Int32.toInt64 (gi h5 v0 13))] h5 (QV fun h7 =>
    St10 h7 v0 ∧ S_X10_enters (lX X) (dtX X) 0 0 [.ref v0, .long (Int32.toInt64 (gi h7 v0 14))] h7 (QV fun h9 =>
    St10 h9 v0 ∧ S_X10_enters (lX X) (dtX X) 0 0 [.ref v0, .long (Int32.toInt64 (gi h9 v0 15))] h9 (QV fun h11 =>
    St10 h11 v0 ∧ S_X10_enters (lX X) (dtX X) 0 0 [.ref v0, .long (Int32.toInt64 (gi h11 v0 16))] h11 (QV fun h13 =>
    Q (some (.int x3)) h13)))))) ∧
    (¬ 0 ≤ x3 → Q (some (.int (-2))) h2)))) ∧
    ((btL (Int32.toInt64 v1) 2 400) = 0 → Q (some (.int (-1))) (si h v0 0 0)))) :
    Wj X k n Q 0 [(0, .ref v0), (1, .int v1)] [] h := by
  refine w_aload_n (pc := 0) C dX10_compound_0 rfl ?_
  refine w_iconst (pc := 1) C (v := 0) dX10_compound_1 (by decide) ?_
  obtain ⟨f1, hv⟩ := hv
  refine w_putI (pc := 2) C fl_X10_1 rfl rfl dX10_compound_2 (St10_k f1) ?_
  refine w_iload_n (pc := 5) C dX10_compound_5 rfl ?_
  refine w_cS0_1 (pc := 6) C cl_X10_179 ls_X10_isNumber (by decide) dX10_compound_6 (Nat.le_of_ble_eq_true rfl) ((sf_X10_isNumber (h := (si h v0 0 0)) ).mono (fun v h9 hp => ?_))
  obtain ⟨e1, e2⟩ := hp
  rw [e1, e2]
  refine w_if_ne (pc := 9) C (tgt := 14) dX10_compound_9 (by decide) ?_
  obtain ⟨hv1, hv2⟩ := hv
  refine ⟨fun c15 => ?_, fun c15 => ?_⟩
  · have hv := hv1 c15
    refine w_aload_n (pc := 14) C dX10_compound_14 rfl ?_
    refine w_iload_n (pc := 15) C dX10_compound_15 rfl ?_
    refine w_cV0_1 (pc := 16) C cl_X10_211 lv_X10_findsCompound (by decide) dX10_compound_16 (Nat.le_of_ble_eq_true rfl) (c := 10) rfl (St10_k f1) (hv.mono (fun v h2 hp => ?_))
    obtain ⟨x3, rfl, hv⟩ := hp
    refine w_istore_n (pc := 19) C dX10_compound_19 (by decide) ?_
    refine w_iload_n (pc := 20) C dX10_compound_20 rfl ?_
    refine w_if_ge (pc := 21) C (tgt := 27) dX10_compound_21 (by decide) ?_
    obtain ⟨hv1, hv2⟩ := hv
    refine ⟨fun c14 => ?_, fun c14 => ?_⟩
    · have hv := hv1 c14
      refine w_aload_n (pc := 27) C dX10_compound_27 rfl ?_
      refine w_iconst (pc := 28) C (v := 0) dX10_compound_28 (by decide) ?_
      obtain ⟨f4, hv⟩ := hv
      refine w_putI (pc := 29) C fl_X10_11 rfl rfl dX10_compound_29 (St10_k f4) ?_
      refine w_aload_n (pc := 32) C dX10_compound_32 rfl ?_
      refine w_aload_n (pc := 33) C dX10_compound_33 rfl ?_
      refine w_getI (pc := 34) C fl_X10_192 rfl dX10_compound_34 (St10_k f4) ?_
      refine w_i2l (pc := 37) C dX10_compound_37 ?_
      refine w_cV0_1 (pc := 38) C cl_X10_18 lv_X10_enters (by decide) dX10_compound_38 (Nat.le_of_ble_eq_true rfl) (c := 10) rfl (St10_k f4) (hv.mono (fun v h5 hp => ?_))
      obtain ⟨rfl, hv⟩ := hp
      refine w_aload_n (pc := 41) C dX10_compound_41 rfl ?_
      refine w_aload_n (pc := 42) C dX10_compound_42 rfl ?_
      obtain ⟨f6, hv⟩ := hv
      refine w_getI (pc := 43) C fl_X10_195 rfl dX10_compound_43 (St10_k f6) ?_
      refine w_i2l (pc := 46) C dX10_compound_46 ?_
      refine w_cV0_1 (pc := 47) C cl_X10_18 lv_X10_enters (by decide) dX10_compound_47 (Nat.le_of_ble_eq_true rfl) (c := 10) rfl (St10_k f6) (hv.mono (fun v h7 hp => ?_))
      obtain ⟨rfl, hv⟩ := hp
      refine w_aload_n (pc := 50) C dX10_compound_50 rfl ?_
      refine w_aload_n (pc := 51) C dX10_compound_51 rfl ?_
      obtain ⟨f8, hv⟩ := hv
      refine w_getI (pc := 52) C fl_X10_198 rfl dX10_compound_52 (St10_k f8) ?_
      refine w_i2l (pc := 55) C dX10_compound_55 ?_
      refine w_cV0_1 (pc := 56) C cl_X10_18 lv_X10_enters (by decide) dX10_compound_56 (Nat.le_of_ble_eq_true rfl) (c := 10) rfl (St10_k f8) (hv.mono (fun v h9 hp => ?_))
      obtain ⟨rfl, hv⟩ := hp
      refine w_aload_n (pc := 59) C dX10_compound_59 rfl ?_
      refine w_aload_n (pc := 60) C dX10_compound_60 rfl ?_
      obtain ⟨f10, hv⟩ := hv
      refine w_getI (pc := 61) C fl_X10_201 rfl dX10_compound_61 (St10_k f10) ?_
      refine w_i2l (pc := 64) C dX10_compound_64 ?_
      refine w_cV0_1 (pc := 65) C cl_X10_18 lv_X10_enters (by decide) dX10_compound_65 (Nat.le_of_ble_eq_true rfl) (c := 10) rfl (St10_k f10) (hv.mono (fun v h11 hp => ?_))
      obtain ⟨rfl, hv⟩ := hp
      refine w_aload_n (pc := 68) C dX10_compound_68 rfl ?_
      refine w_aload_n (pc := 69) C dX10_compound_69 rfl ?_
      obtain ⟨f12, hv⟩ := hv
      refine w_getI (pc := 70) C fl_X10_204 rfl dX10_compound_70 (St10_k f12) ?_
      refine w_i2l (pc := 73) C dX10_compound_73 ?_
      refine w_cV0_1 (pc := 74) C cl_X10_18 lv_X10_enters (by decide) dX10_compound_74 (Nat.le_of_ble_eq_true rfl) (c := 10) rfl (St10_k f12) (hv.mono (fun v h13 hp => ?_))
      obtain ⟨rfl, hv⟩ := hp
      refine w_iload_n (pc := 77) C dX10_compound_77 rfl ?_
      exact w_iret (pc := 78) C dX10_compound_78 hv
    · have hv := hv2 c14
      refine w_bipush (pc := 24) C (v := (-2)) dX10_compound_24 (by decide) ?_
      exact w_iret (pc := 26) C dX10_compound_26 hv
  · have hv := hv2 c15
    refine w_iconst (pc := 12) C (v := (-1)) dX10_compound_12 (by decide) ?_
    exact w_iret (pc := 13) C dX10_compound_13 hv
