-- gaps, missing, reaches (by program: gen_parts.py)
theorem dX3_look_0 : decode cX3_look 0 = .ok (.aload_n 0, 1) := by decide +kernel
theorem dX3_look_1 : decode cX3_look 1 = .ok (.iconst 0, 1) := by decide +kernel
theorem dX3_look_2 : decode cX3_look 2 = .ok (.putfield 9, 3) := by decide +kernel
theorem dX3_look_5 : decode cX3_look 5 = .ok (.iconst 0, 1) := by decide +kernel
theorem dX3_look_6 : decode cX3_look 6 = .ok (.istore_n 2, 1) := by decide +kernel
theorem dX3_look_7 : decode cX3_look 7 = .ok (.iload_n 2, 1) := by decide +kernel
theorem dX3_look_8 : decode cX3_look 8 = .ok (.aload_n 1, 1) := by decide +kernel
theorem dX3_look_9 : decode cX3_look 9 = .ok (.getfield 29, 3) := by decide +kernel
theorem dX3_look_12 : decode cX3_look 12 = .ok (.if_icmp .ge 83, 3) := by decide +kernel
theorem dX3_look_15 : decode cX3_look 15 = .ok (.aload_n 1, 1) := by decide +kernel
theorem dX3_look_16 : decode cX3_look 16 = .ok (.iload_n 2, 1) := by decide +kernel
theorem dX3_look_17 : decode cX3_look 17 = .ok (.aload_n 0, 1) := by decide +kernel
theorem dX3_look_18 : decode cX3_look 18 = .ok (.getfield 18, 3) := by decide +kernel
theorem dX3_look_21 : decode cX3_look 21 = .ok (.invokevirtual 34, 3) := by decide +kernel
theorem dX3_look_24 : decode cX3_look 24 = .ok (.aload_n 0, 1) := by decide +kernel
theorem dX3_look_25 : decode cX3_look 25 = .ok (.invokevirtual 38, 3) := by decide +kernel
theorem dX3_look_28 : decode cX3_look 28 = .ok (.ifCond .ne 61, 3) := by decide +kernel
theorem dX3_look_31 : decode cX3_look 31 = .ok (.aload_n 0, 1) := by decide +kernel
theorem dX3_look_32 : decode cX3_look 32 = .ok (.getfield 9, 3) := by decide +kernel
theorem dX3_look_35 : decode cX3_look 35 = .ok (.ifCond .lt 54, 3) := by decide +kernel
theorem dX3_look_38 : decode cX3_look 38 = .ok (.aload_n 0, 1) := by decide +kernel
theorem dX3_look_39 : decode cX3_look 39 = .ok (.getfield 9, 3) := by decide +kernel
theorem dX3_look_42 : decode cX3_look 42 = .ok (.bipush 60, 2) := by decide +kernel
theorem dX3_look_44 : decode cX3_look 44 = .ok (.if_icmp .ge 45, 3) := by decide +kernel
theorem dX3_look_47 : decode cX3_look 47 = .ok (.aload_n 0, 1) := by decide +kernel
theorem dX3_look_48 : decode cX3_look 48 = .ok (.getfield 22, 3) := by decide +kernel
theorem dX3_look_51 : decode cX3_look 51 = .ok (.aload_n 0, 1) := by decide +kernel
theorem dX3_look_52 : decode cX3_look 52 = .ok (.getfield 9, 3) := by decide +kernel
theorem dX3_look_55 : decode cX3_look 55 = .ok (.aload_n 0, 1) := by decide +kernel
theorem dX3_look_56 : decode cX3_look 56 = .ok (.getfield 18, 3) := by decide +kernel
theorem dX3_look_59 : decode cX3_look 59 = .ok (.getfield 42, 3) := by decide +kernel
theorem dX3_look_62 : decode cX3_look 62 = .ok (.lastore, 1) := by decide +kernel
theorem dX3_look_63 : decode cX3_look 63 = .ok (.aload_n 0, 1) := by decide +kernel
theorem dX3_look_64 : decode cX3_look 64 = .ok (.getfield 26, 3) := by decide +kernel
theorem dX3_look_67 : decode cX3_look 67 = .ok (.aload_n 0, 1) := by decide +kernel
theorem dX3_look_68 : decode cX3_look 68 = .ok (.getfield 9, 3) := by decide +kernel
theorem dX3_look_71 : decode cX3_look 71 = .ok (.aload_n 0, 1) := by decide +kernel
theorem dX3_look_72 : decode cX3_look 72 = .ok (.getfield 18, 3) := by decide +kernel
theorem dX3_look_75 : decode cX3_look 75 = .ok (.getfield 46, 3) := by decide +kernel
theorem dX3_look_78 : decode cX3_look 78 = .ok (.lastore, 1) := by decide +kernel
theorem dX3_look_79 : decode cX3_look 79 = .ok (.aload_n 0, 1) := by decide +kernel
theorem dX3_look_80 : decode cX3_look 80 = .ok (.dup, 1) := by decide +kernel
theorem dX3_look_81 : decode cX3_look 81 = .ok (.getfield 9, 3) := by decide +kernel
theorem dX3_look_84 : decode cX3_look 84 = .ok (.iconst 1, 1) := by decide +kernel
theorem dX3_look_85 : decode cX3_look 85 = .ok (.iadd, 1) := by decide +kernel
theorem dX3_look_86 : decode cX3_look 86 = .ok (.putfield 9, 3) := by decide +kernel
theorem dX3_look_89 : decode cX3_look 89 = .ok (.iinc 2 1, 3) := by decide +kernel
theorem dX3_look_92 : decode cX3_look 92 = .ok (.goto (-85), 3) := by decide +kernel
theorem dX3_look_95 : decode cX3_look 95 = .ok (.return_, 1) := by decide +kernel
set_option maxRecDepth 20000 in
set_option maxHeartbeats 2000000 in
theorem V_X3_look_0 {X : Ctx} (C : C_X3_look X) {k n : Nat} {Q : Pq} {h : Hp} {v0 v1 : Nat}
    (hv : St3 h v0 ∧ Wj X k n Q 7 [(0, .ref v0), (1, .ref v1), (2, .int 0)] [] (si h v0 0 0)) :
    Wj X k n Q 0 [(0, .ref v0), (1, .ref v1)] [] h := by
  refine w_aload_n (pc := 0) C dX3_look_0 rfl ?_
  refine w_iconst (pc := 1) C (v := 0) dX3_look_1 (by decide) ?_
  obtain ⟨f1, hv⟩ := hv
  refine w_putI (pc := 2) C fl_X3_9 rfl rfl dX3_look_2 (St3_k f1) ?_
  refine w_iconst (pc := 5) C (v := 0) dX3_look_5 (by decide) ?_
  refine w_istore_n (pc := 6) C dX3_look_6 (by decide) ?_
  refine w_sub ?_ hv
  exact ⟨rfl, rfl, rfl, trivial⟩
set_option maxRecDepth 20000 in
set_option maxHeartbeats 2000000 in
theorem V_X3_look_7 {X : Ctx} (C : C_X3_look X) {k n : Nat} {Q : Pq} {h : Hp} {v0 v1 : Nat} {v2 : Int32}
    (hv : St4 h v1 ∧ (((gi h v1 7) ≤ v2 → Q none h) ∧
    (¬ (gi h v1 7) ≤ v2 → St3 h v0 ∧ S_X4_gapBehind (lX X) (dtX X) 0 0 [.ref v1, .int v2, .ref (v0 + 1)] h (QV fun h3 =>
    St3 h3 v0 ∧ S_X3_holdsGap (lX X) (dtX X) 0 0 [.ref v0] h3 (QI fun x6 h5 =>
    ((¬ x6 = 0 → Wj X k n Q 7 [(0, .ref v0), (1, .ref v1), (2, .int (v2 + Int32.ofInt 1))] [] h5) ∧
    (x6 = 0 → St3 h5 v0 ∧ (((gi h5 v0 0) < 0 → Wj X k n Q 7 [(0, .ref v0), (1, .ref v1), (2, .int (v2 + Int32.ofInt 1))] [] h5) ∧
    (¬ (gi h5 v0 0) < 0 → ((60 ≤ (gi h5 v0 0) → Wj X k n Q 7 [(0, .ref v0), (1, .ref v1), (2, .int (v2 + Int32.ofInt 1))] [] h5) ∧
    (¬ 60 ≤ (gi h5 v0 0) → inb (gi h5 v0 0) 60 ∧ Wj X k n Q 7 [(0, .ref v0), (1, .ref v1), (2, .int (v2 + Int32.ofInt 1))] [] (si (sl (sl h5 (v0 + 2) (ix (gi h5 v0 0)) (gl h5 (v0 + 1) 0)) (v0 + 3) (ix (gi h5 v0 0)) (gl (sl h5 (v0 + 2) (ix (gi h5 v0 0)) (gl h5 (v0 + 1) 0)) (v0 + 1) 1)) v0 0 ((gi h5 v0 0) + 1))))))))))))) :
    Wj X k n Q 7 [(0, .ref v0), (1, .ref v1), (2, .int v2)] [] h := by
  refine w_iload_n (pc := 7) C dX3_look_7 rfl ?_
  refine w_aload_n (pc := 8) C dX3_look_8 rfl ?_
  obtain ⟨f1, hv⟩ := hv
  refine w_getI (pc := 9) C fl_X3_29 rfl dX3_look_9 (St4_k f1) ?_
  refine w_icmp_ge (pc := 12) C (tgt := 95) dX3_look_12 (by decide) ?_
  obtain ⟨hv1, hv2⟩ := hv
  refine ⟨fun c12 => ?_, fun c12 => ?_⟩
  · have hv := hv1 c12
    exact w_vret (pc := 95) C dX3_look_95 hv
  · have hv := hv2 c12
    refine w_aload_n (pc := 15) C dX3_look_15 rfl ?_
    refine w_iload_n (pc := 16) C dX3_look_16 rfl ?_
    refine w_aload_n (pc := 17) C dX3_look_17 rfl ?_
    obtain ⟨f2, hv⟩ := hv
    refine w_getR (pc := 18) C fl_X3_18 rfl dX3_look_18 (St3_k f2) (St3_r1 f2) ?_
    refine w_cV0_2 (pc := 21) C cl_X3_34 lv_X4_gapBehind (by decide) dX3_look_21 (Nat.le_of_ble_eq_true rfl) (c := 4) rfl (St4_k f1) (hv.mono (fun v h3 hp => ?_))
    obtain ⟨rfl, hv⟩ := hp
    refine w_aload_n (pc := 24) C dX3_look_24 rfl ?_
    obtain ⟨f4, hv⟩ := hv
    refine w_cV0_0 (pc := 25) C cl_X3_38 lv_X3_holdsGap (by decide) dX3_look_25 (Nat.le_of_ble_eq_true rfl) (c := 3) rfl (St3_k f4) (hv.mono (fun v h5 hp => ?_))
    obtain ⟨x6, rfl, hv⟩ := hp
    refine w_if_ne (pc := 28) C (tgt := 89) dX3_look_28 (by decide) ?_
    obtain ⟨hv1, hv2⟩ := hv
    refine ⟨fun c11 => ?_, fun c11 => ?_⟩
    · have hv := hv1 c11
      refine w_iinc (pc := 89) C dX3_look_89 rfl (by decide) ?_
      refine w_goto (pc := 92) C (tgt := 7) dX3_look_92 (by decide) ?_
      refine w_sub ?_ hv
      exact ⟨rfl, rfl, rfl, trivial⟩
    · have hv := hv2 c11
      refine w_aload_n (pc := 31) C dX3_look_31 rfl ?_
      obtain ⟨f7, hv⟩ := hv
      refine w_getI (pc := 32) C fl_X3_9 rfl dX3_look_32 (St3_k f7) ?_
      refine w_if_lt (pc := 35) C (tgt := 89) dX3_look_35 (by decide) ?_
      obtain ⟨hv1, hv2⟩ := hv
      refine ⟨fun c10 => ?_, fun c10 => ?_⟩
      · have hv := hv1 c10
        refine w_iinc (pc := 89) C dX3_look_89 rfl (by decide) ?_
        refine w_goto (pc := 92) C (tgt := 7) dX3_look_92 (by decide) ?_
        refine w_sub ?_ hv
        exact ⟨rfl, rfl, rfl, trivial⟩
      · have hv := hv2 c10
        refine w_aload_n (pc := 38) C dX3_look_38 rfl ?_
        refine w_getI (pc := 39) C fl_X3_9 rfl dX3_look_39 (St3_k f7) ?_
        refine w_bipush (pc := 42) C (v := 60) dX3_look_42 (by decide) ?_
        refine w_icmp_ge (pc := 44) C (tgt := 89) dX3_look_44 (by decide) ?_
        obtain ⟨hv1, hv2⟩ := hv
        refine ⟨fun c9 => ?_, fun c9 => ?_⟩
        · have hv := hv1 c9
          refine w_iinc (pc := 89) C dX3_look_89 rfl (by decide) ?_
          refine w_goto (pc := 92) C (tgt := 7) dX3_look_92 (by decide) ?_
          refine w_sub ?_ hv
          exact ⟨rfl, rfl, rfl, trivial⟩
        · have hv := hv2 c9
          refine w_aload_n (pc := 47) C dX3_look_47 rfl ?_
          refine w_getR (pc := 48) C fl_X3_22 rfl dX3_look_48 (St3_k f7) (St3_r2 f7) ?_
          refine w_aload_n (pc := 51) C dX3_look_51 rfl ?_
          refine w_getI (pc := 52) C fl_X3_9 rfl dX3_look_52 (St3_k f7) ?_
          refine w_aload_n (pc := 55) C dX3_look_55 rfl ?_
          refine w_getR (pc := 56) C fl_X3_18 rfl dX3_look_56 (St3_k f7) (St3_r1 f7) ?_
          refine w_getL (pc := 59) C fl_X3_42 rfl dX3_look_59 (St3_k1 f7) ?_
          obtain ⟨f8, hv⟩ := hv
          refine w_last (pc := 62) C dX3_look_62 (St3_k2 f7) (inbl (St3_l2 f7) f8) ?_
          refine w_aload_n (pc := 63) C dX3_look_63 rfl ?_
          refine w_getR (pc := 64) C fl_X3_26 rfl dX3_look_64 (St3_k f7) (St3_r3 f7) ?_
          refine w_aload_n (pc := 67) C dX3_look_67 rfl ?_
          refine w_getI (pc := 68) C fl_X3_9 rfl dX3_look_68 (St3_k f7) ?_
          refine w_aload_n (pc := 71) C dX3_look_71 rfl ?_
          refine w_getR (pc := 72) C fl_X3_18 rfl dX3_look_72 (St3_k f7) (St3_r1 f7) ?_
          refine w_getL (pc := 75) C fl_X3_46 rfl dX3_look_75 (St3_k1 f7) ?_
          refine w_last (pc := 78) C dX3_look_78 (St3_k3 f7) (inbl (St3_l3 f7) f8) ?_
          refine w_aload_n (pc := 79) C dX3_look_79 rfl ?_
          refine w_dup (pc := 80) C dX3_look_80 rfl ?_
          refine w_getI (pc := 81) C fl_X3_9 rfl dX3_look_81 (St3_k f7) ?_
          refine w_iconst (pc := 84) C (v := 1) dX3_look_84 (by decide) ?_
          refine w_iadd (pc := 85) C dX3_look_85 ?_
          refine w_putI (pc := 86) C fl_X3_9 rfl rfl dX3_look_86 (St3_k f7) ?_
          refine w_iinc (pc := 89) C dX3_look_89 rfl (by decide) ?_
          refine w_goto (pc := 92) C (tgt := 7) dX3_look_92 (by decide) ?_
          refine w_sub ?_ hv
          exact ⟨rfl, rfl, rfl, trivial⟩
theorem dX3_holdsGap_0 : decode cX3_holdsGap 0 = .ok (.iconst 0, 1) := by decide +kernel
theorem dX3_holdsGap_1 : decode cX3_holdsGap 1 = .ok (.istore_n 1, 1) := by decide +kernel
theorem dX3_holdsGap_2 : decode cX3_holdsGap 2 = .ok (.iload_n 1, 1) := by decide +kernel
theorem dX3_holdsGap_3 : decode cX3_holdsGap 3 = .ok (.aload_n 0, 1) := by decide +kernel
theorem dX3_holdsGap_4 : decode cX3_holdsGap 4 = .ok (.getfield 9, 3) := by decide +kernel
theorem dX3_holdsGap_7 : decode cX3_holdsGap 7 = .ok (.if_icmp .ge 51, 3) := by decide +kernel
theorem dX3_holdsGap_10 : decode cX3_holdsGap 10 = .ok (.iload_n 1, 1) := by decide +kernel
theorem dX3_holdsGap_11 : decode cX3_holdsGap 11 = .ok (.bipush 60, 2) := by decide +kernel
theorem dX3_holdsGap_13 : decode cX3_holdsGap 13 = .ok (.if_icmp .ge 45, 3) := by decide +kernel
theorem dX3_holdsGap_16 : decode cX3_holdsGap 16 = .ok (.aload_n 0, 1) := by decide +kernel
theorem dX3_holdsGap_17 : decode cX3_holdsGap 17 = .ok (.getfield 22, 3) := by decide +kernel
theorem dX3_holdsGap_20 : decode cX3_holdsGap 20 = .ok (.iload_n 1, 1) := by decide +kernel
theorem dX3_holdsGap_21 : decode cX3_holdsGap 21 = .ok (.laload, 1) := by decide +kernel
theorem dX3_holdsGap_22 : decode cX3_holdsGap 22 = .ok (.aload_n 0, 1) := by decide +kernel
theorem dX3_holdsGap_23 : decode cX3_holdsGap 23 = .ok (.getfield 18, 3) := by decide +kernel
theorem dX3_holdsGap_26 : decode cX3_holdsGap 26 = .ok (.getfield 42, 3) := by decide +kernel
theorem dX3_holdsGap_29 : decode cX3_holdsGap 29 = .ok (.lcmp, 1) := by decide +kernel
theorem dX3_holdsGap_30 : decode cX3_holdsGap 30 = .ok (.ifCond .ne 22, 3) := by decide +kernel
theorem dX3_holdsGap_33 : decode cX3_holdsGap 33 = .ok (.aload_n 0, 1) := by decide +kernel
theorem dX3_holdsGap_34 : decode cX3_holdsGap 34 = .ok (.getfield 26, 3) := by decide +kernel
theorem dX3_holdsGap_37 : decode cX3_holdsGap 37 = .ok (.iload_n 1, 1) := by decide +kernel
theorem dX3_holdsGap_38 : decode cX3_holdsGap 38 = .ok (.laload, 1) := by decide +kernel
theorem dX3_holdsGap_39 : decode cX3_holdsGap 39 = .ok (.aload_n 0, 1) := by decide +kernel
theorem dX3_holdsGap_40 : decode cX3_holdsGap 40 = .ok (.getfield 18, 3) := by decide +kernel
theorem dX3_holdsGap_43 : decode cX3_holdsGap 43 = .ok (.getfield 46, 3) := by decide +kernel
theorem dX3_holdsGap_46 : decode cX3_holdsGap 46 = .ok (.lcmp, 1) := by decide +kernel
theorem dX3_holdsGap_47 : decode cX3_holdsGap 47 = .ok (.ifCond .ne 5, 3) := by decide +kernel
theorem dX3_holdsGap_50 : decode cX3_holdsGap 50 = .ok (.iconst 1, 1) := by decide +kernel
theorem dX3_holdsGap_51 : decode cX3_holdsGap 51 = .ok (.ireturn, 1) := by decide +kernel
theorem dX3_holdsGap_52 : decode cX3_holdsGap 52 = .ok (.iinc 1 1, 3) := by decide +kernel
theorem dX3_holdsGap_55 : decode cX3_holdsGap 55 = .ok (.goto (-53), 3) := by decide +kernel
theorem dX3_holdsGap_58 : decode cX3_holdsGap 58 = .ok (.iconst 0, 1) := by decide +kernel
theorem dX3_holdsGap_59 : decode cX3_holdsGap 59 = .ok (.ireturn, 1) := by decide +kernel
set_option maxRecDepth 20000 in
set_option maxHeartbeats 2000000 in
theorem V_X3_holdsGap_0 {X : Ctx} (C : C_X3_holdsGap X) {k n : Nat} {Q : Pq} {h : Hp} {v0 : Nat}
    (hv : Wj X k n Q 2 [(0, .ref v0), (1, .int 0)] [] h) :
    Wj X k n Q 0 [(0, .ref v0)] [] h := by
  refine w_iconst (pc := 0) C (v := 0) dX3_holdsGap_0 (by decide) ?_
  refine w_istore_n (pc := 1) C dX3_holdsGap_1 (by decide) ?_
  refine w_sub ?_ hv
  exact ⟨rfl, rfl, trivial⟩
set_option maxRecDepth 20000 in
set_option maxHeartbeats 2000000 in
theorem V_X3_holdsGap_2 {X : Ctx} (C : C_X3_holdsGap X) {k n : Nat} {Q : Pq} {h : Hp} {v0 : Nat} {v1 : Int32}
    (hv : St3 h v0 ∧ (((gi h v0 0) ≤ v1 → Q (some (.int 0)) h) ∧
    (¬ (gi h v0 0) ≤ v1 → ((60 ≤ v1 → Q (some (.int 0)) h) ∧
    (¬ 60 ≤ v1 → inb v1 60 ∧ ((¬ (gl h (v0 + 2) (ix v1)) = (gl h (v0 + 1) 0) → Wj X k n Q 2 [(0, .ref v0), (1, .int (v1 + Int32.ofInt 1))] [] h) ∧
    ((gl h (v0 + 2) (ix v1)) = (gl h (v0 + 1) 0) → ((¬ (gl h (v0 + 3) (ix v1)) = (gl h (v0 + 1) 1) → Wj X k n Q 2 [(0, .ref v0), (1, .int (v1 + Int32.ofInt 1))] [] h) ∧
    ((gl h (v0 + 3) (ix v1)) = (gl h (v0 + 1) 1) → Q (some (.int 1)) h))))))))) :
    Wj X k n Q 2 [(0, .ref v0), (1, .int v1)] [] h := by
  refine w_iload_n (pc := 2) C dX3_holdsGap_2 rfl ?_
  refine w_aload_n (pc := 3) C dX3_holdsGap_3 rfl ?_
  obtain ⟨f1, hv⟩ := hv
  refine w_getI (pc := 4) C fl_X3_9 rfl dX3_holdsGap_4 (St3_k f1) ?_
  refine w_icmp_ge (pc := 7) C (tgt := 58) dX3_holdsGap_7 (by decide) ?_
  obtain ⟨hv1, hv2⟩ := hv
  refine ⟨fun c6 => ?_, fun c6 => ?_⟩
  · have hv := hv1 c6
    refine w_iconst (pc := 58) C (v := 0) dX3_holdsGap_58 (by decide) ?_
    exact w_zret (pc := 59) C dX3_holdsGap_59 (by decide) hv
  · have hv := hv2 c6
    refine w_iload_n (pc := 10) C dX3_holdsGap_10 rfl ?_
    refine w_bipush (pc := 11) C (v := 60) dX3_holdsGap_11 (by decide) ?_
    refine w_icmp_ge (pc := 13) C (tgt := 58) dX3_holdsGap_13 (by decide) ?_
    obtain ⟨hv1, hv2⟩ := hv
    refine ⟨fun c5 => ?_, fun c5 => ?_⟩
    · have hv := hv1 c5
      refine w_iconst (pc := 58) C (v := 0) dX3_holdsGap_58 (by decide) ?_
      exact w_zret (pc := 59) C dX3_holdsGap_59 (by decide) hv
    · have hv := hv2 c5
      refine w_aload_n (pc := 16) C dX3_holdsGap_16 rfl ?_
      refine w_getR (pc := 17) C fl_X3_22 rfl dX3_holdsGap_17 (St3_k f1) (St3_r2 f1) ?_
      refine w_iload_n (pc := 20) C dX3_holdsGap_20 rfl ?_
      obtain ⟨f2, hv⟩ := hv
      refine w_lald (pc := 21) C dX3_holdsGap_21 (St3_k2 f1) (inbl (St3_l2 f1) f2) ?_
      refine w_aload_n (pc := 22) C dX3_holdsGap_22 rfl ?_
      refine w_getR (pc := 23) C fl_X3_18 rfl dX3_holdsGap_23 (St3_k f1) (St3_r1 f1) ?_
      refine w_getL (pc := 26) C fl_X3_42 rfl dX3_holdsGap_26 (St3_k1 f1) ?_
      refine w_lcmp_ne (pc := 29) C (tgt := 52) dX3_holdsGap_29 dX3_holdsGap_30 (by decide) ?_
      obtain ⟨hv1, hv2⟩ := hv
      refine ⟨fun c4 => ?_, fun c4 => ?_⟩
      · have hv := hv1 c4
        refine w_iinc (pc := 52) C dX3_holdsGap_52 rfl (by decide) ?_
        refine w_goto (pc := 55) C (tgt := 2) dX3_holdsGap_55 (by decide) ?_
        refine w_sub ?_ hv
        exact ⟨rfl, rfl, trivial⟩
      · have hv := hv2 c4
        refine w_aload_n (pc := 33) C dX3_holdsGap_33 rfl ?_
        refine w_getR (pc := 34) C fl_X3_26 rfl dX3_holdsGap_34 (St3_k f1) (St3_r3 f1) ?_
        refine w_iload_n (pc := 37) C dX3_holdsGap_37 rfl ?_
        refine w_lald (pc := 38) C dX3_holdsGap_38 (St3_k3 f1) (inbl (St3_l3 f1) f2) ?_
        refine w_aload_n (pc := 39) C dX3_holdsGap_39 rfl ?_
        refine w_getR (pc := 40) C fl_X3_18 rfl dX3_holdsGap_40 (St3_k f1) (St3_r1 f1) ?_
        refine w_getL (pc := 43) C fl_X3_46 rfl dX3_holdsGap_43 (St3_k1 f1) ?_
        refine w_lcmp_ne (pc := 46) C (tgt := 52) dX3_holdsGap_46 dX3_holdsGap_47 (by decide) ?_
        obtain ⟨hv1, hv2⟩ := hv
        refine ⟨fun c3 => ?_, fun c3 => ?_⟩
        · have hv := hv1 c3
          refine w_iinc (pc := 52) C dX3_holdsGap_52 rfl (by decide) ?_
          refine w_goto (pc := 55) C (tgt := 2) dX3_holdsGap_55 (by decide) ?_
          refine w_sub ?_ hv
          exact ⟨rfl, rfl, trivial⟩
        · have hv := hv2 c3
          refine w_iconst (pc := 50) C (v := 1) dX3_holdsGap_50 (by decide) ?_
          exact w_zret (pc := 51) C dX3_holdsGap_51 (by decide) hv
theorem dX3_tellExtreme_0 : decode cX3_tellExtreme 0 = .ok (.iconst 0, 1) := by decide +kernel
theorem dX3_tellExtreme_1 : decode cX3_tellExtreme 1 = .ok (.istore_n 3, 1) := by decide +kernel
theorem dX3_tellExtreme_2 : decode cX3_tellExtreme 2 = .ok (.iconst 1, 1) := by decide +kernel
theorem dX3_tellExtreme_3 : decode cX3_tellExtreme 3 = .ok (.istore 4, 2) := by decide +kernel
theorem dX3_tellExtreme_5 : decode cX3_tellExtreme 5 = .ok (.iload 4, 2) := by decide +kernel
theorem dX3_tellExtreme_7 : decode cX3_tellExtreme 7 = .ok (.aload_n 0, 1) := by decide +kernel
theorem dX3_tellExtreme_8 : decode cX3_tellExtreme 8 = .ok (.getfield 9, 3) := by decide +kernel
theorem dX3_tellExtreme_11 : decode cX3_tellExtreme 11 = .ok (.if_icmp .ge 53, 3) := by decide +kernel
theorem dX3_tellExtreme_14 : decode cX3_tellExtreme 14 = .ok (.iload 4, 2) := by decide +kernel
theorem dX3_tellExtreme_16 : decode cX3_tellExtreme 16 = .ok (.bipush 60, 2) := by decide +kernel
theorem dX3_tellExtreme_18 : decode cX3_tellExtreme 18 = .ok (.if_icmp .ge 46, 3) := by decide +kernel
theorem dX3_tellExtreme_21 : decode cX3_tellExtreme 21 = .ok (.aload_n 0, 1) := by decide +kernel
theorem dX3_tellExtreme_22 : decode cX3_tellExtreme 22 = .ok (.getfield 22, 3) := by decide +kernel
theorem dX3_tellExtreme_25 : decode cX3_tellExtreme 25 = .ok (.iload 4, 2) := by decide +kernel
theorem dX3_tellExtreme_27 : decode cX3_tellExtreme 27 = .ok (.laload, 1) := by decide +kernel
theorem dX3_tellExtreme_28 : decode cX3_tellExtreme 28 = .ok (.aload_n 0, 1) := by decide +kernel
theorem dX3_tellExtreme_29 : decode cX3_tellExtreme 29 = .ok (.getfield 26, 3) := by decide +kernel
theorem dX3_tellExtreme_32 : decode cX3_tellExtreme 32 = .ok (.iload 4, 2) := by decide +kernel
theorem dX3_tellExtreme_34 : decode cX3_tellExtreme 34 = .ok (.laload, 1) := by decide +kernel
theorem dX3_tellExtreme_35 : decode cX3_tellExtreme 35 = .ok (.aload_n 0, 1) := by decide +kernel
theorem dX3_tellExtreme_36 : decode cX3_tellExtreme 36 = .ok (.getfield 22, 3) := by decide +kernel
theorem dX3_tellExtreme_39 : decode cX3_tellExtreme 39 = .ok (.iload_n 3, 1) := by decide +kernel
theorem dX3_tellExtreme_40 : decode cX3_tellExtreme 40 = .ok (.laload, 1) := by decide +kernel
theorem dX3_tellExtreme_41 : decode cX3_tellExtreme 41 = .ok (.aload_n 0, 1) := by decide +kernel
theorem dX3_tellExtreme_42 : decode cX3_tellExtreme 42 = .ok (.getfield 26, 3) := by decide +kernel
theorem dX3_tellExtreme_45 : decode cX3_tellExtreme 45 = .ok (.iload_n 3, 1) := by decide +kernel
theorem dX3_tellExtreme_46 : decode cX3_tellExtreme 46 = .ok (.laload, 1) := by decide +kernel
theorem dX3_tellExtreme_47 : decode cX3_tellExtreme 47 = .ok (.invokestatic 49, 3) := by decide +kernel
theorem dX3_tellExtreme_50 : decode cX3_tellExtreme 50 = .ok (.iload_n 2, 1) := by decide +kernel
theorem dX3_tellExtreme_51 : decode cX3_tellExtreme 51 = .ok (.imul, 1) := by decide +kernel
theorem dX3_tellExtreme_52 : decode cX3_tellExtreme 52 = .ok (.ifCond .le 6, 3) := by decide +kernel
theorem dX3_tellExtreme_55 : decode cX3_tellExtreme 55 = .ok (.iload 4, 2) := by decide +kernel
theorem dX3_tellExtreme_57 : decode cX3_tellExtreme 57 = .ok (.istore_n 3, 1) := by decide +kernel
theorem dX3_tellExtreme_58 : decode cX3_tellExtreme 58 = .ok (.iinc 4 1, 3) := by decide +kernel
theorem dX3_tellExtreme_61 : decode cX3_tellExtreme 61 = .ok (.goto (-56), 3) := by decide +kernel
theorem dX3_tellExtreme_64 : decode cX3_tellExtreme 64 = .ok (.aload_n 1, 1) := by decide +kernel
theorem dX3_tellExtreme_65 : decode cX3_tellExtreme 65 = .ok (.aload_n 0, 1) := by decide +kernel
theorem dX3_tellExtreme_66 : decode cX3_tellExtreme 66 = .ok (.getfield 22, 3) := by decide +kernel
theorem dX3_tellExtreme_69 : decode cX3_tellExtreme 69 = .ok (.iload_n 3, 1) := by decide +kernel
theorem dX3_tellExtreme_70 : decode cX3_tellExtreme 70 = .ok (.laload, 1) := by decide +kernel
theorem dX3_tellExtreme_71 : decode cX3_tellExtreme 71 = .ok (.invokevirtual 53, 3) := by decide +kernel
theorem dX3_tellExtreme_74 : decode cX3_tellExtreme 74 = .ok (.aload_n 1, 1) := by decide +kernel
theorem dX3_tellExtreme_75 : decode cX3_tellExtreme 75 = .ok (.aload_n 0, 1) := by decide +kernel
theorem dX3_tellExtreme_76 : decode cX3_tellExtreme 76 = .ok (.getfield 26, 3) := by decide +kernel
theorem dX3_tellExtreme_79 : decode cX3_tellExtreme 79 = .ok (.iload_n 3, 1) := by decide +kernel
theorem dX3_tellExtreme_80 : decode cX3_tellExtreme 80 = .ok (.laload, 1) := by decide +kernel
theorem dX3_tellExtreme_81 : decode cX3_tellExtreme 81 = .ok (.invokevirtual 53, 3) := by decide +kernel
theorem dX3_tellExtreme_84 : decode cX3_tellExtreme 84 = .ok (.return_, 1) := by decide +kernel
set_option maxRecDepth 20000 in
set_option maxHeartbeats 2000000 in
theorem V_X3_tellExtreme_0 {X : Ctx} (C : C_X3_tellExtreme X) {k n : Nat} {Q : Pq} {h : Hp} {v0 v1 : Nat} {v2 : Int32}
    (hv : Wj X k n Q 5 [(0, .ref v0), (1, .ref v1), (2, .int v2), (3, .int 0), (4, .int 1)] [] h) :
    Wj X k n Q 0 [(0, .ref v0), (1, .ref v1), (2, .int v2)] [] h := by
  refine w_iconst (pc := 0) C (v := 0) dX3_tellExtreme_0 (by decide) ?_
  refine w_istore_n (pc := 1) C dX3_tellExtreme_1 (by decide) ?_
  refine w_iconst (pc := 2) C (v := 1) dX3_tellExtreme_2 (by decide) ?_
  refine w_istore (pc := 3) C dX3_tellExtreme_3 (by decide) ?_
  refine w_sub ?_ hv
  exact ⟨rfl, rfl, rfl, rfl, rfl, trivial⟩
set_option maxRecDepth 20000 in
set_option maxHeartbeats 2000000 in
theorem V_X3_tellExtreme_5 {X : Ctx} (C : C_X3_tellExtreme X) {k n : Nat} {Q : Pq} {h : Hp} {v0 v1 : Nat} {v2 v3 v4 : Int32}
    (hv : St3 h v0 ∧ (((gi h v0 0) ≤ v4 → Wj X k n Q 64 [(0, .ref v0), (1, .ref v1), (3, .int v3)] [] h) ∧
    (¬ (gi h v0 0) ≤ v4 → ((60 ≤ v4 → Wj X k n Q 64 [(0, .ref v0), (1, .ref v1), (3, .int v3)] [] h) ∧
    (¬ 60 ≤ v4 → inb v4 60 ∧ inb v3 60 ∧ 0 ≤ (Int64.toInt (gl h (v0 + 2) (ix v4))) ∧ 0 < (Int64.toInt (gl h (v0 + 3) (ix v4))) ∧ 0 ≤ (Int64.toInt (gl h (v0 + 2) (ix v3))) ∧ 0 < (Int64.toInt (gl h (v0 + 3) (ix v3))) ∧ ((((cmpF (Int64.toInt (gl h (v0 + 2) (ix v4))) (Int64.toInt (gl h (v0 + 3) (ix v4))) (Int64.toInt (gl h (v0 + 2) (ix v3))) (Int64.toInt (gl h (v0 + 3) (ix v3)))) * v2) ≤ 0 → Wj X k n Q 5 [(0, .ref v0), (1, .ref v1), (2, .int v2), (3, .int v3), (4, .int (v4 + Int32.ofInt 1))] [] h) ∧
    (¬ ((cmpF (Int64.toInt (gl h (v0 + 2) (ix v4))) (Int64.toInt (gl h (v0 + 3) (ix v4))) (Int64.toInt (gl h (v0 + 2) (ix v3))) (Int64.toInt (gl h (v0 + 3) (ix v3)))) * v2) ≤ 0 → Wj X k n Q 5 [(0, .ref v0), (1, .ref v1), (2, .int v2), (3, .int v4), (4, .int (v4 + Int32.ofInt 1))] [] h))))))) :
    Wj X k n Q 5 [(0, .ref v0), (1, .ref v1), (2, .int v2), (3, .int v3), (4, .int v4)] [] h := by
  refine w_iload (pc := 5) C dX3_tellExtreme_5 rfl ?_
  refine w_aload_n (pc := 7) C dX3_tellExtreme_7 rfl ?_
  obtain ⟨f1, hv⟩ := hv
  refine w_getI (pc := 8) C fl_X3_9 rfl dX3_tellExtreme_8 (St3_k f1) ?_
  refine w_icmp_ge (pc := 11) C (tgt := 64) dX3_tellExtreme_11 (by decide) ?_
  obtain ⟨hv1, hv2⟩ := hv
  refine ⟨fun c10 => ?_, fun c10 => ?_⟩
  · have hv := hv1 c10
    refine w_sub ?_ hv
    exact ⟨rfl, rfl, rfl, trivial⟩
  · have hv := hv2 c10
    refine w_iload (pc := 14) C dX3_tellExtreme_14 rfl ?_
    refine w_bipush (pc := 16) C (v := 60) dX3_tellExtreme_16 (by decide) ?_
    refine w_icmp_ge (pc := 18) C (tgt := 64) dX3_tellExtreme_18 (by decide) ?_
    obtain ⟨hv1, hv2⟩ := hv
    refine ⟨fun c9 => ?_, fun c9 => ?_⟩
    · have hv := hv1 c9
      refine w_sub ?_ hv
      exact ⟨rfl, rfl, rfl, trivial⟩
    · have hv := hv2 c9
      refine w_aload_n (pc := 21) C dX3_tellExtreme_21 rfl ?_
      refine w_getR (pc := 22) C fl_X3_22 rfl dX3_tellExtreme_22 (St3_k f1) (St3_r2 f1) ?_
      refine w_iload (pc := 25) C dX3_tellExtreme_25 rfl ?_
      obtain ⟨f2, hv⟩ := hv
      refine w_lald (pc := 27) C dX3_tellExtreme_27 (St3_k2 f1) (inbl (St3_l2 f1) f2) ?_
      refine w_aload_n (pc := 28) C dX3_tellExtreme_28 rfl ?_
      refine w_getR (pc := 29) C fl_X3_26 rfl dX3_tellExtreme_29 (St3_k f1) (St3_r3 f1) ?_
      refine w_iload (pc := 32) C dX3_tellExtreme_32 rfl ?_
      refine w_lald (pc := 34) C dX3_tellExtreme_34 (St3_k3 f1) (inbl (St3_l3 f1) f2) ?_
      refine w_aload_n (pc := 35) C dX3_tellExtreme_35 rfl ?_
      refine w_getR (pc := 36) C fl_X3_22 rfl dX3_tellExtreme_36 (St3_k f1) (St3_r2 f1) ?_
      refine w_iload_n (pc := 39) C dX3_tellExtreme_39 rfl ?_
      obtain ⟨f3, hv⟩ := hv
      refine w_lald (pc := 40) C dX3_tellExtreme_40 (St3_k2 f1) (inbl (St3_l2 f1) f3) ?_
      refine w_aload_n (pc := 41) C dX3_tellExtreme_41 rfl ?_
      refine w_getR (pc := 42) C fl_X3_26 rfl dX3_tellExtreme_42 (St3_k f1) (St3_r3 f1) ?_
      refine w_iload_n (pc := 45) C dX3_tellExtreme_45 rfl ?_
      refine w_lald (pc := 46) C dX3_tellExtreme_46 (St3_k3 f1) (inbl (St3_l3 f1) f3) ?_
      obtain ⟨f4, hv⟩ := hv
      obtain ⟨f5, hv⟩ := hv
      obtain ⟨f6, hv⟩ := hv
      obtain ⟨f7, hv⟩ := hv
      refine w_cSN0_4 (pc := 47) C cl_X3_49 ls_X9_compareFractions (by decide) dX3_tellExtreme_47 (Nat.le_of_ble_eq_true rfl) ((sf_X9_compareFractions (h := h) f4 f5 f6 f7).mono (fun v h9 hp => ?_))
      obtain ⟨e1, e2⟩ := hp
      rw [e1, e2]
      refine w_iload_n (pc := 50) C dX3_tellExtreme_50 rfl ?_
      refine w_imul (pc := 51) C dX3_tellExtreme_51 ?_
      refine w_if_le (pc := 52) C (tgt := 58) dX3_tellExtreme_52 (by decide) ?_
      obtain ⟨hv1, hv2⟩ := hv
      refine ⟨fun c8 => ?_, fun c8 => ?_⟩
      · have hv := hv1 c8
        refine w_iinc (pc := 58) C dX3_tellExtreme_58 rfl (by decide) ?_
        refine w_goto (pc := 61) C (tgt := 5) dX3_tellExtreme_61 (by decide) ?_
        refine w_sub ?_ hv
        exact ⟨rfl, rfl, rfl, rfl, rfl, trivial⟩
      · have hv := hv2 c8
        refine w_iload (pc := 55) C dX3_tellExtreme_55 rfl ?_
        refine w_istore_n (pc := 57) C dX3_tellExtreme_57 (by decide) ?_
        refine w_iinc (pc := 58) C dX3_tellExtreme_58 rfl (by decide) ?_
        refine w_goto (pc := 61) C (tgt := 5) dX3_tellExtreme_61 (by decide) ?_
        refine w_sub ?_ hv
        exact ⟨rfl, rfl, rfl, rfl, rfl, trivial⟩
set_option maxRecDepth 20000 in
set_option maxHeartbeats 2000000 in
theorem V_X3_tellExtreme_64 {X : Ctx} (C : C_X3_tellExtreme X) {k n : Nat} {Q : Pq} {h : Hp} {v0 v1 : Nat} {v3 : Int32}
    (hv : St3 h v0 ∧ inb v3 60 ∧ St8 h v1 ∧ S_X8_add (lX X) (dtX X) 0 0 [.ref v1, .long (gl h (v0 + 2) (ix v3))] h (QV fun h4 =>
    St3 h4 v0 ∧ inb v3 60 ∧ St8 h4 v1 ∧ S_X8_add (lX X) (dtX X) 0 0 [.ref v1, .long (gl h4 (v0 + 3) (ix v3))] h4 (QV fun h8 =>
    Q none h8))) :
    Wj X k n Q 64 [(0, .ref v0), (1, .ref v1), (3, .int v3)] [] h := by
  refine w_aload_n (pc := 64) C dX3_tellExtreme_64 rfl ?_
  refine w_aload_n (pc := 65) C dX3_tellExtreme_65 rfl ?_
  obtain ⟨f1, hv⟩ := hv
  refine w_getR (pc := 66) C fl_X3_22 rfl dX3_tellExtreme_66 (St3_k f1) (St3_r2 f1) ?_
  refine w_iload_n (pc := 69) C dX3_tellExtreme_69 rfl ?_
  obtain ⟨f2, hv⟩ := hv
  refine w_lald (pc := 70) C dX3_tellExtreme_70 (St3_k2 f1) (inbl (St3_l2 f1) f2) ?_
  obtain ⟨f3, hv⟩ := hv
  refine w_cV0_1 (pc := 71) C cl_X3_53 lv_X8_add (by decide) dX3_tellExtreme_71 (Nat.le_of_ble_eq_true rfl) (c := 8) rfl (St8_k f3) (hv.mono (fun v h4 hp => ?_))
  obtain ⟨rfl, hv⟩ := hp
  refine w_aload_n (pc := 74) C dX3_tellExtreme_74 rfl ?_
  refine w_aload_n (pc := 75) C dX3_tellExtreme_75 rfl ?_
  obtain ⟨f5, hv⟩ := hv
  refine w_getR (pc := 76) C fl_X3_26 rfl dX3_tellExtreme_76 (St3_k f5) (St3_r3 f5) ?_
  refine w_iload_n (pc := 79) C dX3_tellExtreme_79 rfl ?_
  obtain ⟨f6, hv⟩ := hv
  refine w_lald (pc := 80) C dX3_tellExtreme_80 (St3_k3 f5) (inbl (St3_l3 f5) f6) ?_
  obtain ⟨f7, hv⟩ := hv
  refine w_cV0_1 (pc := 81) C cl_X3_53 lv_X8_add (by decide) dX3_tellExtreme_81 (Nat.le_of_ble_eq_true rfl) (c := 8) rfl (St8_k f7) (hv.mono (fun v h8 hp => ?_))
  obtain ⟨rfl, hv⟩ := hp
  exact w_vret (pc := 84) C dX3_tellExtreme_84 hv
theorem dX10_laysGaps_0 : decode cX10_laysGaps 0 = .ok (.iconst 0, 1) := by decide +kernel
theorem dX10_laysGaps_1 : decode cX10_laysGaps 1 = .ok (.istore_n 1, 1) := by decide +kernel
theorem dX10_laysGaps_2 : decode cX10_laysGaps 2 = .ok (.iconst 0, 1) := by decide +kernel
theorem dX10_laysGaps_3 : decode cX10_laysGaps 3 = .ok (.istore_n 2, 1) := by decide +kernel
theorem dX10_laysGaps_4 : decode cX10_laysGaps 4 = .ok (.iconst 0, 1) := by decide +kernel
theorem dX10_laysGaps_5 : decode cX10_laysGaps 5 = .ok (.istore_n 3, 1) := by decide +kernel
theorem dX10_laysGaps_6 : decode cX10_laysGaps 6 = .ok (.iconst 0, 1) := by decide +kernel
theorem dX10_laysGaps_7 : decode cX10_laysGaps 7 = .ok (.istore 4, 2) := by decide +kernel
theorem dX10_laysGaps_9 : decode cX10_laysGaps 9 = .ok (.iload 4, 2) := by decide +kernel
theorem dX10_laysGaps_11 : decode cX10_laysGaps 11 = .ok (.aload_n 0, 1) := by decide +kernel
theorem dX10_laysGaps_12 : decode cX10_laysGaps 12 = .ok (.invokevirtual 378, 3) := by decide +kernel
theorem dX10_laysGaps_15 : decode cX10_laysGaps 15 = .ok (.if_icmp .ge 196, 3) := by decide +kernel
theorem dX10_laysGaps_18 : decode cX10_laysGaps 18 = .ok (.aload_n 0, 1) := by decide +kernel
theorem dX10_laysGaps_19 : decode cX10_laysGaps 19 = .ok (.iload 4, 2) := by decide +kernel
theorem dX10_laysGaps_21 : decode cX10_laysGaps 21 = .ok (.invokevirtual 415, 3) := by decide +kernel
theorem dX10_laysGaps_24 : decode cX10_laysGaps 24 = .ok (.aload_n 0, 1) := by decide +kernel
theorem dX10_laysGaps_25 : decode cX10_laysGaps 25 = .ok (.getfield 89, 3) := by decide +kernel
theorem dX10_laysGaps_28 : decode cX10_laysGaps 28 = .ok (.iconst 2, 1) := by decide +kernel
theorem dX10_laysGaps_29 : decode cX10_laysGaps 29 = .ok (.iload 4, 2) := by decide +kernel
theorem dX10_laysGaps_31 : decode cX10_laysGaps 31 = .ok (.imul, 1) := by decide +kernel
theorem dX10_laysGaps_32 : decode cX10_laysGaps 32 = .ok (.aload_n 0, 1) := by decide +kernel
theorem dX10_laysGaps_33 : decode cX10_laysGaps 33 = .ok (.getfield 409, 3) := by decide +kernel
theorem dX10_laysGaps_36 : decode cX10_laysGaps 36 = .ok (.lastore, 1) := by decide +kernel
theorem dX10_laysGaps_37 : decode cX10_laysGaps 37 = .ok (.aload_n 0, 1) := by decide +kernel
theorem dX10_laysGaps_38 : decode cX10_laysGaps 38 = .ok (.getfield 89, 3) := by decide +kernel
theorem dX10_laysGaps_41 : decode cX10_laysGaps 41 = .ok (.iconst 2, 1) := by decide +kernel
theorem dX10_laysGaps_42 : decode cX10_laysGaps 42 = .ok (.iload 4, 2) := by decide +kernel
theorem dX10_laysGaps_44 : decode cX10_laysGaps 44 = .ok (.imul, 1) := by decide +kernel
theorem dX10_laysGaps_45 : decode cX10_laysGaps 45 = .ok (.iconst 1, 1) := by decide +kernel
theorem dX10_laysGaps_46 : decode cX10_laysGaps 46 = .ok (.iadd, 1) := by decide +kernel
theorem dX10_laysGaps_47 : decode cX10_laysGaps 47 = .ok (.aload_n 0, 1) := by decide +kernel
theorem dX10_laysGaps_48 : decode cX10_laysGaps 48 = .ok (.getfield 412, 3) := by decide +kernel
theorem dX10_laysGaps_51 : decode cX10_laysGaps 51 = .ok (.lastore, 1) := by decide +kernel
theorem dX10_laysGaps_52 : decode cX10_laysGaps 52 = .ok (.iconst 1, 1) := by decide +kernel
theorem dX10_laysGaps_53 : decode cX10_laysGaps 53 = .ok (.istore 5, 2) := by decide +kernel
theorem dX10_laysGaps_55 : decode cX10_laysGaps 55 = .ok (.iconst 0, 1) := by decide +kernel
theorem dX10_laysGaps_56 : decode cX10_laysGaps 56 = .ok (.istore 6, 2) := by decide +kernel
theorem dX10_laysGaps_58 : decode cX10_laysGaps 58 = .ok (.iload 6, 2) := by decide +kernel
theorem dX10_laysGaps_60 : decode cX10_laysGaps 60 = .ok (.iload 4, 2) := by decide +kernel
theorem dX10_laysGaps_62 : decode cX10_laysGaps 62 = .ok (.if_icmp .ge 57, 3) := by decide +kernel
theorem dX10_laysGaps_65 : decode cX10_laysGaps 65 = .ok (.iload 5, 2) := by decide +kernel
theorem dX10_laysGaps_67 : decode cX10_laysGaps 67 = .ok (.ifCond .eq 43, 3) := by decide +kernel
theorem dX10_laysGaps_70 : decode cX10_laysGaps 70 = .ok (.aload_n 0, 1) := by decide +kernel
theorem dX10_laysGaps_71 : decode cX10_laysGaps 71 = .ok (.getfield 89, 3) := by decide +kernel
theorem dX10_laysGaps_74 : decode cX10_laysGaps 74 = .ok (.iconst 2, 1) := by decide +kernel
theorem dX10_laysGaps_75 : decode cX10_laysGaps 75 = .ok (.iload 6, 2) := by decide +kernel
theorem dX10_laysGaps_77 : decode cX10_laysGaps 77 = .ok (.imul, 1) := by decide +kernel
theorem dX10_laysGaps_78 : decode cX10_laysGaps 78 = .ok (.laload, 1) := by decide +kernel
theorem dX10_laysGaps_79 : decode cX10_laysGaps 79 = .ok (.aload_n 0, 1) := by decide +kernel
theorem dX10_laysGaps_80 : decode cX10_laysGaps 80 = .ok (.getfield 409, 3) := by decide +kernel
theorem dX10_laysGaps_83 : decode cX10_laysGaps 83 = .ok (.lcmp, 1) := by decide +kernel
theorem dX10_laysGaps_84 : decode cX10_laysGaps 84 = .ok (.ifCond .ne 22, 3) := by decide +kernel
theorem dX10_laysGaps_87 : decode cX10_laysGaps 87 = .ok (.aload_n 0, 1) := by decide +kernel
theorem dX10_laysGaps_88 : decode cX10_laysGaps 88 = .ok (.getfield 89, 3) := by decide +kernel
theorem dX10_laysGaps_91 : decode cX10_laysGaps 91 = .ok (.iconst 2, 1) := by decide +kernel
theorem dX10_laysGaps_92 : decode cX10_laysGaps 92 = .ok (.iload 6, 2) := by decide +kernel
theorem dX10_laysGaps_94 : decode cX10_laysGaps 94 = .ok (.imul, 1) := by decide +kernel
theorem dX10_laysGaps_95 : decode cX10_laysGaps 95 = .ok (.iconst 1, 1) := by decide +kernel
theorem dX10_laysGaps_96 : decode cX10_laysGaps 96 = .ok (.iadd, 1) := by decide +kernel
theorem dX10_laysGaps_97 : decode cX10_laysGaps 97 = .ok (.laload, 1) := by decide +kernel
theorem dX10_laysGaps_98 : decode cX10_laysGaps 98 = .ok (.aload_n 0, 1) := by decide +kernel
theorem dX10_laysGaps_99 : decode cX10_laysGaps 99 = .ok (.getfield 412, 3) := by decide +kernel
theorem dX10_laysGaps_102 : decode cX10_laysGaps 102 = .ok (.lcmp, 1) := by decide +kernel
theorem dX10_laysGaps_103 : decode cX10_laysGaps 103 = .ok (.ifCond .eq 7, 3) := by decide +kernel
theorem dX10_laysGaps_106 : decode cX10_laysGaps 106 = .ok (.iconst 1, 1) := by decide +kernel
theorem dX10_laysGaps_107 : decode cX10_laysGaps 107 = .ok (.goto 4, 3) := by decide +kernel
theorem dX10_laysGaps_110 : decode cX10_laysGaps 110 = .ok (.iconst 0, 1) := by decide +kernel
theorem dX10_laysGaps_111 : decode cX10_laysGaps 111 = .ok (.istore 5, 2) := by decide +kernel
theorem dX10_laysGaps_113 : decode cX10_laysGaps 113 = .ok (.iinc 6 1, 3) := by decide +kernel
theorem dX10_laysGaps_116 : decode cX10_laysGaps 116 = .ok (.goto (-58), 3) := by decide +kernel
theorem dX10_laysGaps_119 : decode cX10_laysGaps 119 = .ok (.iload_n 1, 1) := by decide +kernel
theorem dX10_laysGaps_120 : decode cX10_laysGaps 120 = .ok (.iload 5, 2) := by decide +kernel
theorem dX10_laysGaps_122 : decode cX10_laysGaps 122 = .ok (.invokestatic 39, 3) := by decide +kernel
theorem dX10_laysGaps_125 : decode cX10_laysGaps 125 = .ok (.iadd, 1) := by decide +kernel
theorem dX10_laysGaps_126 : decode cX10_laysGaps 126 = .ok (.istore_n 1, 1) := by decide +kernel
theorem dX10_laysGaps_127 : decode cX10_laysGaps 127 = .ok (.aload_n 0, 1) := by decide +kernel
theorem dX10_laysGaps_128 : decode cX10_laysGaps 128 = .ok (.getfield 409, 3) := by decide +kernel
theorem dX10_laysGaps_131 : decode cX10_laysGaps 131 = .ok (.aload_n 0, 1) := by decide +kernel
theorem dX10_laysGaps_132 : decode cX10_laysGaps 132 = .ok (.getfield 412, 3) := by decide +kernel
theorem dX10_laysGaps_135 : decode cX10_laysGaps 135 = .ok (.aload_n 0, 1) := by decide +kernel
theorem dX10_laysGaps_136 : decode cX10_laysGaps 136 = .ok (.getfield 89, 3) := by decide +kernel
theorem dX10_laysGaps_139 : decode cX10_laysGaps 139 = .ok (.iconst 2, 1) := by decide +kernel
theorem dX10_laysGaps_140 : decode cX10_laysGaps 140 = .ok (.iload_n 2, 1) := by decide +kernel
theorem dX10_laysGaps_141 : decode cX10_laysGaps 141 = .ok (.imul, 1) := by decide +kernel
theorem dX10_laysGaps_142 : decode cX10_laysGaps 142 = .ok (.laload, 1) := by decide +kernel
theorem dX10_laysGaps_143 : decode cX10_laysGaps 143 = .ok (.aload_n 0, 1) := by decide +kernel
theorem dX10_laysGaps_144 : decode cX10_laysGaps 144 = .ok (.getfield 89, 3) := by decide +kernel
theorem dX10_laysGaps_147 : decode cX10_laysGaps 147 = .ok (.iconst 2, 1) := by decide +kernel
theorem dX10_laysGaps_148 : decode cX10_laysGaps 148 = .ok (.iload_n 2, 1) := by decide +kernel
theorem dX10_laysGaps_149 : decode cX10_laysGaps 149 = .ok (.imul, 1) := by decide +kernel
theorem dX10_laysGaps_150 : decode cX10_laysGaps 150 = .ok (.iconst 1, 1) := by decide +kernel
theorem dX10_laysGaps_151 : decode cX10_laysGaps 151 = .ok (.iadd, 1) := by decide +kernel
theorem dX10_laysGaps_152 : decode cX10_laysGaps 152 = .ok (.laload, 1) := by decide +kernel
theorem dX10_laysGaps_153 : decode cX10_laysGaps 153 = .ok (.invokestatic 418, 3) := by decide +kernel
theorem dX10_laysGaps_156 : decode cX10_laysGaps 156 = .ok (.ifCond .eq 8, 3) := by decide +kernel
theorem dX10_laysGaps_159 : decode cX10_laysGaps 159 = .ok (.iload 4, 2) := by decide +kernel
theorem dX10_laysGaps_161 : decode cX10_laysGaps 161 = .ok (.goto 4, 3) := by decide +kernel
theorem dX10_laysGaps_164 : decode cX10_laysGaps 164 = .ok (.iload_n 2, 1) := by decide +kernel
theorem dX10_laysGaps_165 : decode cX10_laysGaps 165 = .ok (.istore_n 2, 1) := by decide +kernel
theorem dX10_laysGaps_166 : decode cX10_laysGaps 166 = .ok (.aload_n 0, 1) := by decide +kernel
theorem dX10_laysGaps_167 : decode cX10_laysGaps 167 = .ok (.getfield 89, 3) := by decide +kernel
theorem dX10_laysGaps_170 : decode cX10_laysGaps 170 = .ok (.iconst 2, 1) := by decide +kernel
theorem dX10_laysGaps_171 : decode cX10_laysGaps 171 = .ok (.iload_n 3, 1) := by decide +kernel
theorem dX10_laysGaps_172 : decode cX10_laysGaps 172 = .ok (.imul, 1) := by decide +kernel
theorem dX10_laysGaps_173 : decode cX10_laysGaps 173 = .ok (.laload, 1) := by decide +kernel
theorem dX10_laysGaps_174 : decode cX10_laysGaps 174 = .ok (.aload_n 0, 1) := by decide +kernel
theorem dX10_laysGaps_175 : decode cX10_laysGaps 175 = .ok (.getfield 89, 3) := by decide +kernel
theorem dX10_laysGaps_178 : decode cX10_laysGaps 178 = .ok (.iconst 2, 1) := by decide +kernel
theorem dX10_laysGaps_179 : decode cX10_laysGaps 179 = .ok (.iload_n 3, 1) := by decide +kernel
theorem dX10_laysGaps_180 : decode cX10_laysGaps 180 = .ok (.imul, 1) := by decide +kernel
theorem dX10_laysGaps_181 : decode cX10_laysGaps 181 = .ok (.iconst 1, 1) := by decide +kernel
theorem dX10_laysGaps_182 : decode cX10_laysGaps 182 = .ok (.iadd, 1) := by decide +kernel
theorem dX10_laysGaps_183 : decode cX10_laysGaps 183 = .ok (.laload, 1) := by decide +kernel
theorem dX10_laysGaps_184 : decode cX10_laysGaps 184 = .ok (.aload_n 0, 1) := by decide +kernel
theorem dX10_laysGaps_185 : decode cX10_laysGaps 185 = .ok (.getfield 409, 3) := by decide +kernel
theorem dX10_laysGaps_188 : decode cX10_laysGaps 188 = .ok (.aload_n 0, 1) := by decide +kernel
theorem dX10_laysGaps_189 : decode cX10_laysGaps 189 = .ok (.getfield 412, 3) := by decide +kernel
theorem dX10_laysGaps_192 : decode cX10_laysGaps 192 = .ok (.invokestatic 418, 3) := by decide +kernel
theorem dX10_laysGaps_195 : decode cX10_laysGaps 195 = .ok (.ifCond .eq 8, 3) := by decide +kernel
theorem dX10_laysGaps_198 : decode cX10_laysGaps 198 = .ok (.iload 4, 2) := by decide +kernel
theorem dX10_laysGaps_200 : decode cX10_laysGaps 200 = .ok (.goto 4, 3) := by decide +kernel
theorem dX10_laysGaps_203 : decode cX10_laysGaps 203 = .ok (.iload_n 3, 1) := by decide +kernel
theorem dX10_laysGaps_204 : decode cX10_laysGaps 204 = .ok (.istore_n 3, 1) := by decide +kernel
theorem dX10_laysGaps_205 : decode cX10_laysGaps 205 = .ok (.iinc 4 1, 3) := by decide +kernel
theorem dX10_laysGaps_208 : decode cX10_laysGaps 208 = .ok (.goto (-199), 3) := by decide +kernel
theorem dX10_laysGaps_211 : decode cX10_laysGaps 211 = .ok (.aload_n 0, 1) := by decide +kernel
theorem dX10_laysGaps_212 : decode cX10_laysGaps 212 = .ok (.aload_n 0, 1) := by decide +kernel
theorem dX10_laysGaps_213 : decode cX10_laysGaps 213 = .ok (.getfield 89, 3) := by decide +kernel
theorem dX10_laysGaps_216 : decode cX10_laysGaps 216 = .ok (.iconst 2, 1) := by decide +kernel
theorem dX10_laysGaps_217 : decode cX10_laysGaps 217 = .ok (.iload_n 2, 1) := by decide +kernel
theorem dX10_laysGaps_218 : decode cX10_laysGaps 218 = .ok (.imul, 1) := by decide +kernel
theorem dX10_laysGaps_219 : decode cX10_laysGaps 219 = .ok (.laload, 1) := by decide +kernel
theorem dX10_laysGaps_220 : decode cX10_laysGaps 220 = .ok (.invokevirtual 18, 3) := by decide +kernel
theorem dX10_laysGaps_223 : decode cX10_laysGaps 223 = .ok (.aload_n 0, 1) := by decide +kernel
theorem dX10_laysGaps_224 : decode cX10_laysGaps 224 = .ok (.aload_n 0, 1) := by decide +kernel
theorem dX10_laysGaps_225 : decode cX10_laysGaps 225 = .ok (.getfield 89, 3) := by decide +kernel
theorem dX10_laysGaps_228 : decode cX10_laysGaps 228 = .ok (.iconst 2, 1) := by decide +kernel
theorem dX10_laysGaps_229 : decode cX10_laysGaps 229 = .ok (.iload_n 2, 1) := by decide +kernel
theorem dX10_laysGaps_230 : decode cX10_laysGaps 230 = .ok (.imul, 1) := by decide +kernel
theorem dX10_laysGaps_231 : decode cX10_laysGaps 231 = .ok (.iconst 1, 1) := by decide +kernel
theorem dX10_laysGaps_232 : decode cX10_laysGaps 232 = .ok (.iadd, 1) := by decide +kernel
theorem dX10_laysGaps_233 : decode cX10_laysGaps 233 = .ok (.laload, 1) := by decide +kernel
theorem dX10_laysGaps_234 : decode cX10_laysGaps 234 = .ok (.invokevirtual 18, 3) := by decide +kernel
theorem dX10_laysGaps_237 : decode cX10_laysGaps 237 = .ok (.aload_n 0, 1) := by decide +kernel
theorem dX10_laysGaps_238 : decode cX10_laysGaps 238 = .ok (.aload_n 0, 1) := by decide +kernel
theorem dX10_laysGaps_239 : decode cX10_laysGaps 239 = .ok (.getfield 89, 3) := by decide +kernel
theorem dX10_laysGaps_242 : decode cX10_laysGaps 242 = .ok (.iconst 2, 1) := by decide +kernel
theorem dX10_laysGaps_243 : decode cX10_laysGaps 243 = .ok (.iload_n 3, 1) := by decide +kernel
theorem dX10_laysGaps_244 : decode cX10_laysGaps 244 = .ok (.imul, 1) := by decide +kernel
theorem dX10_laysGaps_245 : decode cX10_laysGaps 245 = .ok (.laload, 1) := by decide +kernel
theorem dX10_laysGaps_246 : decode cX10_laysGaps 246 = .ok (.invokevirtual 18, 3) := by decide +kernel
theorem dX10_laysGaps_249 : decode cX10_laysGaps 249 = .ok (.aload_n 0, 1) := by decide +kernel
theorem dX10_laysGaps_250 : decode cX10_laysGaps 250 = .ok (.aload_n 0, 1) := by decide +kernel
theorem dX10_laysGaps_251 : decode cX10_laysGaps 251 = .ok (.getfield 89, 3) := by decide +kernel
theorem dX10_laysGaps_254 : decode cX10_laysGaps 254 = .ok (.iconst 2, 1) := by decide +kernel
theorem dX10_laysGaps_255 : decode cX10_laysGaps 255 = .ok (.iload_n 3, 1) := by decide +kernel
theorem dX10_laysGaps_256 : decode cX10_laysGaps 256 = .ok (.imul, 1) := by decide +kernel
theorem dX10_laysGaps_257 : decode cX10_laysGaps 257 = .ok (.iconst 1, 1) := by decide +kernel
theorem dX10_laysGaps_258 : decode cX10_laysGaps 258 = .ok (.iadd, 1) := by decide +kernel
theorem dX10_laysGaps_259 : decode cX10_laysGaps 259 = .ok (.laload, 1) := by decide +kernel
theorem dX10_laysGaps_260 : decode cX10_laysGaps 260 = .ok (.invokevirtual 18, 3) := by decide +kernel
theorem dX10_laysGaps_263 : decode cX10_laysGaps 263 = .ok (.iload_n 1, 1) := by decide +kernel
theorem dX10_laysGaps_264 : decode cX10_laysGaps 264 = .ok (.ireturn, 1) := by decide +kernel
set_option maxRecDepth 20000 in
set_option maxHeartbeats 2000000 in
theorem V_X10_laysGaps_0 {X : Ctx} (C : C_X10_laysGaps X) {k n : Nat} {Q : Pq} {h : Hp} {v0 : Nat}
    (hv : Wj X k n Q 9 [(0, .ref v0), (1, .int 0), (2, .int 0), (3, .int 0), (4, .int 0)] [] h) :
    Wj X k n Q 0 [(0, .ref v0)] [] h := by
  refine w_iconst (pc := 0) C (v := 0) dX10_laysGaps_0 (by decide) ?_
  refine w_istore_n (pc := 1) C dX10_laysGaps_1 (by decide) ?_
  refine w_iconst (pc := 2) C (v := 0) dX10_laysGaps_2 (by decide) ?_
  refine w_istore_n (pc := 3) C dX10_laysGaps_3 (by decide) ?_
  refine w_iconst (pc := 4) C (v := 0) dX10_laysGaps_4 (by decide) ?_
  refine w_istore_n (pc := 5) C dX10_laysGaps_5 (by decide) ?_
  refine w_iconst (pc := 6) C (v := 0) dX10_laysGaps_6 (by decide) ?_
  refine w_istore (pc := 7) C dX10_laysGaps_7 (by decide) ?_
  refine w_sub ?_ hv
  exact ⟨rfl, rfl, rfl, rfl, rfl, trivial⟩
set_option maxRecDepth 20000 in
set_option maxHeartbeats 2000000 in
theorem V_X10_laysGaps_9 {X : Ctx} (C : C_X10_laysGaps X) {k n : Nat} {Q : Pq} {h : Hp} {v0 : Nat} {v1 v2 v3 v4 : Int32}
    (hv : St10 h v0 ∧ (((gi h (v0 + 3) (ix 60)) ≤ v4 → inb (2 * v2) 120 ∧ S_X10_enters (lX X) (dtX X) 0 0 [.ref v0, .long (gl h (v0 + 10) (ix (2 * v2)))] h (QV fun h3 =>
    St10 h3 v0 ∧ inb ((2 * v2) + 1) 120 ∧ S_X10_enters (lX X) (dtX X) 0 0 [.ref v0, .long (gl h3 (v0 + 10) (ix ((2 * v2) + 1)))] h3 (QV fun h6 =>
    St10 h6 v0 ∧ inb (2 * v3) 120 ∧ S_X10_enters (lX X) (dtX X) 0 0 [.ref v0, .long (gl h6 (v0 + 10) (ix (2 * v3)))] h6 (QV fun h9 =>
    St10 h9 v0 ∧ inb ((2 * v3) + 1) 120 ∧ S_X10_enters (lX X) (dtX X) 0 0 [.ref v0, .long (gl h9 (v0 + 10) (ix ((2 * v3) + 1)))] h9 (QV fun h12 =>
    Q (some (.int v1)) h12))))) ∧
    (¬ (gi h (v0 + 3) (ix 60)) ≤ v4 → S_X10_laysGap (lX X) (dtX X) 0 0 [.ref v0, .int v4] h (QV fun h13 =>
    St10 h13 v0 ∧ inb (2 * v4) 120 ∧ inb ((2 * v4) + 1) 120 ∧ Wj X k n Q 58 [(0, .ref v0), (1, .int v1), (2, .int v2), (3, .int v3), (4, .int v4), (5, .int 1), (6, .int 0)] [] (sl (sl h13 (v0 + 10) (ix (2 * v4)) (gl h13 v0 33)) (v0 + 10) (ix ((2 * v4) + 1)) (gl (sl h13 (v0 + 10) (ix (2 * v4)) (gl h13 v0 33)) v0 34)))))) :
    Wj X k n Q 9 [(0, .ref v0), (1, .int v1), (2, .int v2), (3, .int v3), (4, .int v4)] [] h := by
  refine w_iload (pc := 9) C dX10_laysGaps_9 rfl ?_
  refine w_aload_n (pc := 11) C dX10_laysGaps_11 rfl ?_
  obtain ⟨f1, hv⟩ := hv
  refine w_cV0_0 (pc := 12) C cl_X10_378 lv_X10_marks (by decide) dX10_laysGaps_12 (Nat.le_of_ble_eq_true rfl) (c := 10) rfl (St10_k f1) ((sf_X10_marks (h := h) f1).mono (fun v h9 hp => ?_))
  obtain ⟨e1, e2⟩ := hp
  rw [e1, e2]
  refine w_icmp_ge (pc := 15) C (tgt := 211) dX10_laysGaps_15 (by decide) ?_
  obtain ⟨hv1, hv2⟩ := hv
  refine ⟨fun c17 => ?_, fun c17 => ?_⟩
  · have hv := hv1 c17
    refine w_aload_n (pc := 211) C dX10_laysGaps_211 rfl ?_
    refine w_aload_n (pc := 212) C dX10_laysGaps_212 rfl ?_
    refine w_getR (pc := 213) C fl_X10_89 rfl dX10_laysGaps_213 (St10_k f1) (St10_r35 f1) ?_
    refine w_iconst (pc := 216) C (v := 2) dX10_laysGaps_216 (by decide) ?_
    refine w_iload_n (pc := 217) C dX10_laysGaps_217 rfl ?_
    refine w_imul (pc := 218) C dX10_laysGaps_218 ?_
    obtain ⟨f2, hv⟩ := hv
    refine w_lald (pc := 219) C dX10_laysGaps_219 (St10_k35 f1) (inbl (St10_l35 f1) f2) ?_
    refine w_cV0_1 (pc := 220) C cl_X10_18 lv_X10_enters (by decide) dX10_laysGaps_220 (Nat.le_of_ble_eq_true rfl) (c := 10) rfl (St10_k f1) (hv.mono (fun v h3 hp => ?_))
    obtain ⟨rfl, hv⟩ := hp
    refine w_aload_n (pc := 223) C dX10_laysGaps_223 rfl ?_
    refine w_aload_n (pc := 224) C dX10_laysGaps_224 rfl ?_
    obtain ⟨f4, hv⟩ := hv
    refine w_getR (pc := 225) C fl_X10_89 rfl dX10_laysGaps_225 (St10_k f4) (St10_r35 f4) ?_
    refine w_iconst (pc := 228) C (v := 2) dX10_laysGaps_228 (by decide) ?_
    refine w_iload_n (pc := 229) C dX10_laysGaps_229 rfl ?_
    refine w_imul (pc := 230) C dX10_laysGaps_230 ?_
    refine w_iconst (pc := 231) C (v := 1) dX10_laysGaps_231 (by decide) ?_
    refine w_iadd (pc := 232) C dX10_laysGaps_232 ?_
    obtain ⟨f5, hv⟩ := hv
    refine w_lald (pc := 233) C dX10_laysGaps_233 (St10_k35 f4) (inbl (St10_l35 f4) f5) ?_
    refine w_cV0_1 (pc := 234) C cl_X10_18 lv_X10_enters (by decide) dX10_laysGaps_234 (Nat.le_of_ble_eq_true rfl) (c := 10) rfl (St10_k f4) (hv.mono (fun v h6 hp => ?_))
    obtain ⟨rfl, hv⟩ := hp
    refine w_aload_n (pc := 237) C dX10_laysGaps_237 rfl ?_
    refine w_aload_n (pc := 238) C dX10_laysGaps_238 rfl ?_
    obtain ⟨f7, hv⟩ := hv
    refine w_getR (pc := 239) C fl_X10_89 rfl dX10_laysGaps_239 (St10_k f7) (St10_r35 f7) ?_
    refine w_iconst (pc := 242) C (v := 2) dX10_laysGaps_242 (by decide) ?_
    refine w_iload_n (pc := 243) C dX10_laysGaps_243 rfl ?_
    refine w_imul (pc := 244) C dX10_laysGaps_244 ?_
    obtain ⟨f8, hv⟩ := hv
    refine w_lald (pc := 245) C dX10_laysGaps_245 (St10_k35 f7) (inbl (St10_l35 f7) f8) ?_
    refine w_cV0_1 (pc := 246) C cl_X10_18 lv_X10_enters (by decide) dX10_laysGaps_246 (Nat.le_of_ble_eq_true rfl) (c := 10) rfl (St10_k f7) (hv.mono (fun v h9 hp => ?_))
    obtain ⟨rfl, hv⟩ := hp
    refine w_aload_n (pc := 249) C dX10_laysGaps_249 rfl ?_
    refine w_aload_n (pc := 250) C dX10_laysGaps_250 rfl ?_
    obtain ⟨f10, hv⟩ := hv
    refine w_getR (pc := 251) C fl_X10_89 rfl dX10_laysGaps_251 (St10_k f10) (St10_r35 f10) ?_
    refine w_iconst (pc := 254) C (v := 2) dX10_laysGaps_254 (by decide) ?_
    refine w_iload_n (pc := 255) C dX10_laysGaps_255 rfl ?_
    refine w_imul (pc := 256) C dX10_laysGaps_256 ?_
    refine w_iconst (pc := 257) C (v := 1) dX10_laysGaps_257 (by decide) ?_
    refine w_iadd (pc := 258) C dX10_laysGaps_258 ?_
    obtain ⟨f11, hv⟩ := hv
    refine w_lald (pc := 259) C dX10_laysGaps_259 (St10_k35 f10) (inbl (St10_l35 f10) f11) ?_
    refine w_cV0_1 (pc := 260) C cl_X10_18 lv_X10_enters (by decide) dX10_laysGaps_260 (Nat.le_of_ble_eq_true rfl) (c := 10) rfl (St10_k f10) (hv.mono (fun v h12 hp => ?_))
    obtain ⟨rfl, hv⟩ := hp
    refine w_iload_n (pc := 263) C dX10_laysGaps_263 rfl ?_
    exact w_iret (pc := 264) C dX10_laysGaps_264 hv
  · have hv := hv2 c17
    refine w_aload_n (pc := 18) C dX10_laysGaps_18 rfl ?_
    refine w_iload (pc := 19) C dX10_laysGaps_19 rfl ?_
    refine w_cV0_1 (pc := 21) C cl_X10_415 lv_X10_laysGap (by decide) dX10_laysGaps_21 (Nat.le_of_ble_eq_true rfl) (c := 10) rfl (St10_k f1) (hv.mono (fun v h13 hp => ?_))
    obtain ⟨rfl, hv⟩ := hp
    refine w_aload_n (pc := 24) C dX10_laysGaps_24 rfl ?_
    obtain ⟨f14, hv⟩ := hv
    refine w_getR (pc := 25) C fl_X10_89 rfl dX10_laysGaps_25 (St10_k f14) (St10_r35 f14) ?_
    refine w_iconst (pc := 28) C (v := 2) dX10_laysGaps_28 (by decide) ?_
    refine w_iload (pc := 29) C dX10_laysGaps_29 rfl ?_
    refine w_imul (pc := 31) C dX10_laysGaps_31 ?_
    refine w_aload_n (pc := 32) C dX10_laysGaps_32 rfl ?_
    refine w_getL (pc := 33) C fl_X10_409 rfl dX10_laysGaps_33 (St10_k f14) ?_
    obtain ⟨f15, hv⟩ := hv
    refine w_last (pc := 36) C dX10_laysGaps_36 (St10_k35 f14) (inbl (St10_l35 f14) f15) ?_
    refine w_aload_n (pc := 37) C dX10_laysGaps_37 rfl ?_
    refine w_getR (pc := 38) C fl_X10_89 rfl dX10_laysGaps_38 (St10_k f14) (St10_r35 f14) ?_
    refine w_iconst (pc := 41) C (v := 2) dX10_laysGaps_41 (by decide) ?_
    refine w_iload (pc := 42) C dX10_laysGaps_42 rfl ?_
    refine w_imul (pc := 44) C dX10_laysGaps_44 ?_
    refine w_iconst (pc := 45) C (v := 1) dX10_laysGaps_45 (by decide) ?_
    refine w_iadd (pc := 46) C dX10_laysGaps_46 ?_
    refine w_aload_n (pc := 47) C dX10_laysGaps_47 rfl ?_
    refine w_getL (pc := 48) C fl_X10_412 rfl dX10_laysGaps_48 (St10_k f14) ?_
    obtain ⟨f16, hv⟩ := hv
    refine w_last (pc := 51) C dX10_laysGaps_51 (St10_k35 f14) (inbl (St10_l35 f14) f16) ?_
    refine w_iconst (pc := 52) C (v := 1) dX10_laysGaps_52 (by decide) ?_
    refine w_istore (pc := 53) C dX10_laysGaps_53 (by decide) ?_
    refine w_iconst (pc := 55) C (v := 0) dX10_laysGaps_55 (by decide) ?_
    refine w_istore (pc := 56) C dX10_laysGaps_56 (by decide) ?_
    refine w_sub ?_ hv
    exact ⟨rfl, rfl, rfl, rfl, rfl, rfl, rfl, trivial⟩
set_option maxRecDepth 20000 in
set_option maxHeartbeats 2000000 in
theorem V_X10_laysGaps_58 {X : Ctx} (C : C_X10_laysGaps X) {k n : Nat} {Q : Pq} {h : Hp} {v0 : Nat} {v1 v2 v3 v4 v5 v6 : Int32}
    (hv : ((v4 ≤ v6 → St10 h v0 ∧ inb (2 * v2) 120 ∧ inb ((2 * v2) + 1) 120 ∧ 0 ≤ (Int64.toInt (gl h v0 33)) ∧ 0 < (Int64.toInt (gl h v0 34)) ∧ 0 ≤ (Int64.toInt (gl h (v0 + 10) (ix (2 * v2)))) ∧ 0 < (Int64.toInt (gl h (v0 + 10) (ix ((2 * v2) + 1)))) ∧ (((blw (Int64.toInt (gl h v0 33)) (Int64.toInt (gl h v0 34)) (Int64.toInt (gl h (v0 + 10) (ix (2 * v2)))) (Int64.toInt (gl h (v0 + 10) (ix ((2 * v2) + 1))))) = 0 → Wj X k n Q 165 [(0, .ref v0), (1, .int (v1 + (flg v5))), (3, .int v3), (4, .int v4)] [.int v2] h) ∧
    (¬ (blw (Int64.toInt (gl h v0 33)) (Int64.toInt (gl h v0 34)) (Int64.toInt (gl h (v0 + 10) (ix (2 * v2)))) (Int64.toInt (gl h (v0 + 10) (ix ((2 * v2) + 1))))) = 0 → Wj X k n Q 165 [(0, .ref v0), (1, .int (v1 + (flg v5))), (3, .int v3), (4, .int v4)] [.int v4] h))) ∧
    (¬ v4 ≤ v6 → ((v5 = 0 → Wj X k n Q 58 [(0, .ref v0), (1, .int v1), (2, .int v2), (3, .int v3), (4, .int v4), (5, .int 0), (6, .int (v6 + Int32.ofInt 1))] [] h) ∧
    (¬ v5 = 0 → St10 h v0 ∧ inb (2 * v6) 120 ∧ ((¬ (gl h (v0 + 10) (ix (2 * v6))) = (gl h v0 33) → Wj X k n Q 58 [(0, .ref v0), (1, .int v1), (2, .int v2), (3, .int v3), (4, .int v4), (5, .int 1), (6, .int (v6 + Int32.ofInt 1))] [] h) ∧
    ((gl h (v0 + 10) (ix (2 * v6))) = (gl h v0 33) → inb ((2 * v6) + 1) 120 ∧ (((gl h (v0 + 10) (ix ((2 * v6) + 1))) = (gl h v0 34) → Wj X k n Q 58 [(0, .ref v0), (1, .int v1), (2, .int v2), (3, .int v3), (4, .int v4), (5, .int 0), (6, .int (v6 + Int32.ofInt 1))] [] h) ∧
    (¬ (gl h (v0 + 10) (ix ((2 * v6) + 1))) = (gl h v0 34) → Wj X k n Q 58 [(0, .ref v0), (1, .int v1), (2, .int v2), (3, .int v3), (4, .int v4), (5, .int 1), (6, .int (v6 + Int32.ofInt 1))] [] h))))))))) :
    Wj X k n Q 58 [(0, .ref v0), (1, .int v1), (2, .int v2), (3, .int v3), (4, .int v4), (5, .int v5), (6, .int v6)] [] h := by
  refine w_iload (pc := 58) C dX10_laysGaps_58 rfl ?_
  refine w_iload (pc := 60) C dX10_laysGaps_60 rfl ?_
  refine w_icmp_ge (pc := 62) C (tgt := 119) dX10_laysGaps_62 (by decide) ?_
  obtain ⟨hv1, hv2⟩ := hv
  refine ⟨fun c15 => ?_, fun c15 => ?_⟩
  · have hv := hv1 c15
    refine w_iload_n (pc := 119) C dX10_laysGaps_119 rfl ?_
    refine w_iload (pc := 120) C dX10_laysGaps_120 rfl ?_
    refine w_cS0_1 (pc := 122) C cl_X10_39 ls_X10_flag (by decide) dX10_laysGaps_122 (Nat.le_of_ble_eq_true rfl) ((sf_X10_flag (h := h) ).mono (fun v h9 hp => ?_))
    obtain ⟨e1, e2⟩ := hp
    rw [e1, e2]
    refine w_iadd (pc := 125) C dX10_laysGaps_125 ?_
    refine w_istore_n (pc := 126) C dX10_laysGaps_126 (by decide) ?_
    refine w_aload_n (pc := 127) C dX10_laysGaps_127 rfl ?_
    obtain ⟨f1, hv⟩ := hv
    refine w_getL (pc := 128) C fl_X10_409 rfl dX10_laysGaps_128 (St10_k f1) ?_
    refine w_aload_n (pc := 131) C dX10_laysGaps_131 rfl ?_
    refine w_getL (pc := 132) C fl_X10_412 rfl dX10_laysGaps_132 (St10_k f1) ?_
    refine w_aload_n (pc := 135) C dX10_laysGaps_135 rfl ?_
    refine w_getR (pc := 136) C fl_X10_89 rfl dX10_laysGaps_136 (St10_k f1) (St10_r35 f1) ?_
    refine w_iconst (pc := 139) C (v := 2) dX10_laysGaps_139 (by decide) ?_
    refine w_iload_n (pc := 140) C dX10_laysGaps_140 rfl ?_
    refine w_imul (pc := 141) C dX10_laysGaps_141 ?_
    obtain ⟨f2, hv⟩ := hv
    refine w_lald (pc := 142) C dX10_laysGaps_142 (St10_k35 f1) (inbl (St10_l35 f1) f2) ?_
    refine w_aload_n (pc := 143) C dX10_laysGaps_143 rfl ?_
    refine w_getR (pc := 144) C fl_X10_89 rfl dX10_laysGaps_144 (St10_k f1) (St10_r35 f1) ?_
    refine w_iconst (pc := 147) C (v := 2) dX10_laysGaps_147 (by decide) ?_
    refine w_iload_n (pc := 148) C dX10_laysGaps_148 rfl ?_
    refine w_imul (pc := 149) C dX10_laysGaps_149 ?_
    refine w_iconst (pc := 150) C (v := 1) dX10_laysGaps_150 (by decide) ?_
    refine w_iadd (pc := 151) C dX10_laysGaps_151 ?_
    obtain ⟨f3, hv⟩ := hv
    refine w_lald (pc := 152) C dX10_laysGaps_152 (St10_k35 f1) (inbl (St10_l35 f1) f3) ?_
    obtain ⟨f4, hv⟩ := hv
    obtain ⟨f5, hv⟩ := hv
    obtain ⟨f6, hv⟩ := hv
    obtain ⟨f7, hv⟩ := hv
    refine w_cS0_4 (pc := 153) C cl_X10_418 ls_X10_isBelow (by decide) dX10_laysGaps_153 (Nat.le_of_ble_eq_true rfl) ((sf_X10_isBelow (h := h) f4 f5 f6 f7).mono (fun v h9 hp => ?_))
    obtain ⟨e1, e2⟩ := hp
    rw [e1, e2]
    refine w_if_eq (pc := 156) C (tgt := 164) dX10_laysGaps_156 (by decide) ?_
    obtain ⟨hv1, hv2⟩ := hv
    refine ⟨fun c8 => ?_, fun c8 => ?_⟩
    · have hv := hv1 c8
      refine w_iload_n (pc := 164) C dX10_laysGaps_164 rfl ?_
      refine w_sub ?_ hv
      exact ⟨rfl, rfl, rfl, rfl, trivial⟩
    · have hv := hv2 c8
      refine w_iload (pc := 159) C dX10_laysGaps_159 rfl ?_
      refine w_goto (pc := 161) C (tgt := 165) dX10_laysGaps_161 (by decide) ?_
      refine w_sub ?_ hv
      exact ⟨rfl, rfl, rfl, rfl, trivial⟩
  · have hv := hv2 c15
    refine w_iload (pc := 65) C dX10_laysGaps_65 rfl ?_
    refine w_if_eq (pc := 67) C (tgt := 110) dX10_laysGaps_67 (by decide) ?_
    obtain ⟨hv1, hv2⟩ := hv
    refine ⟨fun c14 => ?_, fun c14 => ?_⟩
    · have hv := hv1 c14
      refine w_iconst (pc := 110) C (v := 0) dX10_laysGaps_110 (by decide) ?_
      refine w_istore (pc := 111) C dX10_laysGaps_111 (by decide) ?_
      refine w_iinc (pc := 113) C dX10_laysGaps_113 rfl (by decide) ?_
      refine w_goto (pc := 116) C (tgt := 58) dX10_laysGaps_116 (by decide) ?_
      refine w_sub ?_ hv
      exact ⟨rfl, rfl, rfl, rfl, rfl, rfl, rfl, trivial⟩
    · have hv := hv2 c14
      refine w_aload_n (pc := 70) C dX10_laysGaps_70 rfl ?_
      obtain ⟨f9, hv⟩ := hv
      refine w_getR (pc := 71) C fl_X10_89 rfl dX10_laysGaps_71 (St10_k f9) (St10_r35 f9) ?_
      refine w_iconst (pc := 74) C (v := 2) dX10_laysGaps_74 (by decide) ?_
      refine w_iload (pc := 75) C dX10_laysGaps_75 rfl ?_
      refine w_imul (pc := 77) C dX10_laysGaps_77 ?_
      obtain ⟨f10, hv⟩ := hv
      refine w_lald (pc := 78) C dX10_laysGaps_78 (St10_k35 f9) (inbl (St10_l35 f9) f10) ?_
      refine w_aload_n (pc := 79) C dX10_laysGaps_79 rfl ?_
      refine w_getL (pc := 80) C fl_X10_409 rfl dX10_laysGaps_80 (St10_k f9) ?_
      refine w_lcmp_ne (pc := 83) C (tgt := 106) dX10_laysGaps_83 dX10_laysGaps_84 (by decide) ?_
      obtain ⟨hv1, hv2⟩ := hv
      refine ⟨fun c13 => ?_, fun c13 => ?_⟩
      · have hv := hv1 c13
        refine w_iconst (pc := 106) C (v := 1) dX10_laysGaps_106 (by decide) ?_
        refine w_goto (pc := 107) C (tgt := 111) dX10_laysGaps_107 (by decide) ?_
        refine w_istore (pc := 111) C dX10_laysGaps_111 (by decide) ?_
        refine w_iinc (pc := 113) C dX10_laysGaps_113 rfl (by decide) ?_
        refine w_goto (pc := 116) C (tgt := 58) dX10_laysGaps_116 (by decide) ?_
        refine w_sub ?_ hv
        exact ⟨rfl, rfl, rfl, rfl, rfl, rfl, rfl, trivial⟩
      · have hv := hv2 c13
        refine w_aload_n (pc := 87) C dX10_laysGaps_87 rfl ?_
        refine w_getR (pc := 88) C fl_X10_89 rfl dX10_laysGaps_88 (St10_k f9) (St10_r35 f9) ?_
        refine w_iconst (pc := 91) C (v := 2) dX10_laysGaps_91 (by decide) ?_
        refine w_iload (pc := 92) C dX10_laysGaps_92 rfl ?_
        refine w_imul (pc := 94) C dX10_laysGaps_94 ?_
        refine w_iconst (pc := 95) C (v := 1) dX10_laysGaps_95 (by decide) ?_
        refine w_iadd (pc := 96) C dX10_laysGaps_96 ?_
        obtain ⟨f11, hv⟩ := hv
        refine w_lald (pc := 97) C dX10_laysGaps_97 (St10_k35 f9) (inbl (St10_l35 f9) f11) ?_
        refine w_aload_n (pc := 98) C dX10_laysGaps_98 rfl ?_
        refine w_getL (pc := 99) C fl_X10_412 rfl dX10_laysGaps_99 (St10_k f9) ?_
        refine w_lcmp_eq (pc := 102) C (tgt := 110) dX10_laysGaps_102 dX10_laysGaps_103 (by decide) ?_
        obtain ⟨hv1, hv2⟩ := hv
        refine ⟨fun c12 => ?_, fun c12 => ?_⟩
        · have hv := hv1 c12
          refine w_iconst (pc := 110) C (v := 0) dX10_laysGaps_110 (by decide) ?_
          refine w_istore (pc := 111) C dX10_laysGaps_111 (by decide) ?_
          refine w_iinc (pc := 113) C dX10_laysGaps_113 rfl (by decide) ?_
          refine w_goto (pc := 116) C (tgt := 58) dX10_laysGaps_116 (by decide) ?_
          refine w_sub ?_ hv
          exact ⟨rfl, rfl, rfl, rfl, rfl, rfl, rfl, trivial⟩
        · have hv := hv2 c12
          refine w_iconst (pc := 106) C (v := 1) dX10_laysGaps_106 (by decide) ?_
          refine w_goto (pc := 107) C (tgt := 111) dX10_laysGaps_107 (by decide) ?_
          refine w_istore (pc := 111) C dX10_laysGaps_111 (by decide) ?_
          refine w_iinc (pc := 113) C dX10_laysGaps_113 rfl (by decide) ?_
          refine w_goto (pc := 116) C (tgt := 58) dX10_laysGaps_116 (by decide) ?_
          refine w_sub ?_ hv
          exact ⟨rfl, rfl, rfl, rfl, rfl, rfl, rfl, trivial⟩
set_option maxRecDepth 20000 in
set_option maxHeartbeats 2000000 in
theorem V_X10_laysGaps_165 {X : Ctx} (C : C_X10_laysGaps X) {k n : Nat} {Q : Pq} {h : Hp} {v0 : Nat} {v3 v4 v1 s0 : Int32}
    (hv : St10 h v0 ∧ inb (2 * v3) 120 ∧ inb ((2 * v3) + 1) 120 ∧ 0 ≤ (Int64.toInt (gl h (v0 + 10) (ix (2 * v3)))) ∧ 0 < (Int64.toInt (gl h (v0 + 10) (ix ((2 * v3) + 1)))) ∧ 0 ≤ (Int64.toInt (gl h v0 33)) ∧ 0 < (Int64.toInt (gl h v0 34)) ∧ (((blw (Int64.toInt (gl h (v0 + 10) (ix (2 * v3)))) (Int64.toInt (gl h (v0 + 10) (ix ((2 * v3) + 1)))) (Int64.toInt (gl h v0 33)) (Int64.toInt (gl h v0 34))) = 0 → Wj X k n Q 9 [(0, .ref v0), (1, .int v1), (2, .int s0), (3, .int v3), (4, .int (v4 + Int32.ofInt 1))] [] h) ∧
    (¬ (blw (Int64.toInt (gl h (v0 + 10) (ix (2 * v3)))) (Int64.toInt (gl h (v0 + 10) (ix ((2 * v3) + 1)))) (Int64.toInt (gl h v0 33)) (Int64.toInt (gl h v0 34))) = 0 → Wj X k n Q 9 [(0, .ref v0), (1, .int v1), (2, .int s0), (3, .int v4), (4, .int (v4 + Int32.ofInt 1))] [] h))) :
    Wj X k n Q 165 [(0, .ref v0), (1, .int v1), (3, .int v3), (4, .int v4)] [.int s0] h := by
  refine w_istore_n (pc := 165) C dX10_laysGaps_165 (by decide) ?_
  refine w_aload_n (pc := 166) C dX10_laysGaps_166 rfl ?_
  obtain ⟨f1, hv⟩ := hv
  refine w_getR (pc := 167) C fl_X10_89 rfl dX10_laysGaps_167 (St10_k f1) (St10_r35 f1) ?_
  refine w_iconst (pc := 170) C (v := 2) dX10_laysGaps_170 (by decide) ?_
  refine w_iload_n (pc := 171) C dX10_laysGaps_171 rfl ?_
  refine w_imul (pc := 172) C dX10_laysGaps_172 ?_
  obtain ⟨f2, hv⟩ := hv
  refine w_lald (pc := 173) C dX10_laysGaps_173 (St10_k35 f1) (inbl (St10_l35 f1) f2) ?_
  refine w_aload_n (pc := 174) C dX10_laysGaps_174 rfl ?_
  refine w_getR (pc := 175) C fl_X10_89 rfl dX10_laysGaps_175 (St10_k f1) (St10_r35 f1) ?_
  refine w_iconst (pc := 178) C (v := 2) dX10_laysGaps_178 (by decide) ?_
  refine w_iload_n (pc := 179) C dX10_laysGaps_179 rfl ?_
  refine w_imul (pc := 180) C dX10_laysGaps_180 ?_
  refine w_iconst (pc := 181) C (v := 1) dX10_laysGaps_181 (by decide) ?_
  refine w_iadd (pc := 182) C dX10_laysGaps_182 ?_
  obtain ⟨f3, hv⟩ := hv
  refine w_lald (pc := 183) C dX10_laysGaps_183 (St10_k35 f1) (inbl (St10_l35 f1) f3) ?_
  refine w_aload_n (pc := 184) C dX10_laysGaps_184 rfl ?_
  refine w_getL (pc := 185) C fl_X10_409 rfl dX10_laysGaps_185 (St10_k f1) ?_
  refine w_aload_n (pc := 188) C dX10_laysGaps_188 rfl ?_
  refine w_getL (pc := 189) C fl_X10_412 rfl dX10_laysGaps_189 (St10_k f1) ?_
  obtain ⟨f4, hv⟩ := hv
  obtain ⟨f5, hv⟩ := hv
  obtain ⟨f6, hv⟩ := hv
  obtain ⟨f7, hv⟩ := hv
  refine w_cS0_4 (pc := 192) C cl_X10_418 ls_X10_isBelow (by decide) dX10_laysGaps_192 (Nat.le_of_ble_eq_true rfl) ((sf_X10_isBelow (h := h) f4 f5 f6 f7).mono (fun v h9 hp => ?_))
  obtain ⟨e1, e2⟩ := hp
  rw [e1, e2]
  refine w_if_eq (pc := 195) C (tgt := 203) dX10_laysGaps_195 (by decide) ?_
  obtain ⟨hv1, hv2⟩ := hv
  refine ⟨fun c8 => ?_, fun c8 => ?_⟩
  · have hv := hv1 c8
    refine w_iload_n (pc := 203) C dX10_laysGaps_203 rfl ?_
    refine w_istore_n (pc := 204) C dX10_laysGaps_204 (by decide) ?_
    refine w_iinc (pc := 205) C dX10_laysGaps_205 rfl (by decide) ?_
    refine w_goto (pc := 208) C (tgt := 9) dX10_laysGaps_208 (by decide) ?_
    refine w_sub ?_ hv
    exact ⟨rfl, rfl, rfl, rfl, rfl, trivial⟩
  · have hv := hv2 c8
    refine w_iload (pc := 198) C dX10_laysGaps_198 rfl ?_
    refine w_goto (pc := 200) C (tgt := 204) dX10_laysGaps_200 (by decide) ?_
    refine w_istore_n (pc := 204) C dX10_laysGaps_204 (by decide) ?_
    refine w_iinc (pc := 205) C dX10_laysGaps_205 rfl (by decide) ?_
    refine w_goto (pc := 208) C (tgt := 9) dX10_laysGaps_208 (by decide) ?_
    refine w_sub ?_ hv
    exact ⟨rfl, rfl, rfl, rfl, rfl, trivial⟩
theorem dX10_gaps_0 : decode cX10_gaps 0 = .ok (.aload_n 0, 1) := by decide +kernel
theorem dX10_gaps_1 : decode cX10_gaps 1 = .ok (.iconst 0, 1) := by decide +kernel
theorem dX10_gaps_2 : decode cX10_gaps 2 = .ok (.putfield 1, 3) := by decide +kernel
theorem dX10_gaps_5 : decode cX10_gaps 5 = .ok (.aload_n 0, 1) := by decide +kernel
theorem dX10_gaps_6 : decode cX10_gaps 6 = .ok (.invokevirtual 378, 3) := by decide +kernel
theorem dX10_gaps_9 : decode cX10_gaps 9 = .ok (.ifCond .ne 6, 3) := by decide +kernel
theorem dX10_gaps_12 : decode cX10_gaps 12 = .ok (.bipush (-2), 2) := by decide +kernel
theorem dX10_gaps_14 : decode cX10_gaps 14 = .ok (.ireturn, 1) := by decide +kernel
theorem dX10_gaps_15 : decode cX10_gaps 15 = .ok (.aload_n 0, 1) := by decide +kernel
theorem dX10_gaps_16 : decode cX10_gaps 16 = .ok (.iconst 0, 1) := by decide +kernel
theorem dX10_gaps_17 : decode cX10_gaps 17 = .ok (.putfield 11, 3) := by decide +kernel
theorem dX10_gaps_20 : decode cX10_gaps 20 = .ok (.aload_n 0, 1) := by decide +kernel
theorem dX10_gaps_21 : decode cX10_gaps 21 = .ok (.invokevirtual 406, 3) := by decide +kernel
theorem dX10_gaps_24 : decode cX10_gaps 24 = .ok (.ireturn, 1) := by decide +kernel
set_option maxRecDepth 20000 in
set_option maxHeartbeats 2000000 in
theorem V_X10_gaps_0 {X : Ctx} (C : C_X10_gaps X) {k n : Nat} {Q : Pq} {h : Hp} {v0 : Nat}
    (hv : St10 h v0 ∧ ((¬ (gi (si h v0 0 0) (v0 + 3) (ix 60)) = 0 → S_X10_laysGaps (lX X) (dtX X) 0 0 [.ref v0] (si (si h v0 0 0) v0 1 0) (QI fun x3 h2 =>
    Q (some (.int x3)) h2)) ∧
    ((gi (si h v0 0 0) (v0 + 3) (ix 60)) = 0 → Q (some (.int (-2))) (si h v0 0 0)))) :
    Wj X k n Q 0 [(0, .ref v0)] [] h := by
  refine w_aload_n (pc := 0) C dX10_gaps_0 rfl ?_
  refine w_iconst (pc := 1) C (v := 0) dX10_gaps_1 (by decide) ?_
  obtain ⟨f1, hv⟩ := hv
  refine w_putI (pc := 2) C fl_X10_1 rfl rfl dX10_gaps_2 (St10_k f1) ?_
  refine w_aload_n (pc := 5) C dX10_gaps_5 rfl ?_
  refine w_cV0_0 (pc := 6) C cl_X10_378 lv_X10_marks (by decide) dX10_gaps_6 (Nat.le_of_ble_eq_true rfl) (c := 10) rfl (St10_k f1) ((sf_X10_marks (h := (si h v0 0 0)) f1).mono (fun v h9 hp => ?_))
  obtain ⟨e1, e2⟩ := hp
  rw [e1, e2]
  refine w_if_ne (pc := 9) C (tgt := 15) dX10_gaps_9 (by decide) ?_
  obtain ⟨hv1, hv2⟩ := hv
  refine ⟨fun c4 => ?_, fun c4 => ?_⟩
  · have hv := hv1 c4
    refine w_aload_n (pc := 15) C dX10_gaps_15 rfl ?_
    refine w_iconst (pc := 16) C (v := 0) dX10_gaps_16 (by decide) ?_
    refine w_putI (pc := 17) C fl_X10_11 rfl rfl dX10_gaps_17 (St10_k f1) ?_
    refine w_aload_n (pc := 20) C dX10_gaps_20 rfl ?_
    refine w_cV0_0 (pc := 21) C cl_X10_406 lv_X10_laysGaps (by decide) dX10_gaps_21 (Nat.le_of_ble_eq_true rfl) (c := 10) rfl (St10_k f1) (hv.mono (fun v h2 hp => ?_))
    obtain ⟨x3, rfl, hv⟩ := hp
    exact w_iret (pc := 24) C dX10_gaps_24 hv
  · have hv := hv2 c4
    refine w_bipush (pc := 12) C (v := (-2)) dX10_gaps_12 (by decide) ?_
    exact w_iret (pc := 14) C dX10_gaps_14 hv
theorem dX9_gaps_0 : decode cX9_gaps 0 = .ok (.aload_n 0, 1) := by decide +kernel
theorem dX9_gaps_1 : decode cX9_gaps 1 = .ok (.getfield 78, 3) := by decide +kernel
theorem dX9_gaps_4 : decode cX9_gaps 4 = .ok (.getfield 363, 3) := by decide +kernel
theorem dX9_gaps_7 : decode cX9_gaps 7 = .ok (.ifCond .ne 6, 3) := by decide +kernel
theorem dX9_gaps_10 : decode cX9_gaps 10 = .ok (.bipush (-2), 2) := by decide +kernel
theorem dX9_gaps_12 : decode cX9_gaps 12 = .ok (.ireturn, 1) := by decide +kernel
theorem dX9_gaps_13 : decode cX9_gaps 13 = .ok (.aload_n 0, 1) := by decide +kernel
theorem dX9_gaps_14 : decode cX9_gaps 14 = .ok (.getfield 47, 3) := by decide +kernel
theorem dX9_gaps_17 : decode cX9_gaps 17 = .ok (.aload_n 0, 1) := by decide +kernel
theorem dX9_gaps_18 : decode cX9_gaps 18 = .ok (.getfield 78, 3) := by decide +kernel
theorem dX9_gaps_21 : decode cX9_gaps 21 = .ok (.invokevirtual 358, 3) := by decide +kernel
theorem dX9_gaps_24 : decode cX9_gaps 24 = .ok (.aload_n 0, 1) := by decide +kernel
theorem dX9_gaps_25 : decode cX9_gaps 25 = .ok (.getfield 19, 3) := by decide +kernel
theorem dX9_gaps_28 : decode cX9_gaps 28 = .ok (.invokevirtual 158, 3) := by decide +kernel
theorem dX9_gaps_31 : decode cX9_gaps 31 = .ok (.aload_n 0, 1) := by decide +kernel
theorem dX9_gaps_32 : decode cX9_gaps 32 = .ok (.getfield 47, 3) := by decide +kernel
theorem dX9_gaps_35 : decode cX9_gaps 35 = .ok (.aload_n 0, 1) := by decide +kernel
theorem dX9_gaps_36 : decode cX9_gaps 36 = .ok (.getfield 19, 3) := by decide +kernel
theorem dX9_gaps_39 : decode cX9_gaps 39 = .ok (.iconst (-1), 1) := by decide +kernel
theorem dX9_gaps_40 : decode cX9_gaps 40 = .ok (.invokevirtual 382, 3) := by decide +kernel
theorem dX9_gaps_43 : decode cX9_gaps 43 = .ok (.aload_n 0, 1) := by decide +kernel
theorem dX9_gaps_44 : decode cX9_gaps 44 = .ok (.getfield 47, 3) := by decide +kernel
theorem dX9_gaps_47 : decode cX9_gaps 47 = .ok (.aload_n 0, 1) := by decide +kernel
theorem dX9_gaps_48 : decode cX9_gaps 48 = .ok (.getfield 19, 3) := by decide +kernel
theorem dX9_gaps_51 : decode cX9_gaps 51 = .ok (.iconst 1, 1) := by decide +kernel
theorem dX9_gaps_52 : decode cX9_gaps 52 = .ok (.invokevirtual 382, 3) := by decide +kernel
theorem dX9_gaps_55 : decode cX9_gaps 55 = .ok (.aload_n 0, 1) := by decide +kernel
theorem dX9_gaps_56 : decode cX9_gaps 56 = .ok (.getfield 47, 3) := by decide +kernel
theorem dX9_gaps_59 : decode cX9_gaps 59 = .ok (.getfield 360, 3) := by decide +kernel
theorem dX9_gaps_62 : decode cX9_gaps 62 = .ok (.ireturn, 1) := by decide +kernel
set_option maxRecDepth 20000 in
set_option maxHeartbeats 2000000 in
theorem V_X9_gaps_0 {X : Ctx} (C : C_X9_gaps X) {k n : Nat} {Q : Pq} {h : Hp} {v0 : Nat}
    (hv : St9 h v0 ∧ nn h v0 12 ∧ St4 h (gp h v0 12) ∧ ((¬ (gi h (gp h v0 12) 7) = 0 → S_X3_look (lX X) (dtX X) 0 0 [.ref (v0 + 9), .ref (gp h v0 12)] h (QV fun h4 =>
    St9 h4 v0 ∧ S_X3_tellExtreme (lX X) (dtX X) 0 0 [.ref (v0 + 9), .ref (v0 + 3), .int (-1)] (tcl h4 (v0 + 3)) (QV fun h6 =>
    St9 h6 v0 ∧ S_X3_tellExtreme (lX X) (dtX X) 0 0 [.ref (v0 + 9), .ref (v0 + 3), .int 1] h6 (QV fun h8 =>
    St9 h8 v0 ∧ Q (some (.int (gi h8 (v0 + 9) 0))) h8)))) ∧
    ((gi h (gp h v0 12) 7) = 0 → Q (some (.int (-2))) h))) :
    Wj X k n Q 0 [(0, .ref v0)] [] h := by
  refine w_aload_n (pc := 0) C dX9_gaps_0 rfl ?_
  obtain ⟨f1, hv⟩ := hv
  obtain ⟨f2, hv⟩ := hv
  refine w_getR (pc := 1) C fl_X9_78 rfl dX9_gaps_1 (St9_k f1) f2 ?_
  obtain ⟨f3, hv⟩ := hv
  refine w_getI (pc := 4) C fl_X9_363 rfl dX9_gaps_4 (St4_k f3) ?_
  refine w_if_ne (pc := 7) C (tgt := 13) dX9_gaps_7 (by decide) ?_
  obtain ⟨hv1, hv2⟩ := hv
  refine ⟨fun c10 => ?_, fun c10 => ?_⟩
  · have hv := hv1 c10
    refine w_aload_n (pc := 13) C dX9_gaps_13 rfl ?_
    refine w_getR (pc := 14) C fl_X9_47 rfl dX9_gaps_14 (St9_k f1) (St9_r5 f1) ?_
    refine w_aload_n (pc := 17) C dX9_gaps_17 rfl ?_
    refine w_getR (pc := 18) C fl_X9_78 rfl dX9_gaps_18 (St9_k f1) f2 ?_
    refine w_cV0_1 (pc := 21) C cl_X9_358 lv_X3_look (by decide) dX9_gaps_21 (Nat.le_of_ble_eq_true rfl) (c := 3) rfl (St3_k (St9_s5 f1)) (hv.mono (fun v h4 hp => ?_))
    obtain ⟨rfl, hv⟩ := hp
    refine w_aload_n (pc := 24) C dX9_gaps_24 rfl ?_
    obtain ⟨f5, hv⟩ := hv
    refine w_getR (pc := 25) C fl_X9_19 rfl dX9_gaps_25 (St9_k f5) (St9_r1 f5) ?_
    refine w_cV0_0 (pc := 28) C cl_X9_158 lv_X8_clear (by decide) dX9_gaps_28 (Nat.le_of_ble_eq_true rfl) (c := 8) rfl (St8_k (St9_s1 f5)) ((sf_X8_clear (h := h4) (St9_s1 f5)).mono (fun v h9 hp => ?_))
    obtain ⟨e1, e2⟩ := hp
    rw [e1, e2]
    refine w_aload_n (pc := 31) C dX9_gaps_31 rfl ?_
    refine w_getR (pc := 32) C fl_X9_47 rfl dX9_gaps_32 (St9_k f5) (St9_r5 f5) ?_
    refine w_aload_n (pc := 35) C dX9_gaps_35 rfl ?_
    refine w_getR (pc := 36) C fl_X9_19 rfl dX9_gaps_36 (St9_k f5) (St9_r1 f5) ?_
    refine w_iconst (pc := 39) C (v := (-1)) dX9_gaps_39 (by decide) ?_
    refine w_cV0_2 (pc := 40) C cl_X9_382 lv_X3_tellExtreme (by decide) dX9_gaps_40 (Nat.le_of_ble_eq_true rfl) (c := 3) rfl (St3_k (St9_s5 f5)) (hv.mono (fun v h6 hp => ?_))
    obtain ⟨rfl, hv⟩ := hp
    refine w_aload_n (pc := 43) C dX9_gaps_43 rfl ?_
    obtain ⟨f7, hv⟩ := hv
    refine w_getR (pc := 44) C fl_X9_47 rfl dX9_gaps_44 (St9_k f7) (St9_r5 f7) ?_
    refine w_aload_n (pc := 47) C dX9_gaps_47 rfl ?_
    refine w_getR (pc := 48) C fl_X9_19 rfl dX9_gaps_48 (St9_k f7) (St9_r1 f7) ?_
    refine w_iconst (pc := 51) C (v := 1) dX9_gaps_51 (by decide) ?_
    refine w_cV0_2 (pc := 52) C cl_X9_382 lv_X3_tellExtreme (by decide) dX9_gaps_52 (Nat.le_of_ble_eq_true rfl) (c := 3) rfl (St3_k (St9_s5 f7)) (hv.mono (fun v h8 hp => ?_))
    obtain ⟨rfl, hv⟩ := hp
    refine w_aload_n (pc := 55) C dX9_gaps_55 rfl ?_
    obtain ⟨f9, hv⟩ := hv
    refine w_getR (pc := 56) C fl_X9_47 rfl dX9_gaps_56 (St9_k f9) (St9_r5 f9) ?_
    refine w_getI (pc := 59) C fl_X9_360 rfl dX9_gaps_59 (St3_k (St9_s5 f9)) ?_
    exact w_iret (pc := 62) C dX9_gaps_62 hv
  · have hv := hv2 c10
    refine w_bipush (pc := 10) C (v := (-2)) dX9_gaps_10 (by decide) ?_
    exact w_iret (pc := 12) C dX9_gaps_12 hv
theorem dX10_missing_0 : decode cX10_missing 0 = .ok (.aload_n 0, 1) := by decide +kernel
theorem dX10_missing_1 : decode cX10_missing 1 = .ok (.iconst 0, 1) := by decide +kernel
theorem dX10_missing_2 : decode cX10_missing 2 = .ok (.putfield 1, 3) := by decide +kernel
theorem dX10_missing_5 : decode cX10_missing 5 = .ok (.iload_n 1, 1) := by decide +kernel
theorem dX10_missing_6 : decode cX10_missing 6 = .ok (.i2l, 1) := by decide +kernel
theorem dX10_missing_7 : decode cX10_missing 7 = .ok (.lconst 1, 1) := by decide +kernel
theorem dX10_missing_8 : decode cX10_missing 8 = .ok (.ldc2_w 177, 3) := by decide +kernel
theorem dX10_missing_11 : decode cX10_missing 11 = .ok (.invokestatic 29, 3) := by decide +kernel
theorem dX10_missing_14 : decode cX10_missing 14 = .ok (.ifCond .ne 5, 3) := by decide +kernel
theorem dX10_missing_17 : decode cX10_missing 17 = .ok (.iconst (-1), 1) := by decide +kernel
theorem dX10_missing_18 : decode cX10_missing 18 = .ok (.ireturn, 1) := by decide +kernel
theorem dX10_missing_19 : decode cX10_missing 19 = .ok (.iconst 0, 1) := by decide +kernel
theorem dX10_missing_20 : decode cX10_missing 20 = .ok (.istore_n 2, 1) := by decide +kernel
theorem dX10_missing_21 : decode cX10_missing 21 = .ok (.iconst (-1), 1) := by decide +kernel
theorem dX10_missing_22 : decode cX10_missing 22 = .ok (.istore_n 3, 1) := by decide +kernel
theorem dX10_missing_23 : decode cX10_missing 23 = .ok (.iload_n 1, 1) := by decide +kernel
theorem dX10_missing_24 : decode cX10_missing 24 = .ok (.iconst 1, 1) := by decide +kernel
theorem dX10_missing_25 : decode cX10_missing 25 = .ok (.isub, 1) := by decide +kernel
theorem dX10_missing_26 : decode cX10_missing 26 = .ok (.istore 4, 2) := by decide +kernel
theorem dX10_missing_28 : decode cX10_missing 28 = .ok (.iload 4, 2) := by decide +kernel
theorem dX10_missing_30 : decode cX10_missing 30 = .ok (.ifCond .lt 43, 3) := by decide +kernel
theorem dX10_missing_33 : decode cX10_missing 33 = .ok (.iload 4, 2) := by decide +kernel
theorem dX10_missing_35 : decode cX10_missing 35 = .ok (.i2l, 1) := by decide +kernel
theorem dX10_missing_36 : decode cX10_missing 36 = .ok (.iload_n 1, 1) := by decide +kernel
theorem dX10_missing_37 : decode cX10_missing 37 = .ok (.i2l, 1) := by decide +kernel
theorem dX10_missing_38 : decode cX10_missing 38 = .ok (.invokestatic 14, 3) := by decide +kernel
theorem dX10_missing_41 : decode cX10_missing 41 = .ok (.lstore 5, 2) := by decide +kernel
theorem dX10_missing_43 : decode cX10_missing 43 = .ok (.aload_n 0, 1) := by decide +kernel
theorem dX10_missing_44 : decode cX10_missing 44 = .ok (.iload 4, 2) := by decide +kernel
theorem dX10_missing_46 : decode cX10_missing 46 = .ok (.i2l, 1) := by decide +kernel
theorem dX10_missing_47 : decode cX10_missing 47 = .ok (.lload 5, 2) := by decide +kernel
theorem dX10_missing_49 : decode cX10_missing 49 = .ok (.ldiv, 1) := by decide +kernel
theorem dX10_missing_50 : decode cX10_missing 50 = .ok (.iload_n 1, 1) := by decide +kernel
theorem dX10_missing_51 : decode cX10_missing 51 = .ok (.i2l, 1) := by decide +kernel
theorem dX10_missing_52 : decode cX10_missing 52 = .ok (.lload 5, 2) := by decide +kernel
theorem dX10_missing_54 : decode cX10_missing 54 = .ok (.ldiv, 1) := by decide +kernel
theorem dX10_missing_55 : decode cX10_missing 55 = .ok (.invokevirtual 388, 3) := by decide +kernel
theorem dX10_missing_58 : decode cX10_missing 58 = .ok (.ifCond .ge 9, 3) := by decide +kernel
theorem dX10_missing_61 : decode cX10_missing 61 = .ok (.iinc 2 1, 3) := by decide +kernel
theorem dX10_missing_64 : decode cX10_missing 64 = .ok (.iload 4, 2) := by decide +kernel
theorem dX10_missing_66 : decode cX10_missing 66 = .ok (.istore_n 3, 1) := by decide +kernel
theorem dX10_missing_67 : decode cX10_missing 67 = .ok (.iinc 4 (-1), 3) := by decide +kernel
theorem dX10_missing_70 : decode cX10_missing 70 = .ok (.goto (-42), 3) := by decide +kernel
theorem dX10_missing_73 : decode cX10_missing 73 = .ok (.aload_n 0, 1) := by decide +kernel
theorem dX10_missing_74 : decode cX10_missing 74 = .ok (.iconst 0, 1) := by decide +kernel
theorem dX10_missing_75 : decode cX10_missing 75 = .ok (.putfield 11, 3) := by decide +kernel
theorem dX10_missing_78 : decode cX10_missing 78 = .ok (.iload_n 3, 1) := by decide +kernel
theorem dX10_missing_79 : decode cX10_missing 79 = .ok (.ifCond .lt 9, 3) := by decide +kernel
theorem dX10_missing_82 : decode cX10_missing 82 = .ok (.aload_n 0, 1) := by decide +kernel
theorem dX10_missing_83 : decode cX10_missing 83 = .ok (.iload_n 3, 1) := by decide +kernel
theorem dX10_missing_84 : decode cX10_missing 84 = .ok (.i2l, 1) := by decide +kernel
theorem dX10_missing_85 : decode cX10_missing 85 = .ok (.invokevirtual 18, 3) := by decide +kernel
theorem dX10_missing_88 : decode cX10_missing 88 = .ok (.aload_n 0, 1) := by decide +kernel
theorem dX10_missing_89 : decode cX10_missing 89 = .ok (.aload_n 0, 1) := by decide +kernel
theorem dX10_missing_90 : decode cX10_missing 90 = .ok (.invokevirtual 378, 3) := by decide +kernel
theorem dX10_missing_93 : decode cX10_missing 93 = .ok (.iload_n 1, 1) := by decide +kernel
theorem dX10_missing_94 : decode cX10_missing 94 = .ok (.iload_n 2, 1) := by decide +kernel
theorem dX10_missing_95 : decode cX10_missing 95 = .ok (.isub, 1) := by decide +kernel
theorem dX10_missing_96 : decode cX10_missing 96 = .ok (.isub, 1) := by decide +kernel
theorem dX10_missing_97 : decode cX10_missing 97 = .ok (.i2l, 1) := by decide +kernel
theorem dX10_missing_98 : decode cX10_missing 98 = .ok (.invokevirtual 18, 3) := by decide +kernel
theorem dX10_missing_101 : decode cX10_missing 101 = .ok (.iload_n 2, 1) := by decide +kernel
theorem dX10_missing_102 : decode cX10_missing 102 = .ok (.ireturn, 1) := by decide +kernel
set_option maxRecDepth 20000 in
set_option maxHeartbeats 2000000 in
theorem V_X10_missing_0 {X : Ctx} (C : C_X10_missing X) {k n : Nat} {Q : Pq} {h : Hp} {v0 : Nat} {v1 : Int32}
    (hv : St10 h v0 ∧ ((¬ (btL (Int32.toInt64 v1) 1 400) = 0 → Wj X k n Q 28 [(0, .ref v0), (1, .int v1), (2, .int 0), (3, .int (-1)), (4, .int (v1 - 1))] [] (si h v0 0 0)) ∧
    ((btL (Int32.toInt64 v1) 1 400) = 0 → Q (some (.int (-1))) (si h v0 0 0)))) :
    Wj X k n Q 0 [(0, .ref v0), (1, .int v1)] [] h := by
  refine w_aload_n (pc := 0) C dX10_missing_0 rfl ?_
  refine w_iconst (pc := 1) C (v := 0) dX10_missing_1 (by decide) ?_
  obtain ⟨f1, hv⟩ := hv
  refine w_putI (pc := 2) C fl_X10_1 rfl rfl dX10_missing_2 (St10_k f1) ?_
  refine w_iload_n (pc := 5) C dX10_missing_5 rfl ?_
  refine w_i2l (pc := 6) C dX10_missing_6 ?_
  refine w_lconst (pc := 7) C (v := 1) dX10_missing_7 (by decide) ?_
  refine w_ldc2 (pc := 8) C ctl_X10_177 dX10_missing_8 ?_
  refine w_cS0_3 (pc := 11) C cl_X10_29 ls_X10_in (by decide) dX10_missing_11 (Nat.le_of_ble_eq_true rfl) ((sf_X10_in (h := (si h v0 0 0)) ).mono (fun v h9 hp => ?_))
  obtain ⟨e1, e2⟩ := hp
  rw [e1, e2]
  refine w_if_ne (pc := 14) C (tgt := 19) dX10_missing_14 (by decide) ?_
  obtain ⟨hv1, hv2⟩ := hv
  refine ⟨fun c2 => ?_, fun c2 => ?_⟩
  · have hv := hv1 c2
    refine w_iconst (pc := 19) C (v := 0) dX10_missing_19 (by decide) ?_
    refine w_istore_n (pc := 20) C dX10_missing_20 (by decide) ?_
    refine w_iconst (pc := 21) C (v := (-1)) dX10_missing_21 (by decide) ?_
    refine w_istore_n (pc := 22) C dX10_missing_22 (by decide) ?_
    refine w_iload_n (pc := 23) C dX10_missing_23 rfl ?_
    refine w_iconst (pc := 24) C (v := 1) dX10_missing_24 (by decide) ?_
    refine w_isub (pc := 25) C dX10_missing_25 ?_
    refine w_istore (pc := 26) C dX10_missing_26 (by decide) ?_
    refine w_sub ?_ hv
    exact ⟨rfl, rfl, rfl, rfl, rfl, trivial⟩
  · have hv := hv2 c2
    refine w_iconst (pc := 17) C (v := (-1)) dX10_missing_17 (by decide) ?_
    exact w_iret (pc := 18) C dX10_missing_18 hv
set_option maxRecDepth 20000 in
set_option maxHeartbeats 2000000 in
theorem V_X10_missing_28 {X : Ctx} (C : C_X10_missing X) {k n : Nat} {Q : Pq} {h : Hp} {v0 : Nat} {v1 v2 v3 v4 : Int32}
    (hv : ((v4 < 0 → St10 h v0 ∧ ((v3 < 0 → Wj X k n Q 88 [(0, .ref v0), (1, .int v1), (2, .int v2)] [] (si h v0 1 0)) ∧
    (¬ v3 < 0 → S_X10_enters (lX X) (dtX X) 0 0 [.ref v0, .long (Int32.toInt64 v3)] (si h v0 1 0) (QV fun h2 =>
    Wj X k n Q 88 [(0, .ref v0), (1, .int v1), (2, .int v2)] [] h2)))) ∧
    (¬ v4 < 0 → -9223372036854775807 ≤ (Int64.toInt (Int32.toInt64 v4)) ∧ 0 < (Int64.toInt (Int32.toInt64 v1)) ∧ ¬ (cm (Int32.toInt64 v4) (Int32.toInt64 v1)) = 0 ∧ St10 h v0 ∧ S_X10_markAt (lX X) (dtX X) 0 0 [.ref v0, .long ((Int32.toInt64 v4) / (cm (Int32.toInt64 v4) (Int32.toInt64 v1))), .long ((Int32.toInt64 v1) / (cm (Int32.toInt64 v4) (Int32.toInt64 v1)))] h (QI fun x9 h8 =>
    ((0 ≤ x9 → Wj X k n Q 28 [(0, .ref v0), (1, .int v1), (2, .int v2), (3, .int v3), (4, .int (v4 + Int32.ofInt (-1)))] [] h8) ∧
    (¬ 0 ≤ x9 → Wj X k n Q 28 [(0, .ref v0), (1, .int v1), (2, .int (v2 + Int32.ofInt 1)), (3, .int v4), (4, .int (v4 + Int32.ofInt (-1)))] [] h8)))))) :
    Wj X k n Q 28 [(0, .ref v0), (1, .int v1), (2, .int v2), (3, .int v3), (4, .int v4)] [] h := by
  refine w_iload (pc := 28) C dX10_missing_28 rfl ?_
  refine w_if_lt (pc := 30) C (tgt := 73) dX10_missing_30 (by decide) ?_
  obtain ⟨hv1, hv2⟩ := hv
  refine ⟨fun c11 => ?_, fun c11 => ?_⟩
  · have hv := hv1 c11
    refine w_aload_n (pc := 73) C dX10_missing_73 rfl ?_
    refine w_iconst (pc := 74) C (v := 0) dX10_missing_74 (by decide) ?_
    obtain ⟨f1, hv⟩ := hv
    refine w_putI (pc := 75) C fl_X10_11 rfl rfl dX10_missing_75 (St10_k f1) ?_
    refine w_iload_n (pc := 78) C dX10_missing_78 rfl ?_
    refine w_if_lt (pc := 79) C (tgt := 88) dX10_missing_79 (by decide) ?_
    obtain ⟨hv1, hv2⟩ := hv
    refine ⟨fun c3 => ?_, fun c3 => ?_⟩
    · have hv := hv1 c3
      refine w_sub ?_ hv
      exact ⟨rfl, rfl, rfl, trivial⟩
    · have hv := hv2 c3
      refine w_aload_n (pc := 82) C dX10_missing_82 rfl ?_
      refine w_iload_n (pc := 83) C dX10_missing_83 rfl ?_
      refine w_i2l (pc := 84) C dX10_missing_84 ?_
      refine w_cV0_1 (pc := 85) C cl_X10_18 lv_X10_enters (by decide) dX10_missing_85 (Nat.le_of_ble_eq_true rfl) (c := 10) rfl (St10_k f1) (hv.mono (fun v h2 hp => ?_))
      obtain ⟨rfl, hv⟩ := hp
      refine w_sub ?_ hv
      exact ⟨rfl, rfl, rfl, trivial⟩
  · have hv := hv2 c11
    refine w_iload (pc := 33) C dX10_missing_33 rfl ?_
    refine w_i2l (pc := 35) C dX10_missing_35 ?_
    refine w_iload_n (pc := 36) C dX10_missing_36 rfl ?_
    refine w_i2l (pc := 37) C dX10_missing_37 ?_
    obtain ⟨f4, hv⟩ := hv
    obtain ⟨f5, hv⟩ := hv
    refine w_cS0_2 (pc := 38) C cl_X10_14 ls_X10_common (by decide) dX10_missing_38 (Nat.le_of_ble_eq_true rfl) ((sf_X10_common (h := h) f4 f5).mono (fun v h9 hp => ?_))
    obtain ⟨e1, e2⟩ := hp
    rw [e1, e2]
    refine w_lstore (pc := 41) C dX10_missing_41 (by decide) ?_
    refine w_aload_n (pc := 43) C dX10_missing_43 rfl ?_
    refine w_iload (pc := 44) C dX10_missing_44 rfl ?_
    refine w_i2l (pc := 46) C dX10_missing_46 ?_
    refine w_lload (pc := 47) C dX10_missing_47 rfl ?_
    obtain ⟨f6, hv⟩ := hv
    refine w_ldiv (pc := 49) C dX10_missing_49 f6 ?_
    refine w_iload_n (pc := 50) C dX10_missing_50 rfl ?_
    refine w_i2l (pc := 51) C dX10_missing_51 ?_
    refine w_lload (pc := 52) C dX10_missing_52 rfl ?_
    refine w_ldiv (pc := 54) C dX10_missing_54 f6 ?_
    obtain ⟨f7, hv⟩ := hv
    refine w_cV0_2 (pc := 55) C cl_X10_388 lv_X10_markAt (by decide) dX10_missing_55 (Nat.le_of_ble_eq_true rfl) (c := 10) rfl (St10_k f7) (hv.mono (fun v h8 hp => ?_))
    obtain ⟨x9, rfl, hv⟩ := hp
    refine w_if_ge (pc := 58) C (tgt := 67) dX10_missing_58 (by decide) ?_
    obtain ⟨hv1, hv2⟩ := hv
    refine ⟨fun c10 => ?_, fun c10 => ?_⟩
    · have hv := hv1 c10
      refine w_iinc (pc := 67) C dX10_missing_67 rfl (by decide) ?_
      refine w_goto (pc := 70) C (tgt := 28) dX10_missing_70 (by decide) ?_
      refine w_sub ?_ hv
      exact ⟨rfl, rfl, rfl, rfl, rfl, trivial⟩
    · have hv := hv2 c10
      refine w_iinc (pc := 61) C dX10_missing_61 rfl (by decide) ?_
      refine w_iload (pc := 64) C dX10_missing_64 rfl ?_
      refine w_istore_n (pc := 66) C dX10_missing_66 (by decide) ?_
      refine w_iinc (pc := 67) C dX10_missing_67 rfl (by decide) ?_
      refine w_goto (pc := 70) C (tgt := 28) dX10_missing_70 (by decide) ?_
      refine w_sub ?_ hv
      exact ⟨rfl, rfl, rfl, rfl, rfl, trivial⟩
set_option maxRecDepth 20000 in
set_option maxHeartbeats 2000000 in
theorem V_X10_missing_88 {X : Ctx} (C : C_X10_missing X) {k n : Nat} {Q : Pq} {h : Hp} {v0 : Nat} {v1 v2 : Int32}
    (hv : St10 h v0 ∧ S_X10_enters (lX X) (dtX X) 0 0 [.ref v0, .long (Int32.toInt64 ((gi h (v0 + 3) (ix 60)) - (v1 - v2)))] h (QV fun h2 =>
    Q (some (.int v2)) h2)) :
    Wj X k n Q 88 [(0, .ref v0), (1, .int v1), (2, .int v2)] [] h := by
  refine w_aload_n (pc := 88) C dX10_missing_88 rfl ?_
  refine w_aload_n (pc := 89) C dX10_missing_89 rfl ?_
  obtain ⟨f1, hv⟩ := hv
  refine w_cV0_0 (pc := 90) C cl_X10_378 lv_X10_marks (by decide) dX10_missing_90 (Nat.le_of_ble_eq_true rfl) (c := 10) rfl (St10_k f1) ((sf_X10_marks (h := h) f1).mono (fun v h9 hp => ?_))
  obtain ⟨e1, e2⟩ := hp
  rw [e1, e2]
  refine w_iload_n (pc := 93) C dX10_missing_93 rfl ?_
  refine w_iload_n (pc := 94) C dX10_missing_94 rfl ?_
  refine w_isub (pc := 95) C dX10_missing_95 ?_
  refine w_isub (pc := 96) C dX10_missing_96 ?_
  refine w_i2l (pc := 97) C dX10_missing_97 ?_
  refine w_cV0_1 (pc := 98) C cl_X10_18 lv_X10_enters (by decide) dX10_missing_98 (Nat.le_of_ble_eq_true rfl) (c := 10) rfl (St10_k f1) (hv.mono (fun v h2 hp => ?_))
  obtain ⟨rfl, hv⟩ := hp
  refine w_iload_n (pc := 101) C dX10_missing_101 rfl ?_
  exact w_iret (pc := 102) C dX10_missing_102 hv
theorem dX9_missing_0 : decode cX9_missing 0 = .ok (.iload_n 1, 1) := by decide +kernel
theorem dX9_missing_1 : decode cX9_missing 1 = .ok (.iconst 1, 1) := by decide +kernel
theorem dX9_missing_2 : decode cX9_missing 2 = .ok (.sipush 400, 3) := by decide +kernel
theorem dX9_missing_5 : decode cX9_missing 5 = .ok (.invokestatic 247, 3) := by decide +kernel
theorem dX9_missing_8 : decode cX9_missing 8 = .ok (.ifCond .ne 5, 3) := by decide +kernel
theorem dX9_missing_11 : decode cX9_missing 11 = .ok (.iconst (-1), 1) := by decide +kernel
theorem dX9_missing_12 : decode cX9_missing 12 = .ok (.ireturn, 1) := by decide +kernel
theorem dX9_missing_13 : decode cX9_missing 13 = .ok (.iconst 0, 1) := by decide +kernel
theorem dX9_missing_14 : decode cX9_missing 14 = .ok (.istore_n 2, 1) := by decide +kernel
theorem dX9_missing_15 : decode cX9_missing 15 = .ok (.iconst 0, 1) := by decide +kernel
theorem dX9_missing_16 : decode cX9_missing 16 = .ok (.istore_n 3, 1) := by decide +kernel
theorem dX9_missing_17 : decode cX9_missing 17 = .ok (.iconst 0, 1) := by decide +kernel
theorem dX9_missing_18 : decode cX9_missing 18 = .ok (.istore 4, 2) := by decide +kernel
theorem dX9_missing_20 : decode cX9_missing 20 = .ok (.iload 4, 2) := by decide +kernel
theorem dX9_missing_22 : decode cX9_missing 22 = .ok (.aload_n 0, 1) := by decide +kernel
theorem dX9_missing_23 : decode cX9_missing 23 = .ok (.getfield 78, 3) := by decide +kernel
theorem dX9_missing_26 : decode cX9_missing 26 = .ok (.getfield 363, 3) := by decide +kernel
theorem dX9_missing_29 : decode cX9_missing 29 = .ok (.if_icmp .ge 69, 3) := by decide +kernel
theorem dX9_missing_32 : decode cX9_missing 32 = .ok (.aload_n 0, 1) := by decide +kernel
theorem dX9_missing_33 : decode cX9_missing 33 = .ok (.getfield 78, 3) := by decide +kernel
theorem dX9_missing_36 : decode cX9_missing 36 = .ok (.iload 4, 2) := by decide +kernel
theorem dX9_missing_38 : decode cX9_missing 38 = .ok (.invokevirtual 375, 3) := by decide +kernel
theorem dX9_missing_41 : decode cX9_missing 41 = .ok (.lstore 5, 2) := by decide +kernel
theorem dX9_missing_43 : decode cX9_missing 43 = .ok (.lload 5, 2) := by decide +kernel
theorem dX9_missing_45 : decode cX9_missing 45 = .ok (.lconst 0, 1) := by decide +kernel
theorem dX9_missing_46 : decode cX9_missing 46 = .ok (.lcmp, 1) := by decide +kernel
theorem dX9_missing_47 : decode cX9_missing 47 = .ok (.ifCond .le 45, 3) := by decide +kernel
theorem dX9_missing_50 : decode cX9_missing 50 = .ok (.iload_n 1, 1) := by decide +kernel
theorem dX9_missing_51 : decode cX9_missing 51 = .ok (.i2l, 1) := by decide +kernel
theorem dX9_missing_52 : decode cX9_missing 52 = .ok (.lload 5, 2) := by decide +kernel
theorem dX9_missing_54 : decode cX9_missing 54 = .ok (.lrem, 1) := by decide +kernel
theorem dX9_missing_55 : decode cX9_missing 55 = .ok (.lconst 0, 1) := by decide +kernel
theorem dX9_missing_56 : decode cX9_missing 56 = .ok (.lcmp, 1) := by decide +kernel
theorem dX9_missing_57 : decode cX9_missing 57 = .ok (.ifCond .ne 35, 3) := by decide +kernel
theorem dX9_missing_60 : decode cX9_missing 60 = .ok (.iinc 2 1, 3) := by decide +kernel
theorem dX9_missing_63 : decode cX9_missing 63 = .ok (.iload_n 3, 1) := by decide +kernel
theorem dX9_missing_64 : decode cX9_missing 64 = .ok (.aload_n 0, 1) := by decide +kernel
theorem dX9_missing_65 : decode cX9_missing 65 = .ok (.getfield 78, 3) := by decide +kernel
theorem dX9_missing_68 : decode cX9_missing 68 = .ok (.iload 4, 2) := by decide +kernel
theorem dX9_missing_70 : decode cX9_missing 70 = .ok (.invokevirtual 371, 3) := by decide +kernel
theorem dX9_missing_73 : decode cX9_missing 73 = .ok (.iload_n 1, 1) := by decide +kernel
theorem dX9_missing_74 : decode cX9_missing 74 = .ok (.i2l, 1) := by decide +kernel
theorem dX9_missing_75 : decode cX9_missing 75 = .ok (.lload 5, 2) := by decide +kernel
theorem dX9_missing_77 : decode cX9_missing 77 = .ok (.ldiv, 1) := by decide +kernel
theorem dX9_missing_78 : decode cX9_missing 78 = .ok (.lmul, 1) := by decide +kernel
theorem dX9_missing_79 : decode cX9_missing 79 = .ok (.iload_n 3, 1) := by decide +kernel
theorem dX9_missing_80 : decode cX9_missing 80 = .ok (.i2l, 1) := by decide +kernel
theorem dX9_missing_81 : decode cX9_missing 81 = .ok (.lcmp, 1) := by decide +kernel
theorem dX9_missing_82 : decode cX9_missing 82 = .ok (.ifCond .ne 7, 3) := by decide +kernel
theorem dX9_missing_85 : decode cX9_missing 85 = .ok (.iconst 1, 1) := by decide +kernel
theorem dX9_missing_86 : decode cX9_missing 86 = .ok (.goto 4, 3) := by decide +kernel
theorem dX9_missing_89 : decode cX9_missing 89 = .ok (.iconst 0, 1) := by decide +kernel
theorem dX9_missing_90 : decode cX9_missing 90 = .ok (.iadd, 1) := by decide +kernel
theorem dX9_missing_91 : decode cX9_missing 91 = .ok (.istore_n 3, 1) := by decide +kernel
theorem dX9_missing_92 : decode cX9_missing 92 = .ok (.iinc 4 1, 3) := by decide +kernel
theorem dX9_missing_95 : decode cX9_missing 95 = .ok (.goto (-75), 3) := by decide +kernel
theorem dX9_missing_98 : decode cX9_missing 98 = .ok (.aload_n 0, 1) := by decide +kernel
theorem dX9_missing_99 : decode cX9_missing 99 = .ok (.getfield 19, 3) := by decide +kernel
theorem dX9_missing_102 : decode cX9_missing 102 = .ok (.invokevirtual 158, 3) := by decide +kernel
theorem dX9_missing_105 : decode cX9_missing 105 = .ok (.iload_n 2, 1) := by decide +kernel
theorem dX9_missing_106 : decode cX9_missing 106 = .ok (.iload_n 1, 1) := by decide +kernel
theorem dX9_missing_107 : decode cX9_missing 107 = .ok (.if_icmp .ge 12, 3) := by decide +kernel
theorem dX9_missing_110 : decode cX9_missing 110 = .ok (.aload_n 0, 1) := by decide +kernel
theorem dX9_missing_111 : decode cX9_missing 111 = .ok (.getfield 19, 3) := by decide +kernel
theorem dX9_missing_114 : decode cX9_missing 114 = .ok (.iload_n 3, 1) := by decide +kernel
theorem dX9_missing_115 : decode cX9_missing 115 = .ok (.i2l, 1) := by decide +kernel
theorem dX9_missing_116 : decode cX9_missing 116 = .ok (.invokevirtual 164, 3) := by decide +kernel
theorem dX9_missing_119 : decode cX9_missing 119 = .ok (.aload_n 0, 1) := by decide +kernel
theorem dX9_missing_120 : decode cX9_missing 120 = .ok (.getfield 19, 3) := by decide +kernel
theorem dX9_missing_123 : decode cX9_missing 123 = .ok (.aload_n 0, 1) := by decide +kernel
theorem dX9_missing_124 : decode cX9_missing 124 = .ok (.getfield 78, 3) := by decide +kernel
theorem dX9_missing_127 : decode cX9_missing 127 = .ok (.getfield 363, 3) := by decide +kernel
theorem dX9_missing_130 : decode cX9_missing 130 = .ok (.iload_n 2, 1) := by decide +kernel
theorem dX9_missing_131 : decode cX9_missing 131 = .ok (.isub, 1) := by decide +kernel
theorem dX9_missing_132 : decode cX9_missing 132 = .ok (.i2l, 1) := by decide +kernel
theorem dX9_missing_133 : decode cX9_missing 133 = .ok (.invokevirtual 164, 3) := by decide +kernel
theorem dX9_missing_136 : decode cX9_missing 136 = .ok (.iload_n 1, 1) := by decide +kernel
theorem dX9_missing_137 : decode cX9_missing 137 = .ok (.iload_n 2, 1) := by decide +kernel
theorem dX9_missing_138 : decode cX9_missing 138 = .ok (.isub, 1) := by decide +kernel
theorem dX9_missing_139 : decode cX9_missing 139 = .ok (.ireturn, 1) := by decide +kernel
set_option maxRecDepth 20000 in
set_option maxHeartbeats 2000000 in
theorem V_X9_missing_0 {X : Ctx} (C : C_X9_missing X) {k n : Nat} {Q : Pq} {h : Hp} {v0 : Nat} {v1 : Int32}
    (hv : ((¬ (bt v1 1 400) = 0 → Wj X k n Q 20 [(0, .ref v0), (1, .int v1), (2, .int 0), (3, .int 0), (4, .int 0)] [] h) ∧
    ((bt v1 1 400) = 0 → Q (some (.int (-1))) h))) :
    Wj X k n Q 0 [(0, .ref v0), (1, .int v1)] [] h := by
  refine w_iload_n (pc := 0) C dX9_missing_0 rfl ?_
  refine w_iconst (pc := 1) C (v := 1) dX9_missing_1 (by decide) ?_
  refine w_sipush (pc := 2) C (v := 400) dX9_missing_2 (by decide) ?_
  refine w_cS0_3 (pc := 5) C cl_X9_247 ls_X9_isBetween (by decide) dX9_missing_5 (Nat.le_of_ble_eq_true rfl) ((sf_X9_isBetween (h := h) ).mono (fun v h9 hp => ?_))
  obtain ⟨e1, e2⟩ := hp
  rw [e1, e2]
  refine w_if_ne (pc := 8) C (tgt := 13) dX9_missing_8 (by decide) ?_
  obtain ⟨hv1, hv2⟩ := hv
  refine ⟨fun c1 => ?_, fun c1 => ?_⟩
  · have hv := hv1 c1
    refine w_iconst (pc := 13) C (v := 0) dX9_missing_13 (by decide) ?_
    refine w_istore_n (pc := 14) C dX9_missing_14 (by decide) ?_
    refine w_iconst (pc := 15) C (v := 0) dX9_missing_15 (by decide) ?_
    refine w_istore_n (pc := 16) C dX9_missing_16 (by decide) ?_
    refine w_iconst (pc := 17) C (v := 0) dX9_missing_17 (by decide) ?_
    refine w_istore (pc := 18) C dX9_missing_18 (by decide) ?_
    refine w_sub ?_ hv
    exact ⟨rfl, rfl, rfl, rfl, rfl, trivial⟩
  · have hv := hv2 c1
    refine w_iconst (pc := 11) C (v := (-1)) dX9_missing_11 (by decide) ?_
    exact w_iret (pc := 12) C dX9_missing_12 hv
set_option maxRecDepth 20000 in
set_option maxHeartbeats 2000000 in
theorem V_X9_missing_20 {X : Ctx} (C : C_X9_missing X) {k n : Nat} {Q : Pq} {h : Hp} {v0 : Nat} {v1 v2 v3 v4 : Int32}
    (hv : St9 h v0 ∧ nn h v0 12 ∧ St4 h (gp h v0 12) ∧ (((gi h (gp h v0 12) 7) ≤ v4 → ((v1 ≤ v2 → Wj X k n Q 119 [(0, .ref v0), (1, .int v1), (2, .int v2)] [] (tcl h (v0 + 3))) ∧
    (¬ v1 ≤ v2 → S_X8_add (lX X) (dtX X) 0 0 [.ref (v0 + 3), .long (Int32.toInt64 v3)] (tcl h (v0 + 3)) (QV fun h4 =>
    Wj X k n Q 119 [(0, .ref v0), (1, .int v1), (2, .int v2)] [] h4)))) ∧
    (¬ (gi h (gp h v0 12) 7) ≤ v4 → (((hMl h (gp h v0 12) v4) ≤ 0 → Wj X k n Q 20 [(0, .ref v0), (1, .int v1), (2, .int v2), (3, .int v3), (4, .int (v4 + Int32.ofInt 1))] [] h) ∧
    (¬ (hMl h (gp h v0 12) v4) ≤ 0 → ¬ (hMl h (gp h v0 12) v4) = 0 ∧ ((¬ ((Int32.toInt64 v1) % (hMl h (gp h v0 12) v4)) = 0 → Wj X k n Q 20 [(0, .ref v0), (1, .int v1), (2, .int v2), (3, .int v3), (4, .int (v4 + Int32.ofInt 1))] [] h) ∧
    (((Int32.toInt64 v1) % (hMl h (gp h v0 12) v4)) = 0 → ((¬ ((hMu h (gp h v0 12) v4) * ((Int32.toInt64 v1) / (hMl h (gp h v0 12) v4))) = (Int32.toInt64 v3) → Wj X k n Q 20 [(0, .ref v0), (1, .int v1), (2, .int (v2 + Int32.ofInt 1)), (3, .int (v3 + 0)), (4, .int (v4 + Int32.ofInt 1))] [] h) ∧
    (((hMu h (gp h v0 12) v4) * ((Int32.toInt64 v1) / (hMl h (gp h v0 12) v4))) = (Int32.toInt64 v3) → Wj X k n Q 20 [(0, .ref v0), (1, .int v1), (2, .int (v2 + Int32.ofInt 1)), (3, .int (v3 + 1)), (4, .int (v4 + Int32.ofInt 1))] [] h))))))))) :
    Wj X k n Q 20 [(0, .ref v0), (1, .int v1), (2, .int v2), (3, .int v3), (4, .int v4)] [] h := by
  refine w_iload (pc := 20) C dX9_missing_20 rfl ?_
  refine w_aload_n (pc := 22) C dX9_missing_22 rfl ?_
  obtain ⟨f1, hv⟩ := hv
  obtain ⟨f2, hv⟩ := hv
  refine w_getR (pc := 23) C fl_X9_78 rfl dX9_missing_23 (St9_k f1) f2 ?_
  obtain ⟨f3, hv⟩ := hv
  refine w_getI (pc := 26) C fl_X9_363 rfl dX9_missing_26 (St4_k f3) ?_
  refine w_icmp_ge (pc := 29) C (tgt := 98) dX9_missing_29 (by decide) ?_
  obtain ⟨hv1, hv2⟩ := hv
  refine ⟨fun c10 => ?_, fun c10 => ?_⟩
  · have hv := hv1 c10
    refine w_aload_n (pc := 98) C dX9_missing_98 rfl ?_
    refine w_getR (pc := 99) C fl_X9_19 rfl dX9_missing_99 (St9_k f1) (St9_r1 f1) ?_
    refine w_cV0_0 (pc := 102) C cl_X9_158 lv_X8_clear (by decide) dX9_missing_102 (Nat.le_of_ble_eq_true rfl) (c := 8) rfl (St8_k (St9_s1 f1)) ((sf_X8_clear (h := h) (St9_s1 f1)).mono (fun v h9 hp => ?_))
    obtain ⟨e1, e2⟩ := hp
    rw [e1, e2]
    refine w_iload_n (pc := 105) C dX9_missing_105 rfl ?_
    refine w_iload_n (pc := 106) C dX9_missing_106 rfl ?_
    refine w_icmp_ge (pc := 107) C (tgt := 119) dX9_missing_107 (by decide) ?_
    obtain ⟨hv1, hv2⟩ := hv
    refine ⟨fun c5 => ?_, fun c5 => ?_⟩
    · have hv := hv1 c5
      refine w_sub ?_ hv
      exact ⟨rfl, rfl, rfl, trivial⟩
    · have hv := hv2 c5
      refine w_aload_n (pc := 110) C dX9_missing_110 rfl ?_
      refine w_getR (pc := 111) C fl_X9_19 rfl dX9_missing_111 (St9_k f1) (St9_r1 f1) ?_
      refine w_iload_n (pc := 114) C dX9_missing_114 rfl ?_
      refine w_i2l (pc := 115) C dX9_missing_115 ?_
      refine w_cV0_1 (pc := 116) C cl_X9_164 lv_X8_add (by decide) dX9_missing_116 (Nat.le_of_ble_eq_true rfl) (c := 8) rfl (St8_k (St9_s1 f1)) (hv.mono (fun v h4 hp => ?_))
      obtain ⟨rfl, hv⟩ := hp
      refine w_sub ?_ hv
      exact ⟨rfl, rfl, rfl, trivial⟩
  · have hv := hv2 c10
    refine w_aload_n (pc := 32) C dX9_missing_32 rfl ?_
    refine w_getR (pc := 33) C fl_X9_78 rfl dX9_missing_33 (St9_k f1) f2 ?_
    refine w_iload (pc := 36) C dX9_missing_36 rfl ?_
    refine w_cV0_1 (pc := 38) C cl_X9_375 lv_X4_markLow (by decide) dX9_missing_38 (Nat.le_of_ble_eq_true rfl) (c := 4) rfl (St4_k f3) ((sf_X4_markLow (h := h) f3).mono (fun v h9 hp => ?_))
    obtain ⟨e1, e2⟩ := hp
    rw [e1, e2]
    refine w_lstore (pc := 41) C dX9_missing_41 (by decide) ?_
    refine w_lload (pc := 43) C dX9_missing_43 rfl ?_
    refine w_lconst (pc := 45) C (v := 0) dX9_missing_45 (by decide) ?_
    refine w_lcmp_le (pc := 46) C (tgt := 92) dX9_missing_46 dX9_missing_47 (by decide) ?_
    obtain ⟨hv1, hv2⟩ := hv
    refine ⟨fun c9 => ?_, fun c9 => ?_⟩
    · have hv := hv1 c9
      refine w_iinc (pc := 92) C dX9_missing_92 rfl (by decide) ?_
      refine w_goto (pc := 95) C (tgt := 20) dX9_missing_95 (by decide) ?_
      refine w_sub ?_ hv
      exact ⟨rfl, rfl, rfl, rfl, rfl, trivial⟩
    · have hv := hv2 c9
      refine w_iload_n (pc := 50) C dX9_missing_50 rfl ?_
      refine w_i2l (pc := 51) C dX9_missing_51 ?_
      refine w_lload (pc := 52) C dX9_missing_52 rfl ?_
      obtain ⟨f6, hv⟩ := hv
      refine w_lrem (pc := 54) C dX9_missing_54 f6 ?_
      refine w_lconst (pc := 55) C (v := 0) dX9_missing_55 (by decide) ?_
      refine w_lcmp_ne (pc := 56) C (tgt := 92) dX9_missing_56 dX9_missing_57 (by decide) ?_
      obtain ⟨hv1, hv2⟩ := hv
      refine ⟨fun c8 => ?_, fun c8 => ?_⟩
      · have hv := hv1 c8
        refine w_iinc (pc := 92) C dX9_missing_92 rfl (by decide) ?_
        refine w_goto (pc := 95) C (tgt := 20) dX9_missing_95 (by decide) ?_
        refine w_sub ?_ hv
        exact ⟨rfl, rfl, rfl, rfl, rfl, trivial⟩
      · have hv := hv2 c8
        refine w_iinc (pc := 60) C dX9_missing_60 rfl (by decide) ?_
        refine w_iload_n (pc := 63) C dX9_missing_63 rfl ?_
        refine w_aload_n (pc := 64) C dX9_missing_64 rfl ?_
        refine w_getR (pc := 65) C fl_X9_78 rfl dX9_missing_65 (St9_k f1) f2 ?_
        refine w_iload (pc := 68) C dX9_missing_68 rfl ?_
        refine w_cV0_1 (pc := 70) C cl_X9_371 lv_X4_markUp (by decide) dX9_missing_70 (Nat.le_of_ble_eq_true rfl) (c := 4) rfl (St4_k f3) ((sf_X4_markUp (h := h) f3).mono (fun v h9 hp => ?_))
        obtain ⟨e1, e2⟩ := hp
        rw [e1, e2]
        refine w_iload_n (pc := 73) C dX9_missing_73 rfl ?_
        refine w_i2l (pc := 74) C dX9_missing_74 ?_
        refine w_lload (pc := 75) C dX9_missing_75 rfl ?_
        refine w_ldiv (pc := 77) C dX9_missing_77 f6 ?_
        refine w_lmul (pc := 78) C dX9_missing_78 ?_
        refine w_iload_n (pc := 79) C dX9_missing_79 rfl ?_
        refine w_i2l (pc := 80) C dX9_missing_80 ?_
        refine w_lcmp_ne (pc := 81) C (tgt := 89) dX9_missing_81 dX9_missing_82 (by decide) ?_
        obtain ⟨hv1, hv2⟩ := hv
        refine ⟨fun c7 => ?_, fun c7 => ?_⟩
        · have hv := hv1 c7
          refine w_iconst (pc := 89) C (v := 0) dX9_missing_89 (by decide) ?_
          refine w_iadd (pc := 90) C dX9_missing_90 ?_
          refine w_istore_n (pc := 91) C dX9_missing_91 (by decide) ?_
          refine w_iinc (pc := 92) C dX9_missing_92 rfl (by decide) ?_
          refine w_goto (pc := 95) C (tgt := 20) dX9_missing_95 (by decide) ?_
          refine w_sub ?_ hv
          exact ⟨rfl, rfl, rfl, rfl, rfl, trivial⟩
        · have hv := hv2 c7
          refine w_iconst (pc := 85) C (v := 1) dX9_missing_85 (by decide) ?_
          refine w_goto (pc := 86) C (tgt := 90) dX9_missing_86 (by decide) ?_
          refine w_iadd (pc := 90) C dX9_missing_90 ?_
          refine w_istore_n (pc := 91) C dX9_missing_91 (by decide) ?_
          refine w_iinc (pc := 92) C dX9_missing_92 rfl (by decide) ?_
          refine w_goto (pc := 95) C (tgt := 20) dX9_missing_95 (by decide) ?_
          refine w_sub ?_ hv
          exact ⟨rfl, rfl, rfl, rfl, rfl, trivial⟩
set_option maxRecDepth 20000 in
set_option maxHeartbeats 2000000 in
theorem V_X9_missing_119 {X : Ctx} (C : C_X9_missing X) {k n : Nat} {Q : Pq} {h : Hp} {v0 : Nat} {v1 v2 : Int32}
    (hv : St9 h v0 ∧ nn h v0 12 ∧ St4 h (gp h v0 12) ∧ S_X8_add (lX X) (dtX X) 0 0 [.ref (v0 + 3), .long (Int32.toInt64 ((gi h (gp h v0 12) 7) - v2))] h (QV fun h4 =>
    Q (some (.int (v1 - v2))) h4)) :
    Wj X k n Q 119 [(0, .ref v0), (1, .int v1), (2, .int v2)] [] h := by
  refine w_aload_n (pc := 119) C dX9_missing_119 rfl ?_
  obtain ⟨f1, hv⟩ := hv
  refine w_getR (pc := 120) C fl_X9_19 rfl dX9_missing_120 (St9_k f1) (St9_r1 f1) ?_
  refine w_aload_n (pc := 123) C dX9_missing_123 rfl ?_
  obtain ⟨f2, hv⟩ := hv
  refine w_getR (pc := 124) C fl_X9_78 rfl dX9_missing_124 (St9_k f1) f2 ?_
  obtain ⟨f3, hv⟩ := hv
  refine w_getI (pc := 127) C fl_X9_363 rfl dX9_missing_127 (St4_k f3) ?_
  refine w_iload_n (pc := 130) C dX9_missing_130 rfl ?_
  refine w_isub (pc := 131) C dX9_missing_131 ?_
  refine w_i2l (pc := 132) C dX9_missing_132 ?_
  refine w_cV0_1 (pc := 133) C cl_X9_164 lv_X8_add (by decide) dX9_missing_133 (Nat.le_of_ble_eq_true rfl) (c := 8) rfl (St8_k (St9_s1 f1)) (hv.mono (fun v h4 hp => ?_))
  obtain ⟨rfl, hv⟩ := hp
  refine w_iload_n (pc := 136) C dX9_missing_136 rfl ?_
  refine w_iload_n (pc := 137) C dX9_missing_137 rfl ?_
  refine w_isub (pc := 138) C dX9_missing_138 ?_
  exact w_iret (pc := 139) C dX9_missing_139 hv
theorem dX9_reaches_0 : decode cX9_reaches 0 = .ok (.aload_n 0, 1) := by decide +kernel
theorem dX9_reaches_1 : decode cX9_reaches 1 = .ok (.getfield 78, 3) := by decide +kernel
theorem dX9_reaches_4 : decode cX9_reaches 4 = .ok (.aload_n 0, 1) := by decide +kernel
theorem dX9_reaches_5 : decode cX9_reaches 5 = .ok (.getfield 54, 3) := by decide +kernel
theorem dX9_reaches_8 : decode cX9_reaches 8 = .ok (.invokevirtual 386, 3) := by decide +kernel
theorem dX9_reaches_11 : decode cX9_reaches 11 = .ok (.aload_n 0, 1) := by decide +kernel
theorem dX9_reaches_12 : decode cX9_reaches 12 = .ok (.getfield 54, 3) := by decide +kernel
theorem dX9_reaches_15 : decode cX9_reaches 15 = .ok (.getfield 300, 3) := by decide +kernel
theorem dX9_reaches_18 : decode cX9_reaches 18 = .ok (.lstore_n 1, 1) := by decide +kernel
theorem dX9_reaches_19 : decode cX9_reaches 19 = .ok (.aload_n 0, 1) := by decide +kernel
theorem dX9_reaches_20 : decode cX9_reaches 20 = .ok (.getfield 54, 3) := by decide +kernel
theorem dX9_reaches_23 : decode cX9_reaches 23 = .ok (.getfield 297, 3) := by decide +kernel
theorem dX9_reaches_26 : decode cX9_reaches 26 = .ok (.lload_n 1, 1) := by decide +kernel
theorem dX9_reaches_27 : decode cX9_reaches 27 = .ok (.invokestatic 389, 3) := by decide +kernel
theorem dX9_reaches_30 : decode cX9_reaches 30 = .ok (.lstore_n 3, 1) := by decide +kernel
theorem dX9_reaches_31 : decode cX9_reaches 31 = .ok (.ldc2_w 393, 3) := by decide +kernel
theorem dX9_reaches_34 : decode cX9_reaches 34 = .ok (.lstore 5, 2) := by decide +kernel
theorem dX9_reaches_36 : decode cX9_reaches 36 = .ok (.iconst (-1), 1) := by decide +kernel
theorem dX9_reaches_37 : decode cX9_reaches 37 = .ok (.istore 7, 2) := by decide +kernel
theorem dX9_reaches_39 : decode cX9_reaches 39 = .ok (.iconst 0, 1) := by decide +kernel
theorem dX9_reaches_40 : decode cX9_reaches 40 = .ok (.istore 8, 2) := by decide +kernel
theorem dX9_reaches_42 : decode cX9_reaches 42 = .ok (.iload 8, 2) := by decide +kernel
theorem dX9_reaches_44 : decode cX9_reaches 44 = .ok (.aload_n 0, 1) := by decide +kernel
theorem dX9_reaches_45 : decode cX9_reaches 45 = .ok (.getfield 78, 3) := by decide +kernel
theorem dX9_reaches_48 : decode cX9_reaches 48 = .ok (.getfield 363, 3) := by decide +kernel
theorem dX9_reaches_51 : decode cX9_reaches 51 = .ok (.if_icmp .ge 108, 3) := by decide +kernel
theorem dX9_reaches_54 : decode cX9_reaches 54 = .ok (.aload_n 0, 1) := by decide +kernel
theorem dX9_reaches_55 : decode cX9_reaches 55 = .ok (.getfield 78, 3) := by decide +kernel
theorem dX9_reaches_58 : decode cX9_reaches 58 = .ok (.iload 8, 2) := by decide +kernel
theorem dX9_reaches_60 : decode cX9_reaches 60 = .ok (.aload_n 0, 1) := by decide +kernel
theorem dX9_reaches_61 : decode cX9_reaches 61 = .ok (.getfield 58, 3) := by decide +kernel
theorem dX9_reaches_64 : decode cX9_reaches 64 = .ok (.invokevirtual 395, 3) := by decide +kernel
theorem dX9_reaches_67 : decode cX9_reaches 67 = .ok (.aload_n 0, 1) := by decide +kernel
theorem dX9_reaches_68 : decode cX9_reaches 68 = .ok (.getfield 58, 3) := by decide +kernel
theorem dX9_reaches_71 : decode cX9_reaches 71 = .ok (.getfield 300, 3) := by decide +kernel
theorem dX9_reaches_74 : decode cX9_reaches 74 = .ok (.lconst 0, 1) := by decide +kernel
theorem dX9_reaches_75 : decode cX9_reaches 75 = .ok (.lcmp, 1) := by decide +kernel
theorem dX9_reaches_76 : decode cX9_reaches 76 = .ok (.ifCond .le 77, 3) := by decide +kernel
theorem dX9_reaches_79 : decode cX9_reaches 79 = .ok (.lload_n 1, 1) := by decide +kernel
theorem dX9_reaches_80 : decode cX9_reaches 80 = .ok (.lconst 0, 1) := by decide +kernel
theorem dX9_reaches_81 : decode cX9_reaches 81 = .ok (.lcmp, 1) := by decide +kernel
theorem dX9_reaches_82 : decode cX9_reaches 82 = .ok (.ifCond .le 71, 3) := by decide +kernel
theorem dX9_reaches_85 : decode cX9_reaches 85 = .ok (.lload_n 1, 1) := by decide +kernel
theorem dX9_reaches_86 : decode cX9_reaches 86 = .ok (.aload_n 0, 1) := by decide +kernel
theorem dX9_reaches_87 : decode cX9_reaches 87 = .ok (.getfield 58, 3) := by decide +kernel
theorem dX9_reaches_90 : decode cX9_reaches 90 = .ok (.getfield 300, 3) := by decide +kernel
theorem dX9_reaches_93 : decode cX9_reaches 93 = .ok (.lrem, 1) := by decide +kernel
theorem dX9_reaches_94 : decode cX9_reaches 94 = .ok (.lconst 0, 1) := by decide +kernel
theorem dX9_reaches_95 : decode cX9_reaches 95 = .ok (.lcmp, 1) := by decide +kernel
theorem dX9_reaches_96 : decode cX9_reaches 96 = .ok (.ifCond .ne 57, 3) := by decide +kernel
theorem dX9_reaches_99 : decode cX9_reaches 99 = .ok (.aload_n 0, 1) := by decide +kernel
theorem dX9_reaches_100 : decode cX9_reaches 100 = .ok (.getfield 58, 3) := by decide +kernel
theorem dX9_reaches_103 : decode cX9_reaches 103 = .ok (.getfield 297, 3) := by decide +kernel
theorem dX9_reaches_106 : decode cX9_reaches 106 = .ok (.lload_n 1, 1) := by decide +kernel
theorem dX9_reaches_107 : decode cX9_reaches 107 = .ok (.aload_n 0, 1) := by decide +kernel
theorem dX9_reaches_108 : decode cX9_reaches 108 = .ok (.getfield 58, 3) := by decide +kernel
theorem dX9_reaches_111 : decode cX9_reaches 111 = .ok (.getfield 300, 3) := by decide +kernel
theorem dX9_reaches_114 : decode cX9_reaches 114 = .ok (.ldiv, 1) := by decide +kernel
theorem dX9_reaches_115 : decode cX9_reaches 115 = .ok (.lmul, 1) := by decide +kernel
theorem dX9_reaches_116 : decode cX9_reaches 116 = .ok (.lload_n 3, 1) := by decide +kernel
theorem dX9_reaches_117 : decode cX9_reaches 117 = .ok (.lmul, 1) := by decide +kernel
theorem dX9_reaches_118 : decode cX9_reaches 118 = .ok (.lload_n 1, 1) := by decide +kernel
theorem dX9_reaches_119 : decode cX9_reaches 119 = .ok (.lrem, 1) := by decide +kernel
theorem dX9_reaches_120 : decode cX9_reaches 120 = .ok (.lstore 9, 2) := by decide +kernel
theorem dX9_reaches_122 : decode cX9_reaches 122 = .ok (.lload 9, 2) := by decide +kernel
theorem dX9_reaches_124 : decode cX9_reaches 124 = .ok (.lconst 0, 1) := by decide +kernel
theorem dX9_reaches_125 : decode cX9_reaches 125 = .ok (.lcmp, 1) := by decide +kernel
theorem dX9_reaches_126 : decode cX9_reaches 126 = .ok (.ifCond .ne 7, 3) := by decide +kernel
theorem dX9_reaches_129 : decode cX9_reaches 129 = .ok (.lload_n 1, 1) := by decide +kernel
theorem dX9_reaches_130 : decode cX9_reaches 130 = .ok (.goto 5, 3) := by decide +kernel
theorem dX9_reaches_133 : decode cX9_reaches 133 = .ok (.lload 9, 2) := by decide +kernel
theorem dX9_reaches_135 : decode cX9_reaches 135 = .ok (.lstore 9, 2) := by decide +kernel
theorem dX9_reaches_137 : decode cX9_reaches 137 = .ok (.lload 9, 2) := by decide +kernel
theorem dX9_reaches_139 : decode cX9_reaches 139 = .ok (.lload 5, 2) := by decide +kernel
theorem dX9_reaches_141 : decode cX9_reaches 141 = .ok (.lcmp, 1) := by decide +kernel
theorem dX9_reaches_142 : decode cX9_reaches 142 = .ok (.ifCond .ge 11, 3) := by decide +kernel
theorem dX9_reaches_145 : decode cX9_reaches 145 = .ok (.lload 9, 2) := by decide +kernel
theorem dX9_reaches_147 : decode cX9_reaches 147 = .ok (.lstore 5, 2) := by decide +kernel
theorem dX9_reaches_149 : decode cX9_reaches 149 = .ok (.iload 8, 2) := by decide +kernel
theorem dX9_reaches_151 : decode cX9_reaches 151 = .ok (.istore 7, 2) := by decide +kernel
theorem dX9_reaches_153 : decode cX9_reaches 153 = .ok (.iinc 8 1, 3) := by decide +kernel
theorem dX9_reaches_156 : decode cX9_reaches 156 = .ok (.goto (-114), 3) := by decide +kernel
theorem dX9_reaches_159 : decode cX9_reaches 159 = .ok (.iload 7, 2) := by decide +kernel
theorem dX9_reaches_161 : decode cX9_reaches 161 = .ok (.iconst (-1), 1) := by decide +kernel
theorem dX9_reaches_162 : decode cX9_reaches 162 = .ok (.if_icmp .ne 6, 3) := by decide +kernel
theorem dX9_reaches_165 : decode cX9_reaches 165 = .ok (.bipush (-2), 2) := by decide +kernel
theorem dX9_reaches_167 : decode cX9_reaches 167 = .ok (.ireturn, 1) := by decide +kernel
theorem dX9_reaches_168 : decode cX9_reaches 168 = .ok (.aload_n 0, 1) := by decide +kernel
theorem dX9_reaches_169 : decode cX9_reaches 169 = .ok (.getfield 19, 3) := by decide +kernel
theorem dX9_reaches_172 : decode cX9_reaches 172 = .ok (.invokevirtual 158, 3) := by decide +kernel
theorem dX9_reaches_175 : decode cX9_reaches 175 = .ok (.aload_n 0, 1) := by decide +kernel
theorem dX9_reaches_176 : decode cX9_reaches 176 = .ok (.getfield 19, 3) := by decide +kernel
theorem dX9_reaches_179 : decode cX9_reaches 179 = .ok (.iload 7, 2) := by decide +kernel
theorem dX9_reaches_181 : decode cX9_reaches 181 = .ok (.i2l, 1) := by decide +kernel
theorem dX9_reaches_182 : decode cX9_reaches 182 = .ok (.invokevirtual 164, 3) := by decide +kernel
theorem dX9_reaches_185 : decode cX9_reaches 185 = .ok (.lload 5, 2) := by decide +kernel
theorem dX9_reaches_187 : decode cX9_reaches 187 = .ok (.l2i, 1) := by decide +kernel
theorem dX9_reaches_188 : decode cX9_reaches 188 = .ok (.ireturn, 1) := by decide +kernel
set_option maxRecDepth 20000 in
set_option maxHeartbeats 2000000 in
theorem V_X9_reaches_0 {X : Ctx} (C : C_X9_reaches X) {k n : Nat} {Q : Pq} {h : Hp} {v0 : Nat}
    (hv : St9 h v0 ∧ nn h v0 12 ∧ St4 h (gp h v0 12) ∧ 0 < (Int64.toInt (abL (hN h (gp h v0 12)))) ∧ (∀ z5 : Int64, z5 = (gl (fpt h (v0 + 13) (fmL (hSg h (gp h v0 12)) (abL (hN h (gp h v0 12)))) (abL (hN h (gp h v0 12)))) (v0 + 13) 1) →
    S_X9_inverse (lX X) (dtX X) 0 0 [.long (gl (fpt h (v0 + 13) (fmL (hSg h (gp h v0 12)) (abL (hN h (gp h v0 12)))) (abL (hN h (gp h v0 12)))) (v0 + 13) 0), .long z5] (fpt h (v0 + 13) (fmL (hSg h (gp h v0 12)) (abL (hN h (gp h v0 12)))) (abL (hN h (gp h v0 12)))) (QL fun x7 h6 =>
    Wj X k n Q 42 [(0, .ref v0), (1, .long z5), (3, .long x7), (5, .long 20001), (7, .int (-1)), (8, .int 0)] [] h6))) :
    Wj X k n Q 0 [(0, .ref v0)] [] h := by
  refine w_aload_n (pc := 0) C dX9_reaches_0 rfl ?_
  obtain ⟨f1, hv⟩ := hv
  obtain ⟨f2, hv⟩ := hv
  refine w_getR (pc := 1) C fl_X9_78 rfl dX9_reaches_1 (St9_k f1) f2 ?_
  refine w_aload_n (pc := 4) C dX9_reaches_4 rfl ?_
  refine w_getR (pc := 5) C fl_X9_54 rfl dX9_reaches_5 (St9_k f1) (St9_r6 f1) ?_
  obtain ⟨f3, hv⟩ := hv
  obtain ⟨f4, hv⟩ := hv
  refine w_cV0_1 (pc := 8) C cl_X9_386 lv_X4_stepOfHole (by decide) dX9_reaches_8 (Nat.le_of_ble_eq_true rfl) (c := 4) rfl (St4_k f3) ((sf_X4_stepOfHole (h := h) f3 (St9_k6 f1) f4).mono (fun v h9 hp => ?_))
  obtain ⟨e1, e2⟩ := hp
  rw [e1, e2]
  refine w_aload_n (pc := 11) C dX9_reaches_11 rfl ?_
  refine w_getR (pc := 12) C fl_X9_54 rfl dX9_reaches_12 (St9_k f1) (St9_r6 f1) ?_
  refine w_getL (pc := 15) C fl_X9_300 rfl dX9_reaches_15 (St9_k6 f1) ?_
  obtain ⟨z5, ez5⟩ : ∃ z : Int64, z = (gl (fpt h (v0 + 13) (fmL (hSg h (gp h v0 12)) (abL (hN h (gp h v0 12)))) (abL (hN h (gp h v0 12)))) (v0 + 13) 1) := ⟨_, rfl⟩
  have hv := hv z5 ez5
  rw [← ez5]
  refine w_lstore_n (pc := 18) C dX9_reaches_18 (by decide) ?_
  refine w_aload_n (pc := 19) C dX9_reaches_19 rfl ?_
  refine w_getR (pc := 20) C fl_X9_54 rfl dX9_reaches_20 (St9_k f1) (St9_r6 f1) ?_
  refine w_getL (pc := 23) C fl_X9_297 rfl dX9_reaches_23 (St9_k6 f1) ?_
  refine w_lload_n (pc := 26) C dX9_reaches_26 rfl ?_
  refine w_cS0_2 (pc := 27) C cl_X9_389 ls_X9_inverse (by decide) dX9_reaches_27 (Nat.le_of_ble_eq_true rfl) (hv.mono (fun v h6 hp => ?_))
  obtain ⟨x7, rfl, hv⟩ := hp
  refine w_lstore_n (pc := 30) C dX9_reaches_30 (by decide) ?_
  refine w_ldc2 (pc := 31) C ctl_X9_393 dX9_reaches_31 ?_
  refine w_lstore (pc := 34) C dX9_reaches_34 (by decide) ?_
  refine w_iconst (pc := 36) C (v := (-1)) dX9_reaches_36 (by decide) ?_
  refine w_istore (pc := 37) C dX9_reaches_37 (by decide) ?_
  refine w_iconst (pc := 39) C (v := 0) dX9_reaches_39 (by decide) ?_
  refine w_istore (pc := 40) C dX9_reaches_40 (by decide) ?_
  refine w_sub ?_ hv
  exact ⟨rfl, rfl, rfl, rfl, rfl, rfl, trivial⟩
set_option maxRecDepth 20000 in
set_option maxHeartbeats 2000000 in
theorem V_X9_reaches_42 {X : Ctx} (C : C_X9_reaches X) {k n : Nat} {Q : Pq} {h : Hp} {v0 : Nat} {v1 v3 v5 : Int64} {v7 v8 : Int32}
    (hv : St9 h v0 ∧ nn h v0 12 ∧ St4 h (gp h v0 12) ∧ (((gi h (gp h v0 12) 7) ≤ v8 → ((¬ v7 = (-1) → S_X8_add (lX X) (dtX X) 0 0 [.ref (v0 + 3), .long (Int32.toInt64 v7)] (tcl h (v0 + 3)) (QV fun h4 =>
    Q (some (.int (Int64.toInt32 v5))) h4)) ∧
    (v7 = (-1) → Q (some (.int (-2))) h))) ∧
    (¬ (gi h (gp h v0 12) 7) ≤ v8 → S_X4_wayToMark (lX X) (dtX X) 0 0 [.ref (gp h v0 12), .int v8, .ref (v0 + 14)] h (QV fun h6 =>
    St9 h6 v0 ∧ (((gl h6 (v0 + 14) 1) ≤ 0 → Wj X k n Q 42 [(0, .ref v0), (1, .long v1), (3, .long v3), (5, .long v5), (7, .int v7), (8, .int (v8 + Int32.ofInt 1))] [] h6) ∧
    (¬ (gl h6 (v0 + 14) 1) ≤ 0 → ((v1 ≤ 0 → Wj X k n Q 42 [(0, .ref v0), (1, .long v1), (3, .long v3), (5, .long v5), (7, .int v7), (8, .int (v8 + Int32.ofInt 1))] [] h6) ∧
    (¬ v1 ≤ 0 → ¬ (gl h6 (v0 + 14) 1) = 0 ∧ ((¬ (v1 % (gl h6 (v0 + 14) 1)) = 0 → Wj X k n Q 42 [(0, .ref v0), (1, .long v1), (3, .long v3), (5, .long v5), (7, .int v7), (8, .int (v8 + Int32.ofInt 1))] [] h6) ∧
    ((v1 % (gl h6 (v0 + 14) 1)) = 0 → ¬ v1 = 0 ∧ (∀ z10 : Int64, z10 = ((((gl h6 (v0 + 14) 0) * (v1 / (gl h6 (v0 + 14) 1))) * v3) % v1) →
    ((¬ z10 = 0 → Wj X k n Q 135 [(0, .ref v0), (1, .long v1), (3, .long v3), (5, .long v5), (7, .int v7), (8, .int v8)] [.long z10] h6) ∧
    (z10 = 0 → Wj X k n Q 135 [(0, .ref v0), (1, .long v1), (3, .long v3), (5, .long v5), (7, .int v7), (8, .int v8)] [.long v1] h6))))))))))))) :
    Wj X k n Q 42 [(0, .ref v0), (1, .long v1), (3, .long v3), (5, .long v5), (7, .int v7), (8, .int v8)] [] h := by
  refine w_iload (pc := 42) C dX9_reaches_42 rfl ?_
  refine w_aload_n (pc := 44) C dX9_reaches_44 rfl ?_
  obtain ⟨f1, hv⟩ := hv
  obtain ⟨f2, hv⟩ := hv
  refine w_getR (pc := 45) C fl_X9_78 rfl dX9_reaches_45 (St9_k f1) f2 ?_
  obtain ⟨f3, hv⟩ := hv
  refine w_getI (pc := 48) C fl_X9_363 rfl dX9_reaches_48 (St4_k f3) ?_
  refine w_icmp_ge (pc := 51) C (tgt := 159) dX9_reaches_51 (by decide) ?_
  obtain ⟨hv1, hv2⟩ := hv
  refine ⟨fun c15 => ?_, fun c15 => ?_⟩
  · have hv := hv1 c15
    refine w_iload (pc := 159) C dX9_reaches_159 rfl ?_
    refine w_iconst (pc := 161) C (v := (-1)) dX9_reaches_161 (by decide) ?_
    refine w_icmp_ne (pc := 162) C (tgt := 168) dX9_reaches_162 (by decide) ?_
    obtain ⟨hv1, hv2⟩ := hv
    refine ⟨fun c5 => ?_, fun c5 => ?_⟩
    · have hv := hv1 c5
      refine w_aload_n (pc := 168) C dX9_reaches_168 rfl ?_
      refine w_getR (pc := 169) C fl_X9_19 rfl dX9_reaches_169 (St9_k f1) (St9_r1 f1) ?_
      refine w_cV0_0 (pc := 172) C cl_X9_158 lv_X8_clear (by decide) dX9_reaches_172 (Nat.le_of_ble_eq_true rfl) (c := 8) rfl (St8_k (St9_s1 f1)) ((sf_X8_clear (h := h) (St9_s1 f1)).mono (fun v h9 hp => ?_))
      obtain ⟨e1, e2⟩ := hp
      rw [e1, e2]
      refine w_aload_n (pc := 175) C dX9_reaches_175 rfl ?_
      refine w_getR (pc := 176) C fl_X9_19 rfl dX9_reaches_176 (St9_k f1) (St9_r1 f1) ?_
      refine w_iload (pc := 179) C dX9_reaches_179 rfl ?_
      refine w_i2l (pc := 181) C dX9_reaches_181 ?_
      refine w_cV0_1 (pc := 182) C cl_X9_164 lv_X8_add (by decide) dX9_reaches_182 (Nat.le_of_ble_eq_true rfl) (c := 8) rfl (St8_k (St9_s1 f1)) (hv.mono (fun v h4 hp => ?_))
      obtain ⟨rfl, hv⟩ := hp
      refine w_lload (pc := 185) C dX9_reaches_185 rfl ?_
      refine w_l2i (pc := 187) C dX9_reaches_187 ?_
      exact w_iret (pc := 188) C dX9_reaches_188 hv
    · have hv := hv2 c5
      refine w_bipush (pc := 165) C (v := (-2)) dX9_reaches_165 (by decide) ?_
      exact w_iret (pc := 167) C dX9_reaches_167 hv
  · have hv := hv2 c15
    refine w_aload_n (pc := 54) C dX9_reaches_54 rfl ?_
    refine w_getR (pc := 55) C fl_X9_78 rfl dX9_reaches_55 (St9_k f1) f2 ?_
    refine w_iload (pc := 58) C dX9_reaches_58 rfl ?_
    refine w_aload_n (pc := 60) C dX9_reaches_60 rfl ?_
    refine w_getR (pc := 61) C fl_X9_58 rfl dX9_reaches_61 (St9_k f1) (St9_r7 f1) ?_
    refine w_cV0_2 (pc := 64) C cl_X9_395 lv_X4_wayToMark (by decide) dX9_reaches_64 (Nat.le_of_ble_eq_true rfl) (c := 4) rfl (St4_k f3) (hv.mono (fun v h6 hp => ?_))
    obtain ⟨rfl, hv⟩ := hp
    refine w_aload_n (pc := 67) C dX9_reaches_67 rfl ?_
    obtain ⟨f7, hv⟩ := hv
    refine w_getR (pc := 68) C fl_X9_58 rfl dX9_reaches_68 (St9_k f7) (St9_r7 f7) ?_
    refine w_getL (pc := 71) C fl_X9_300 rfl dX9_reaches_71 (St9_k7 f7) ?_
    refine w_lconst (pc := 74) C (v := 0) dX9_reaches_74 (by decide) ?_
    refine w_lcmp_le (pc := 75) C (tgt := 153) dX9_reaches_75 dX9_reaches_76 (by decide) ?_
    obtain ⟨hv1, hv2⟩ := hv
    refine ⟨fun c14 => ?_, fun c14 => ?_⟩
    · have hv := hv1 c14
      refine w_iinc (pc := 153) C dX9_reaches_153 rfl (by decide) ?_
      refine w_goto (pc := 156) C (tgt := 42) dX9_reaches_156 (by decide) ?_
      refine w_sub ?_ hv
      exact ⟨rfl, rfl, rfl, rfl, rfl, rfl, trivial⟩
    · have hv := hv2 c14
      refine w_lload_n (pc := 79) C dX9_reaches_79 rfl ?_
      refine w_lconst (pc := 80) C (v := 0) dX9_reaches_80 (by decide) ?_
      refine w_lcmp_le (pc := 81) C (tgt := 153) dX9_reaches_81 dX9_reaches_82 (by decide) ?_
      obtain ⟨hv1, hv2⟩ := hv
      refine ⟨fun c13 => ?_, fun c13 => ?_⟩
      · have hv := hv1 c13
        refine w_iinc (pc := 153) C dX9_reaches_153 rfl (by decide) ?_
        refine w_goto (pc := 156) C (tgt := 42) dX9_reaches_156 (by decide) ?_
        refine w_sub ?_ hv
        exact ⟨rfl, rfl, rfl, rfl, rfl, rfl, trivial⟩
      · have hv := hv2 c13
        refine w_lload_n (pc := 85) C dX9_reaches_85 rfl ?_
        refine w_aload_n (pc := 86) C dX9_reaches_86 rfl ?_
        refine w_getR (pc := 87) C fl_X9_58 rfl dX9_reaches_87 (St9_k f7) (St9_r7 f7) ?_
        refine w_getL (pc := 90) C fl_X9_300 rfl dX9_reaches_90 (St9_k7 f7) ?_
        obtain ⟨f8, hv⟩ := hv
        refine w_lrem (pc := 93) C dX9_reaches_93 f8 ?_
        refine w_lconst (pc := 94) C (v := 0) dX9_reaches_94 (by decide) ?_
        refine w_lcmp_ne (pc := 95) C (tgt := 153) dX9_reaches_95 dX9_reaches_96 (by decide) ?_
        obtain ⟨hv1, hv2⟩ := hv
        refine ⟨fun c12 => ?_, fun c12 => ?_⟩
        · have hv := hv1 c12
          refine w_iinc (pc := 153) C dX9_reaches_153 rfl (by decide) ?_
          refine w_goto (pc := 156) C (tgt := 42) dX9_reaches_156 (by decide) ?_
          refine w_sub ?_ hv
          exact ⟨rfl, rfl, rfl, rfl, rfl, rfl, trivial⟩
        · have hv := hv2 c12
          refine w_aload_n (pc := 99) C dX9_reaches_99 rfl ?_
          refine w_getR (pc := 100) C fl_X9_58 rfl dX9_reaches_100 (St9_k f7) (St9_r7 f7) ?_
          refine w_getL (pc := 103) C fl_X9_297 rfl dX9_reaches_103 (St9_k7 f7) ?_
          refine w_lload_n (pc := 106) C dX9_reaches_106 rfl ?_
          refine w_aload_n (pc := 107) C dX9_reaches_107 rfl ?_
          refine w_getR (pc := 108) C fl_X9_58 rfl dX9_reaches_108 (St9_k f7) (St9_r7 f7) ?_
          refine w_getL (pc := 111) C fl_X9_300 rfl dX9_reaches_111 (St9_k7 f7) ?_
          refine w_ldiv (pc := 114) C dX9_reaches_114 f8 ?_
          refine w_lmul (pc := 115) C dX9_reaches_115 ?_
          refine w_lload_n (pc := 116) C dX9_reaches_116 rfl ?_
          refine w_lmul (pc := 117) C dX9_reaches_117 ?_
          refine w_lload_n (pc := 118) C dX9_reaches_118 rfl ?_
          obtain ⟨f9, hv⟩ := hv
          refine w_lrem (pc := 119) C dX9_reaches_119 f9 ?_
          obtain ⟨z10, ez10⟩ : ∃ z : Int64, z = ((((gl h6 (v0 + 14) 0) * (v1 / (gl h6 (v0 + 14) 1))) * v3) % v1) := ⟨_, rfl⟩
          have hv := hv z10 ez10
          rw [← ez10]
          refine w_lstore (pc := 120) C dX9_reaches_120 (by decide) ?_
          refine w_lload (pc := 122) C dX9_reaches_122 rfl ?_
          refine w_lconst (pc := 124) C (v := 0) dX9_reaches_124 (by decide) ?_
          refine w_lcmp_ne (pc := 125) C (tgt := 133) dX9_reaches_125 dX9_reaches_126 (by decide) ?_
          obtain ⟨hv1, hv2⟩ := hv
          refine ⟨fun c11 => ?_, fun c11 => ?_⟩
          · have hv := hv1 c11
            refine w_lload (pc := 133) C dX9_reaches_133 rfl ?_
            refine w_sub ?_ hv
            exact ⟨rfl, rfl, rfl, rfl, rfl, rfl, trivial⟩
          · have hv := hv2 c11
            refine w_lload_n (pc := 129) C dX9_reaches_129 rfl ?_
            refine w_goto (pc := 130) C (tgt := 135) dX9_reaches_130 (by decide) ?_
            refine w_sub ?_ hv
            exact ⟨rfl, rfl, rfl, rfl, rfl, rfl, trivial⟩
set_option maxRecDepth 20000 in
set_option maxHeartbeats 2000000 in
theorem V_X9_reaches_135 {X : Ctx} (C : C_X9_reaches X) {k n : Nat} {Q : Pq} {h : Hp} {v0 : Nat} {v1 v3 v5 s0 : Int64} {v7 v8 : Int32}
    (hv : ((v5 ≤ s0 → Wj X k n Q 42 [(0, .ref v0), (1, .long v1), (3, .long v3), (5, .long v5), (7, .int v7), (8, .int (v8 + Int32.ofInt 1))] [] h) ∧
    (¬ v5 ≤ s0 → Wj X k n Q 42 [(0, .ref v0), (1, .long v1), (3, .long v3), (5, .long s0), (7, .int v8), (8, .int (v8 + Int32.ofInt 1))] [] h))) :
    Wj X k n Q 135 [(0, .ref v0), (1, .long v1), (3, .long v3), (5, .long v5), (7, .int v7), (8, .int v8)] [.long s0] h := by
  refine w_lstore (pc := 135) C dX9_reaches_135 (by decide) ?_
  refine w_lload (pc := 137) C dX9_reaches_137 rfl ?_
  refine w_lload (pc := 139) C dX9_reaches_139 rfl ?_
  refine w_lcmp_ge (pc := 141) C (tgt := 153) dX9_reaches_141 dX9_reaches_142 (by decide) ?_
  obtain ⟨hv1, hv2⟩ := hv
  refine ⟨fun c1 => ?_, fun c1 => ?_⟩
  · have hv := hv1 c1
    refine w_iinc (pc := 153) C dX9_reaches_153 rfl (by decide) ?_
    refine w_goto (pc := 156) C (tgt := 42) dX9_reaches_156 (by decide) ?_
    refine w_sub ?_ hv
    exact ⟨rfl, rfl, rfl, rfl, rfl, rfl, trivial⟩
  · have hv := hv2 c1
    refine w_lload (pc := 145) C dX9_reaches_145 rfl ?_
    refine w_lstore (pc := 147) C dX9_reaches_147 (by decide) ?_
    refine w_iload (pc := 149) C dX9_reaches_149 rfl ?_
    refine w_istore (pc := 151) C dX9_reaches_151 (by decide) ?_
    refine w_iinc (pc := 153) C dX9_reaches_153 rfl (by decide) ?_
    refine w_goto (pc := 156) C (tgt := 42) dX9_reaches_156 (by decide) ?_
    refine w_sub ?_ hv
    exact ⟨rfl, rfl, rfl, rfl, rfl, rfl, trivial⟩
theorem dX10_reaches_0 : decode cX10_reaches 0 = .ok (.aload_n 0, 1) := by decide +kernel
theorem dX10_reaches_1 : decode cX10_reaches 1 = .ok (.iconst 0, 1) := by decide +kernel
theorem dX10_reaches_2 : decode cX10_reaches 2 = .ok (.putfield 1, 3) := by decide +kernel
theorem dX10_reaches_5 : decode cX10_reaches 5 = .ok (.aload_n 0, 1) := by decide +kernel
theorem dX10_reaches_6 : decode cX10_reaches 6 = .ok (.aload_n 0, 1) := by decide +kernel
theorem dX10_reaches_7 : decode cX10_reaches 7 = .ok (.getfield 68, 3) := by decide +kernel
theorem dX10_reaches_10 : decode cX10_reaches 10 = .ok (.bipush 53, 2) := by decide +kernel
theorem dX10_reaches_12 : decode cX10_reaches 12 = .ok (.iaload, 1) := by decide +kernel
theorem dX10_reaches_13 : decode cX10_reaches 13 = .ok (.invokevirtual 353, 3) := by decide +kernel
theorem dX10_reaches_16 : decode cX10_reaches 16 = .ok (.aload_n 0, 1) := by decide +kernel
theorem dX10_reaches_17 : decode cX10_reaches 17 = .ok (.getfield 71, 3) := by decide +kernel
theorem dX10_reaches_20 : decode cX10_reaches 20 = .ok (.iconst 1, 1) := by decide +kernel
theorem dX10_reaches_21 : decode cX10_reaches 21 = .ok (.laload, 1) := by decide +kernel
theorem dX10_reaches_22 : decode cX10_reaches 22 = .ok (.aload_n 0, 1) := by decide +kernel
theorem dX10_reaches_23 : decode cX10_reaches 23 = .ok (.getfield 350, 3) := by decide +kernel
theorem dX10_reaches_26 : decode cX10_reaches 26 = .ok (.invokestatic 14, 3) := by decide +kernel
theorem dX10_reaches_29 : decode cX10_reaches 29 = .ok (.lstore_n 1, 1) := by decide +kernel
theorem dX10_reaches_30 : decode cX10_reaches 30 = .ok (.aload_n 0, 1) := by decide +kernel
theorem dX10_reaches_31 : decode cX10_reaches 31 = .ok (.getfield 71, 3) := by decide +kernel
theorem dX10_reaches_34 : decode cX10_reaches 34 = .ok (.iconst 1, 1) := by decide +kernel
theorem dX10_reaches_35 : decode cX10_reaches 35 = .ok (.laload, 1) := by decide +kernel
theorem dX10_reaches_36 : decode cX10_reaches 36 = .ok (.lload_n 1, 1) := by decide +kernel
theorem dX10_reaches_37 : decode cX10_reaches 37 = .ok (.ldiv, 1) := by decide +kernel
theorem dX10_reaches_38 : decode cX10_reaches 38 = .ok (.aload_n 0, 1) := by decide +kernel
theorem dX10_reaches_39 : decode cX10_reaches 39 = .ok (.getfield 350, 3) := by decide +kernel
theorem dX10_reaches_42 : decode cX10_reaches 42 = .ok (.lmul, 1) := by decide +kernel
theorem dX10_reaches_43 : decode cX10_reaches 43 = .ok (.lstore_n 3, 1) := by decide +kernel
theorem dX10_reaches_44 : decode cX10_reaches 44 = .ok (.iconst 0, 1) := by decide +kernel
theorem dX10_reaches_45 : decode cX10_reaches 45 = .ok (.istore 5, 2) := by decide +kernel
theorem dX10_reaches_47 : decode cX10_reaches 47 = .ok (.iload 5, 2) := by decide +kernel
theorem dX10_reaches_49 : decode cX10_reaches 49 = .ok (.aload_n 0, 1) := by decide +kernel
theorem dX10_reaches_50 : decode cX10_reaches 50 = .ok (.invokevirtual 378, 3) := by decide +kernel
theorem dX10_reaches_53 : decode cX10_reaches 53 = .ok (.if_icmp .ge 50, 3) := by decide +kernel
theorem dX10_reaches_56 : decode cX10_reaches 56 = .ok (.aload_n 0, 1) := by decide +kernel
theorem dX10_reaches_57 : decode cX10_reaches 57 = .ok (.getfield 92, 3) := by decide +kernel
theorem dX10_reaches_60 : decode cX10_reaches 60 = .ok (.iload 5, 2) := by decide +kernel
theorem dX10_reaches_62 : decode cX10_reaches 62 = .ok (.lload_n 3, 1) := by decide +kernel
theorem dX10_reaches_63 : decode cX10_reaches 63 = .ok (.aload_n 0, 1) := by decide +kernel
theorem dX10_reaches_64 : decode cX10_reaches 64 = .ok (.iload 5, 2) := by decide +kernel
theorem dX10_reaches_66 : decode cX10_reaches 66 = .ok (.invokevirtual 385, 3) := by decide +kernel
theorem dX10_reaches_69 : decode cX10_reaches 69 = .ok (.lrem, 1) := by decide +kernel
theorem dX10_reaches_70 : decode cX10_reaches 70 = .ok (.lconst 0, 1) := by decide +kernel
theorem dX10_reaches_71 : decode cX10_reaches 71 = .ok (.lcmp, 1) := by decide +kernel
theorem dX10_reaches_72 : decode cX10_reaches 72 = .ok (.ifCond .ne 21, 3) := by decide +kernel
theorem dX10_reaches_75 : decode cX10_reaches 75 = .ok (.aload_n 0, 1) := by decide +kernel
theorem dX10_reaches_76 : decode cX10_reaches 76 = .ok (.iload 5, 2) := by decide +kernel
theorem dX10_reaches_78 : decode cX10_reaches 78 = .ok (.invokevirtual 381, 3) := by decide +kernel
theorem dX10_reaches_81 : decode cX10_reaches 81 = .ok (.lload_n 3, 1) := by decide +kernel
theorem dX10_reaches_82 : decode cX10_reaches 82 = .ok (.aload_n 0, 1) := by decide +kernel
theorem dX10_reaches_83 : decode cX10_reaches 83 = .ok (.iload 5, 2) := by decide +kernel
theorem dX10_reaches_85 : decode cX10_reaches 85 = .ok (.invokevirtual 385, 3) := by decide +kernel
theorem dX10_reaches_88 : decode cX10_reaches 88 = .ok (.ldiv, 1) := by decide +kernel
theorem dX10_reaches_89 : decode cX10_reaches 89 = .ok (.lmul, 1) := by decide +kernel
theorem dX10_reaches_90 : decode cX10_reaches 90 = .ok (.goto 6, 3) := by decide +kernel
theorem dX10_reaches_93 : decode cX10_reaches 93 = .ok (.ldc2_w 345, 3) := by decide +kernel
theorem dX10_reaches_96 : decode cX10_reaches 96 = .ok (.lastore, 1) := by decide +kernel
theorem dX10_reaches_97 : decode cX10_reaches 97 = .ok (.iinc 5 1, 3) := by decide +kernel
theorem dX10_reaches_100 : decode cX10_reaches 100 = .ok (.goto (-53), 3) := by decide +kernel
theorem dX10_reaches_103 : decode cX10_reaches 103 = .ok (.aload_n 0, 1) := by decide +kernel
theorem dX10_reaches_104 : decode cX10_reaches 104 = .ok (.getfield 71, 3) := by decide +kernel
theorem dX10_reaches_107 : decode cX10_reaches 107 = .ok (.iconst 0, 1) := by decide +kernel
theorem dX10_reaches_108 : decode cX10_reaches 108 = .ok (.laload, 1) := by decide +kernel
theorem dX10_reaches_109 : decode cX10_reaches 109 = .ok (.aload_n 0, 1) := by decide +kernel
theorem dX10_reaches_110 : decode cX10_reaches 110 = .ok (.getfield 350, 3) := by decide +kernel
theorem dX10_reaches_113 : decode cX10_reaches 113 = .ok (.lload_n 1, 1) := by decide +kernel
theorem dX10_reaches_114 : decode cX10_reaches 114 = .ok (.ldiv, 1) := by decide +kernel
theorem dX10_reaches_115 : decode cX10_reaches 115 = .ok (.lmul, 1) := by decide +kernel
theorem dX10_reaches_116 : decode cX10_reaches 116 = .ok (.lstore 5, 2) := by decide +kernel
theorem dX10_reaches_118 : decode cX10_reaches 118 = .ok (.aload_n 0, 1) := by decide +kernel
theorem dX10_reaches_119 : decode cX10_reaches 119 = .ok (.getfield 347, 3) := by decide +kernel
theorem dX10_reaches_122 : decode cX10_reaches 122 = .ok (.aload_n 0, 1) := by decide +kernel
theorem dX10_reaches_123 : decode cX10_reaches 123 = .ok (.getfield 350, 3) := by decide +kernel
theorem dX10_reaches_126 : decode cX10_reaches 126 = .ok (.lrem, 1) := by decide +kernel
theorem dX10_reaches_127 : decode cX10_reaches 127 = .ok (.aload_n 0, 1) := by decide +kernel
theorem dX10_reaches_128 : decode cX10_reaches 128 = .ok (.getfield 71, 3) := by decide +kernel
theorem dX10_reaches_131 : decode cX10_reaches 131 = .ok (.iconst 1, 1) := by decide +kernel
theorem dX10_reaches_132 : decode cX10_reaches 132 = .ok (.laload, 1) := by decide +kernel
theorem dX10_reaches_133 : decode cX10_reaches 133 = .ok (.lload_n 1, 1) := by decide +kernel
theorem dX10_reaches_134 : decode cX10_reaches 134 = .ok (.ldiv, 1) := by decide +kernel
theorem dX10_reaches_135 : decode cX10_reaches 135 = .ok (.lmul, 1) := by decide +kernel
theorem dX10_reaches_136 : decode cX10_reaches 136 = .ok (.lstore 7, 2) := by decide +kernel
theorem dX10_reaches_138 : decode cX10_reaches 138 = .ok (.iconst 1, 1) := by decide +kernel
theorem dX10_reaches_139 : decode cX10_reaches 139 = .ok (.istore 9, 2) := by decide +kernel
theorem dX10_reaches_141 : decode cX10_reaches 141 = .ok (.iload 9, 2) := by decide +kernel
theorem dX10_reaches_143 : decode cX10_reaches 143 = .ok (.sipush 20000, 3) := by decide +kernel
theorem dX10_reaches_146 : decode cX10_reaches 146 = .ok (.if_icmp .gt 68, 3) := by decide +kernel
theorem dX10_reaches_149 : decode cX10_reaches 149 = .ok (.lload 5, 2) := by decide +kernel
theorem dX10_reaches_151 : decode cX10_reaches 151 = .ok (.lload 7, 2) := by decide +kernel
theorem dX10_reaches_153 : decode cX10_reaches 153 = .ok (.ladd, 1) := by decide +kernel
theorem dX10_reaches_154 : decode cX10_reaches 154 = .ok (.lload_n 3, 1) := by decide +kernel
theorem dX10_reaches_155 : decode cX10_reaches 155 = .ok (.lrem, 1) := by decide +kernel
theorem dX10_reaches_156 : decode cX10_reaches 156 = .ok (.lload_n 3, 1) := by decide +kernel
theorem dX10_reaches_157 : decode cX10_reaches 157 = .ok (.ladd, 1) := by decide +kernel
theorem dX10_reaches_158 : decode cX10_reaches 158 = .ok (.lload_n 3, 1) := by decide +kernel
theorem dX10_reaches_159 : decode cX10_reaches 159 = .ok (.lrem, 1) := by decide +kernel
theorem dX10_reaches_160 : decode cX10_reaches 160 = .ok (.lstore 5, 2) := by decide +kernel
theorem dX10_reaches_162 : decode cX10_reaches 162 = .ok (.iconst 0, 1) := by decide +kernel
theorem dX10_reaches_163 : decode cX10_reaches 163 = .ok (.istore 10, 2) := by decide +kernel
theorem dX10_reaches_165 : decode cX10_reaches 165 = .ok (.iload 10, 2) := by decide +kernel
theorem dX10_reaches_167 : decode cX10_reaches 167 = .ok (.aload_n 0, 1) := by decide +kernel
theorem dX10_reaches_168 : decode cX10_reaches 168 = .ok (.invokevirtual 378, 3) := by decide +kernel
theorem dX10_reaches_171 : decode cX10_reaches 171 = .ok (.if_icmp .ge 37, 3) := by decide +kernel
theorem dX10_reaches_174 : decode cX10_reaches 174 = .ok (.aload_n 0, 1) := by decide +kernel
theorem dX10_reaches_175 : decode cX10_reaches 175 = .ok (.getfield 92, 3) := by decide +kernel
theorem dX10_reaches_178 : decode cX10_reaches 178 = .ok (.iload 10, 2) := by decide +kernel
theorem dX10_reaches_180 : decode cX10_reaches 180 = .ok (.laload, 1) := by decide +kernel
theorem dX10_reaches_181 : decode cX10_reaches 181 = .ok (.lload 5, 2) := by decide +kernel
theorem dX10_reaches_183 : decode cX10_reaches 183 = .ok (.lcmp, 1) := by decide +kernel
theorem dX10_reaches_184 : decode cX10_reaches 184 = .ok (.ifCond .ne 18, 3) := by decide +kernel
theorem dX10_reaches_187 : decode cX10_reaches 187 = .ok (.aload_n 0, 1) := by decide +kernel
theorem dX10_reaches_188 : decode cX10_reaches 188 = .ok (.iconst 0, 1) := by decide +kernel
theorem dX10_reaches_189 : decode cX10_reaches 189 = .ok (.putfield 11, 3) := by decide +kernel
theorem dX10_reaches_192 : decode cX10_reaches 192 = .ok (.aload_n 0, 1) := by decide +kernel
theorem dX10_reaches_193 : decode cX10_reaches 193 = .ok (.iload 10, 2) := by decide +kernel
theorem dX10_reaches_195 : decode cX10_reaches 195 = .ok (.i2l, 1) := by decide +kernel
theorem dX10_reaches_196 : decode cX10_reaches 196 = .ok (.invokevirtual 18, 3) := by decide +kernel
theorem dX10_reaches_199 : decode cX10_reaches 199 = .ok (.iload 9, 2) := by decide +kernel
theorem dX10_reaches_201 : decode cX10_reaches 201 = .ok (.ireturn, 1) := by decide +kernel
theorem dX10_reaches_202 : decode cX10_reaches 202 = .ok (.iinc 10 1, 3) := by decide +kernel
theorem dX10_reaches_205 : decode cX10_reaches 205 = .ok (.goto (-40), 3) := by decide +kernel
theorem dX10_reaches_208 : decode cX10_reaches 208 = .ok (.iinc 9 1, 3) := by decide +kernel
theorem dX10_reaches_211 : decode cX10_reaches 211 = .ok (.goto (-70), 3) := by decide +kernel
theorem dX10_reaches_214 : decode cX10_reaches 214 = .ok (.bipush (-2), 2) := by decide +kernel
theorem dX10_reaches_216 : decode cX10_reaches 216 = .ok (.ireturn, 1) := by decide +kernel
set_option maxRecDepth 20000 in
set_option maxHeartbeats 2000000 in
theorem V_X10_reaches_0 {X : Ctx} (C : C_X10_reaches X) {k n : Nat} {Q : Pq} {h : Hp} {v0 : Nat}
    (hv : St10 h v0 ∧ S_X10_laysStep (lX X) (dtX X) 0 0 [.ref v0, .int (gi (si h v0 0 0) (v0 + 3) (ix 53))] (si h v0 0 0) (QV fun h2 =>
    St10 h2 v0 ∧ -9223372036854775807 ≤ (Int64.toInt (gl h2 (v0 + 4) (ix 1))) ∧ 0 < (Int64.toInt (gl h2 v0 30)) ∧ ¬ (cm (gl h2 (v0 + 4) (ix 1)) (gl h2 v0 30)) = 0 ∧ (∀ z7 : Int64, z7 = (((gl h2 (v0 + 4) (ix 1)) / (cm (gl h2 (v0 + 4) (ix 1)) (gl h2 v0 30))) * (gl h2 v0 30)) →
    Wj X k n Q 47 [(0, .ref v0), (1, .long (cm (gl h2 (v0 + 4) (ix 1)) (gl h2 v0 30))), (3, .long z7), (5, .int 0)] [] h2))) :
    Wj X k n Q 0 [(0, .ref v0)] [] h := by
  refine w_aload_n (pc := 0) C dX10_reaches_0 rfl ?_
  refine w_iconst (pc := 1) C (v := 0) dX10_reaches_1 (by decide) ?_
  obtain ⟨f1, hv⟩ := hv
  refine w_putI (pc := 2) C fl_X10_1 rfl rfl dX10_reaches_2 (St10_k f1) ?_
  refine w_aload_n (pc := 5) C dX10_reaches_5 rfl ?_
  refine w_aload_n (pc := 6) C dX10_reaches_6 rfl ?_
  refine w_getR (pc := 7) C fl_X10_68 rfl dX10_reaches_7 (St10_k f1) (St10_r7 f1) ?_
  refine w_bipush (pc := 10) C (v := 53) dX10_reaches_10 (by decide) ?_
  refine w_iald (pc := 12) C dX10_reaches_12 (St10_k7 f1) (inbl (St10_l7 f1) (inbd (by decide))) ?_
  refine w_cV0_1 (pc := 13) C cl_X10_353 lv_X10_laysStep (by decide) dX10_reaches_13 (Nat.le_of_ble_eq_true rfl) (c := 10) rfl (St10_k f1) (hv.mono (fun v h2 hp => ?_))
  obtain ⟨rfl, hv⟩ := hp
  refine w_aload_n (pc := 16) C dX10_reaches_16 rfl ?_
  obtain ⟨f3, hv⟩ := hv
  refine w_getR (pc := 17) C fl_X10_71 rfl dX10_reaches_17 (St10_k f3) (St10_r8 f3) ?_
  refine w_iconst (pc := 20) C (v := 1) dX10_reaches_20 (by decide) ?_
  refine w_lald (pc := 21) C dX10_reaches_21 (St10_k8 f3) (inbl (St10_l8 f3) (inbd (by decide))) ?_
  refine w_aload_n (pc := 22) C dX10_reaches_22 rfl ?_
  refine w_getL (pc := 23) C fl_X10_350 rfl dX10_reaches_23 (St10_k f3) ?_
  obtain ⟨f4, hv⟩ := hv
  obtain ⟨f5, hv⟩ := hv
  refine w_cS0_2 (pc := 26) C cl_X10_14 ls_X10_common (by decide) dX10_reaches_26 (Nat.le_of_ble_eq_true rfl) ((sf_X10_common (h := h2) f4 f5).mono (fun v h9 hp => ?_))
  obtain ⟨e1, e2⟩ := hp
  rw [e1, e2]
  refine w_lstore_n (pc := 29) C dX10_reaches_29 (by decide) ?_
  refine w_aload_n (pc := 30) C dX10_reaches_30 rfl ?_
  refine w_getR (pc := 31) C fl_X10_71 rfl dX10_reaches_31 (St10_k f3) (St10_r8 f3) ?_
  refine w_iconst (pc := 34) C (v := 1) dX10_reaches_34 (by decide) ?_
  refine w_lald (pc := 35) C dX10_reaches_35 (St10_k8 f3) (inbl (St10_l8 f3) (inbd (by decide))) ?_
  refine w_lload_n (pc := 36) C dX10_reaches_36 rfl ?_
  obtain ⟨f6, hv⟩ := hv
  refine w_ldiv (pc := 37) C dX10_reaches_37 f6 ?_
  refine w_aload_n (pc := 38) C dX10_reaches_38 rfl ?_
  refine w_getL (pc := 39) C fl_X10_350 rfl dX10_reaches_39 (St10_k f3) ?_
  refine w_lmul (pc := 42) C dX10_reaches_42 ?_
  obtain ⟨z7, ez7⟩ : ∃ z : Int64, z = (((gl h2 (v0 + 4) (ix 1)) / (cm (gl h2 (v0 + 4) (ix 1)) (gl h2 v0 30))) * (gl h2 v0 30)) := ⟨_, rfl⟩
  have hv := hv z7 ez7
  rw [← ez7]
  refine w_lstore_n (pc := 43) C dX10_reaches_43 (by decide) ?_
  refine w_iconst (pc := 44) C (v := 0) dX10_reaches_44 (by decide) ?_
  refine w_istore (pc := 45) C dX10_reaches_45 (by decide) ?_
  refine w_sub ?_ hv
  exact ⟨rfl, rfl, rfl, rfl, trivial⟩
set_option maxRecDepth 20000 in
set_option maxHeartbeats 2000000 in
theorem V_X10_reaches_47 {X : Ctx} (C : C_X10_reaches X) {k n : Nat} {Q : Pq} {h : Hp} {v0 : Nat} {v1 v3 : Int64} {v5 : Int32}
    (hv : St10 h v0 ∧ (((gi h (v0 + 3) (ix 60)) ≤ v5 → ¬ v1 = 0 ∧ ¬ (gl h v0 30) = 0 ∧ (∀ z4 : Int64, z4 = (((gl h v0 29) % (gl h v0 30)) * ((gl h (v0 + 4) (ix 1)) / v1)) →
    Wj X k n Q 141 [(0, .ref v0), (3, .long v3), (5, .long ((gl h (v0 + 4) (ix 0)) * ((gl h v0 30) / v1))), (7, .long z4), (9, .int 1)] [] h)) ∧
    (¬ (gi h (v0 + 3) (ix 60)) ≤ v5 → inb (2 + 2 * v5 + 1) 1464 ∧ ¬ (gl h (v0 + 4) (ix (2 + 2 * v5 + 1))) = 0 ∧ ((¬ (v3 % (gl h (v0 + 4) (ix (2 + 2 * v5 + 1)))) = 0 → inb v5 60 ∧ Wj X k n Q 47 [(0, .ref v0), (1, .long v1), (3, .long v3), (5, .int (v5 + Int32.ofInt 1))] [] (sl h (v0 + 11) (ix v5) (-1))) ∧
    ((v3 % (gl h (v0 + 4) (ix (2 + 2 * v5 + 1)))) = 0 → inb (2 + 2 * v5) 1464 ∧ inb v5 60 ∧ Wj X k n Q 47 [(0, .ref v0), (1, .long v1), (3, .long v3), (5, .int (v5 + Int32.ofInt 1))] [] (sl h (v0 + 11) (ix v5) ((gl h (v0 + 4) (ix (2 + 2 * v5))) * (v3 / (gl h (v0 + 4) (ix (2 + 2 * v5 + 1))))))))))) :
    Wj X k n Q 47 [(0, .ref v0), (1, .long v1), (3, .long v3), (5, .int v5)] [] h := by
  refine w_iload (pc := 47) C dX10_reaches_47 rfl ?_
  refine w_aload_n (pc := 49) C dX10_reaches_49 rfl ?_
  obtain ⟨f1, hv⟩ := hv
  refine w_cV0_0 (pc := 50) C cl_X10_378 lv_X10_marks (by decide) dX10_reaches_50 (Nat.le_of_ble_eq_true rfl) (c := 10) rfl (St10_k f1) ((sf_X10_marks (h := h) f1).mono (fun v h9 hp => ?_))
  obtain ⟨e1, e2⟩ := hp
  rw [e1, e2]
  refine w_icmp_ge (pc := 53) C (tgt := 103) dX10_reaches_53 (by decide) ?_
  obtain ⟨hv1, hv2⟩ := hv
  refine ⟨fun c11 => ?_, fun c11 => ?_⟩
  · have hv := hv1 c11
    refine w_aload_n (pc := 103) C dX10_reaches_103 rfl ?_
    refine w_getR (pc := 104) C fl_X10_71 rfl dX10_reaches_104 (St10_k f1) (St10_r8 f1) ?_
    refine w_iconst (pc := 107) C (v := 0) dX10_reaches_107 (by decide) ?_
    refine w_lald (pc := 108) C dX10_reaches_108 (St10_k8 f1) (inbl (St10_l8 f1) (inbd (by decide))) ?_
    refine w_aload_n (pc := 109) C dX10_reaches_109 rfl ?_
    refine w_getL (pc := 110) C fl_X10_350 rfl dX10_reaches_110 (St10_k f1) ?_
    refine w_lload_n (pc := 113) C dX10_reaches_113 rfl ?_
    obtain ⟨f2, hv⟩ := hv
    refine w_ldiv (pc := 114) C dX10_reaches_114 f2 ?_
    refine w_lmul (pc := 115) C dX10_reaches_115 ?_
    refine w_lstore (pc := 116) C dX10_reaches_116 (by decide) ?_
    refine w_aload_n (pc := 118) C dX10_reaches_118 rfl ?_
    refine w_getL (pc := 119) C fl_X10_347 rfl dX10_reaches_119 (St10_k f1) ?_
    refine w_aload_n (pc := 122) C dX10_reaches_122 rfl ?_
    refine w_getL (pc := 123) C fl_X10_350 rfl dX10_reaches_123 (St10_k f1) ?_
    obtain ⟨f3, hv⟩ := hv
    refine w_lrem (pc := 126) C dX10_reaches_126 f3 ?_
    refine w_aload_n (pc := 127) C dX10_reaches_127 rfl ?_
    refine w_getR (pc := 128) C fl_X10_71 rfl dX10_reaches_128 (St10_k f1) (St10_r8 f1) ?_
    refine w_iconst (pc := 131) C (v := 1) dX10_reaches_131 (by decide) ?_
    refine w_lald (pc := 132) C dX10_reaches_132 (St10_k8 f1) (inbl (St10_l8 f1) (inbd (by decide))) ?_
    refine w_lload_n (pc := 133) C dX10_reaches_133 rfl ?_
    refine w_ldiv (pc := 134) C dX10_reaches_134 f2 ?_
    refine w_lmul (pc := 135) C dX10_reaches_135 ?_
    obtain ⟨z4, ez4⟩ : ∃ z : Int64, z = (((gl h v0 29) % (gl h v0 30)) * ((gl h (v0 + 4) (ix 1)) / v1)) := ⟨_, rfl⟩
    have hv := hv z4 ez4
    rw [← ez4]
    refine w_lstore (pc := 136) C dX10_reaches_136 (by decide) ?_
    refine w_iconst (pc := 138) C (v := 1) dX10_reaches_138 (by decide) ?_
    refine w_istore (pc := 139) C dX10_reaches_139 (by decide) ?_
    refine w_sub ?_ hv
    exact ⟨rfl, rfl, rfl, rfl, rfl, trivial⟩
  · have hv := hv2 c11
    refine w_aload_n (pc := 56) C dX10_reaches_56 rfl ?_
    refine w_getR (pc := 57) C fl_X10_92 rfl dX10_reaches_57 (St10_k f1) (St10_r36 f1) ?_
    refine w_iload (pc := 60) C dX10_reaches_60 rfl ?_
    refine w_lload_n (pc := 62) C dX10_reaches_62 rfl ?_
    refine w_aload_n (pc := 63) C dX10_reaches_63 rfl ?_
    refine w_iload (pc := 64) C dX10_reaches_64 rfl ?_
    obtain ⟨f5, hv⟩ := hv
    refine w_cV0_1 (pc := 66) C cl_X10_385 lv_X10_markLow (by decide) dX10_reaches_66 (Nat.le_of_ble_eq_true rfl) (c := 10) rfl (St10_k f1) ((sf_X10_markLow (h := h) f1 f5).mono (fun v h9 hp => ?_))
    obtain ⟨e1, e2⟩ := hp
    rw [e1, e2]
    obtain ⟨f6, hv⟩ := hv
    refine w_lrem (pc := 69) C dX10_reaches_69 f6 ?_
    refine w_lconst (pc := 70) C (v := 0) dX10_reaches_70 (by decide) ?_
    refine w_lcmp_ne (pc := 71) C (tgt := 93) dX10_reaches_71 dX10_reaches_72 (by decide) ?_
    obtain ⟨hv1, hv2⟩ := hv
    refine ⟨fun c10 => ?_, fun c10 => ?_⟩
    · have hv := hv1 c10
      refine w_ldc2 (pc := 93) C ctl_X10_345 dX10_reaches_93 ?_
      obtain ⟨f7, hv⟩ := hv
      refine w_last (pc := 96) C dX10_reaches_96 (St10_k36 f1) (inbl (St10_l36 f1) f7) ?_
      refine w_iinc (pc := 97) C dX10_reaches_97 rfl (by decide) ?_
      refine w_goto (pc := 100) C (tgt := 47) dX10_reaches_100 (by decide) ?_
      refine w_sub ?_ hv
      exact ⟨rfl, rfl, rfl, rfl, trivial⟩
    · have hv := hv2 c10
      refine w_aload_n (pc := 75) C dX10_reaches_75 rfl ?_
      refine w_iload (pc := 76) C dX10_reaches_76 rfl ?_
      obtain ⟨f8, hv⟩ := hv
      refine w_cV0_1 (pc := 78) C cl_X10_381 lv_X10_markUp (by decide) dX10_reaches_78 (Nat.le_of_ble_eq_true rfl) (c := 10) rfl (St10_k f1) ((sf_X10_markUp (h := h) f1 f8).mono (fun v h9 hp => ?_))
      obtain ⟨e1, e2⟩ := hp
      rw [e1, e2]
      refine w_lload_n (pc := 81) C dX10_reaches_81 rfl ?_
      refine w_aload_n (pc := 82) C dX10_reaches_82 rfl ?_
      refine w_iload (pc := 83) C dX10_reaches_83 rfl ?_
      refine w_cV0_1 (pc := 85) C cl_X10_385 lv_X10_markLow (by decide) dX10_reaches_85 (Nat.le_of_ble_eq_true rfl) (c := 10) rfl (St10_k f1) ((sf_X10_markLow (h := h) f1 f5).mono (fun v h9 hp => ?_))
      obtain ⟨e1, e2⟩ := hp
      rw [e1, e2]
      refine w_ldiv (pc := 88) C dX10_reaches_88 f6 ?_
      refine w_lmul (pc := 89) C dX10_reaches_89 ?_
      refine w_goto (pc := 90) C (tgt := 96) dX10_reaches_90 (by decide) ?_
      obtain ⟨f9, hv⟩ := hv
      refine w_last (pc := 96) C dX10_reaches_96 (St10_k36 f1) (inbl (St10_l36 f1) f9) ?_
      refine w_iinc (pc := 97) C dX10_reaches_97 rfl (by decide) ?_
      refine w_goto (pc := 100) C (tgt := 47) dX10_reaches_100 (by decide) ?_
      refine w_sub ?_ hv
      exact ⟨rfl, rfl, rfl, rfl, trivial⟩
set_option maxRecDepth 20000 in
set_option maxHeartbeats 2000000 in
theorem V_X10_reaches_141 {X : Ctx} (C : C_X10_reaches X) {k n : Nat} {Q : Pq} {h : Hp} {v0 : Nat} {v3 v5 v7 : Int64} {v9 : Int32}
    (hv : ((20000 < v9 → Q (some (.int (-2))) h) ∧
    (¬ 20000 < v9 → ¬ v3 = 0 ∧ Wj X k n Q 165 [(0, .ref v0), (3, .long v3), (5, .long ((((v5 + v7) % v3) + v3) % v3)), (7, .long v7), (9, .int v9), (10, .int 0)] [] h))) :
    Wj X k n Q 141 [(0, .ref v0), (3, .long v3), (5, .long v5), (7, .long v7), (9, .int v9)] [] h := by
  refine w_iload (pc := 141) C dX10_reaches_141 rfl ?_
  refine w_sipush (pc := 143) C (v := 20000) dX10_reaches_143 (by decide) ?_
  refine w_icmp_gt (pc := 146) C (tgt := 214) dX10_reaches_146 (by decide) ?_
  obtain ⟨hv1, hv2⟩ := hv
  refine ⟨fun c2 => ?_, fun c2 => ?_⟩
  · have hv := hv1 c2
    refine w_bipush (pc := 214) C (v := (-2)) dX10_reaches_214 (by decide) ?_
    exact w_iret (pc := 216) C dX10_reaches_216 hv
  · have hv := hv2 c2
    refine w_lload (pc := 149) C dX10_reaches_149 rfl ?_
    refine w_lload (pc := 151) C dX10_reaches_151 rfl ?_
    refine w_ladd (pc := 153) C dX10_reaches_153 ?_
    refine w_lload_n (pc := 154) C dX10_reaches_154 rfl ?_
    obtain ⟨f1, hv⟩ := hv
    refine w_lrem (pc := 155) C dX10_reaches_155 f1 ?_
    refine w_lload_n (pc := 156) C dX10_reaches_156 rfl ?_
    refine w_ladd (pc := 157) C dX10_reaches_157 ?_
    refine w_lload_n (pc := 158) C dX10_reaches_158 rfl ?_
    refine w_lrem (pc := 159) C dX10_reaches_159 f1 ?_
    refine w_lstore (pc := 160) C dX10_reaches_160 (by decide) ?_
    refine w_iconst (pc := 162) C (v := 0) dX10_reaches_162 (by decide) ?_
    refine w_istore (pc := 163) C dX10_reaches_163 (by decide) ?_
    refine w_sub ?_ hv
    exact ⟨rfl, rfl, rfl, rfl, rfl, rfl, trivial⟩
set_option maxRecDepth 20000 in
set_option maxHeartbeats 2000000 in
theorem V_X10_reaches_165 {X : Ctx} (C : C_X10_reaches X) {k n : Nat} {Q : Pq} {h : Hp} {v0 : Nat} {v3 v7 v5 : Int64} {v9 v10 : Int32}
    (hv : St10 h v0 ∧ (((gi h (v0 + 3) (ix 60)) ≤ v10 → Wj X k n Q 141 [(0, .ref v0), (3, .long v3), (5, .long v5), (7, .long v7), (9, .int (v9 + Int32.ofInt 1))] [] h) ∧
    (¬ (gi h (v0 + 3) (ix 60)) ≤ v10 → inb v10 60 ∧ ((¬ (gl h (v0 + 11) (ix v10)) = v5 → Wj X k n Q 165 [(0, .ref v0), (3, .long v3), (5, .long v5), (7, .long v7), (9, .int v9), (10, .int (v10 + Int32.ofInt 1))] [] h) ∧
    ((gl h (v0 + 11) (ix v10)) = v5 → S_X10_enters (lX X) (dtX X) 0 0 [.ref v0, .long (Int32.toInt64 v10)] (si h v0 1 0) (QV fun h3 =>
    Q (some (.int v9)) h3)))))) :
    Wj X k n Q 165 [(0, .ref v0), (3, .long v3), (5, .long v5), (7, .long v7), (9, .int v9), (10, .int v10)] [] h := by
  refine w_iload (pc := 165) C dX10_reaches_165 rfl ?_
  refine w_aload_n (pc := 167) C dX10_reaches_167 rfl ?_
  obtain ⟨f1, hv⟩ := hv
  refine w_cV0_0 (pc := 168) C cl_X10_378 lv_X10_marks (by decide) dX10_reaches_168 (Nat.le_of_ble_eq_true rfl) (c := 10) rfl (St10_k f1) ((sf_X10_marks (h := h) f1).mono (fun v h9 hp => ?_))
  obtain ⟨e1, e2⟩ := hp
  rw [e1, e2]
  refine w_icmp_ge (pc := 171) C (tgt := 208) dX10_reaches_171 (by decide) ?_
  obtain ⟨hv1, hv2⟩ := hv
  refine ⟨fun c5 => ?_, fun c5 => ?_⟩
  · have hv := hv1 c5
    refine w_iinc (pc := 208) C dX10_reaches_208 rfl (by decide) ?_
    refine w_goto (pc := 211) C (tgt := 141) dX10_reaches_211 (by decide) ?_
    refine w_sub ?_ hv
    exact ⟨rfl, rfl, rfl, rfl, rfl, trivial⟩
  · have hv := hv2 c5
    refine w_aload_n (pc := 174) C dX10_reaches_174 rfl ?_
    refine w_getR (pc := 175) C fl_X10_92 rfl dX10_reaches_175 (St10_k f1) (St10_r36 f1) ?_
    refine w_iload (pc := 178) C dX10_reaches_178 rfl ?_
    obtain ⟨f2, hv⟩ := hv
    refine w_lald (pc := 180) C dX10_reaches_180 (St10_k36 f1) (inbl (St10_l36 f1) f2) ?_
    refine w_lload (pc := 181) C dX10_reaches_181 rfl ?_
    refine w_lcmp_ne (pc := 183) C (tgt := 202) dX10_reaches_183 dX10_reaches_184 (by decide) ?_
    obtain ⟨hv1, hv2⟩ := hv
    refine ⟨fun c4 => ?_, fun c4 => ?_⟩
    · have hv := hv1 c4
      refine w_iinc (pc := 202) C dX10_reaches_202 rfl (by decide) ?_
      refine w_goto (pc := 205) C (tgt := 165) dX10_reaches_205 (by decide) ?_
      refine w_sub ?_ hv
      exact ⟨rfl, rfl, rfl, rfl, rfl, rfl, trivial⟩
    · have hv := hv2 c4
      refine w_aload_n (pc := 187) C dX10_reaches_187 rfl ?_
      refine w_iconst (pc := 188) C (v := 0) dX10_reaches_188 (by decide) ?_
      refine w_putI (pc := 189) C fl_X10_11 rfl rfl dX10_reaches_189 (St10_k f1) ?_
      refine w_aload_n (pc := 192) C dX10_reaches_192 rfl ?_
      refine w_iload (pc := 193) C dX10_reaches_193 rfl ?_
      refine w_i2l (pc := 195) C dX10_reaches_195 ?_
      refine w_cV0_1 (pc := 196) C cl_X10_18 lv_X10_enters (by decide) dX10_reaches_196 (Nat.le_of_ble_eq_true rfl) (c := 10) rfl (St10_k f1) (hv.mono (fun v h3 hp => ?_))
      obtain ⟨rfl, hv⟩ := hp
      refine w_iload (pc := 199) C dX10_reaches_199 rfl ?_
      exact w_iret (pc := 201) C dX10_reaches_201 hv
