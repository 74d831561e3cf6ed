-- Head: small writers (by program: gen_parts.py)
theorem dX4_dropPlates_0 : decode cX4_dropPlates 0 = .ok (.aload_n 0, 1) := by decide +kernel
theorem dX4_dropPlates_1 : decode cX4_dropPlates 1 = .ok (.iconst 1, 1) := by decide +kernel
theorem dX4_dropPlates_2 : decode cX4_dropPlates 2 = .ok (.putfield 18, 3) := by decide +kernel
theorem dX4_dropPlates_5 : decode cX4_dropPlates 5 = .ok (.aload_n 0, 1) := by decide +kernel
theorem dX4_dropPlates_6 : decode cX4_dropPlates 6 = .ok (.iconst 0, 1) := by decide +kernel
theorem dX4_dropPlates_7 : decode cX4_dropPlates 7 = .ok (.putfield 21, 3) := by decide +kernel
theorem dX4_dropPlates_10 : decode cX4_dropPlates 10 = .ok (.return_, 1) := by decide +kernel
set_option maxRecDepth 20000 in
set_option maxHeartbeats 2000000 in
theorem V_X4_dropPlates_0 {X : Ctx} (C : C_X4_dropPlates X) {k n : Nat} {Q : Pq} {h : Hp} {v0 : Nat}
    (hv : St4 h v0 ∧ Q none (si (si h v0 2 1) v0 3 0)) :
    Wj X k n Q 0 [(0, .ref v0)] [] h := by
  refine w_aload_n (pc := 0) C dX4_dropPlates_0 rfl ?_
  refine w_iconst (pc := 1) C (v := 1) dX4_dropPlates_1 (by decide) ?_
  obtain ⟨f1, hv⟩ := hv
  refine w_putI (pc := 2) C fl_X4_18 rfl rfl dX4_dropPlates_2 (St4_k f1) ?_
  refine w_aload_n (pc := 5) C dX4_dropPlates_5 rfl ?_
  refine w_iconst (pc := 6) C (v := 0) dX4_dropPlates_6 (by decide) ?_
  refine w_putI (pc := 7) C fl_X4_21 rfl rfl dX4_dropPlates_7 (St4_k f1) ?_
  exact w_vret (pc := 10) C dX4_dropPlates_10 hv
theorem dX4_addCircle_0 : decode cX4_addCircle 0 = .ok (.aload_n 0, 1) := by decide +kernel
theorem dX4_addCircle_1 : decode cX4_addCircle 1 = .ok (.getfield 21, 3) := by decide +kernel
theorem dX4_addCircle_4 : decode cX4_addCircle 4 = .ok (.ifCond .lt 47, 3) := by decide +kernel
theorem dX4_addCircle_7 : decode cX4_addCircle 7 = .ok (.aload_n 0, 1) := by decide +kernel
theorem dX4_addCircle_8 : decode cX4_addCircle 8 = .ok (.getfield 21, 3) := by decide +kernel
theorem dX4_addCircle_11 : decode cX4_addCircle 11 = .ok (.bipush 18, 2) := by decide +kernel
theorem dX4_addCircle_13 : decode cX4_addCircle 13 = .ok (.if_icmp .ge 38, 3) := by decide +kernel
theorem dX4_addCircle_16 : decode cX4_addCircle 16 = .ok (.aload_n 0, 1) := by decide +kernel
theorem dX4_addCircle_17 : decode cX4_addCircle 17 = .ok (.getfield 49, 3) := by decide +kernel
theorem dX4_addCircle_20 : decode cX4_addCircle 20 = .ok (.aload_n 0, 1) := by decide +kernel
theorem dX4_addCircle_21 : decode cX4_addCircle 21 = .ok (.getfield 21, 3) := by decide +kernel
theorem dX4_addCircle_24 : decode cX4_addCircle 24 = .ok (.iload_n 1, 1) := by decide +kernel
theorem dX4_addCircle_25 : decode cX4_addCircle 25 = .ok (.iastore, 1) := by decide +kernel
theorem dX4_addCircle_26 : decode cX4_addCircle 26 = .ok (.aload_n 0, 1) := by decide +kernel
theorem dX4_addCircle_27 : decode cX4_addCircle 27 = .ok (.getfield 53, 3) := by decide +kernel
theorem dX4_addCircle_30 : decode cX4_addCircle 30 = .ok (.aload_n 0, 1) := by decide +kernel
theorem dX4_addCircle_31 : decode cX4_addCircle 31 = .ok (.getfield 21, 3) := by decide +kernel
theorem dX4_addCircle_34 : decode cX4_addCircle 34 = .ok (.aload_n 0, 1) := by decide +kernel
theorem dX4_addCircle_35 : decode cX4_addCircle 35 = .ok (.getfield 18, 3) := by decide +kernel
theorem dX4_addCircle_38 : decode cX4_addCircle 38 = .ok (.iconst 1, 1) := by decide +kernel
theorem dX4_addCircle_39 : decode cX4_addCircle 39 = .ok (.isub, 1) := by decide +kernel
theorem dX4_addCircle_40 : decode cX4_addCircle 40 = .ok (.iastore, 1) := by decide +kernel
theorem dX4_addCircle_41 : decode cX4_addCircle 41 = .ok (.aload_n 0, 1) := by decide +kernel
theorem dX4_addCircle_42 : decode cX4_addCircle 42 = .ok (.dup, 1) := by decide +kernel
theorem dX4_addCircle_43 : decode cX4_addCircle 43 = .ok (.getfield 21, 3) := by decide +kernel
theorem dX4_addCircle_46 : decode cX4_addCircle 46 = .ok (.iconst 1, 1) := by decide +kernel
theorem dX4_addCircle_47 : decode cX4_addCircle 47 = .ok (.iadd, 1) := by decide +kernel
theorem dX4_addCircle_48 : decode cX4_addCircle 48 = .ok (.putfield 21, 3) := by decide +kernel
theorem dX4_addCircle_51 : decode cX4_addCircle 51 = .ok (.return_, 1) := by decide +kernel
set_option maxRecDepth 20000 in
set_option maxHeartbeats 2000000 in
theorem V_X4_addCircle_0 {X : Ctx} (C : C_X4_addCircle X) {k n : Nat} {Q : Pq} {h : Hp} {v0 : Nat} {v1 : Int32}
    (hv : St4 h v0 ∧ (((gi h v0 3) < 0 → Q none h) ∧
    (¬ (gi h v0 3) < 0 → ((18 ≤ (gi h v0 3) → Q none h) ∧
    (¬ 18 ≤ (gi h v0 3) → inb (gi h v0 3) 18 ∧ inb (gi (si h (v0 + 4) (ix (gi h v0 3)) v1) v0 3) 18 ∧ Q none (si (si (si h (v0 + 4) (ix (gi h v0 3)) v1) (v0 + 5) (ix (gi (si h (v0 + 4) (ix (gi h v0 3)) v1) v0 3)) ((gi (si h (v0 + 4) (ix (gi h v0 3)) v1) v0 2) - 1)) v0 3 ((gi (si (si h (v0 + 4) (ix (gi h v0 3)) v1) (v0 + 5) (ix (gi (si h (v0 + 4) (ix (gi h v0 3)) v1) v0 3)) ((gi (si h (v0 + 4) (ix (gi h v0 3)) v1) v0 2) - 1)) v0 3) + 1))))))) :
    Wj X k n Q 0 [(0, .ref v0), (1, .int v1)] [] h := by
  refine w_aload_n (pc := 0) C dX4_addCircle_0 rfl ?_
  obtain ⟨f1, hv⟩ := hv
  refine w_getI (pc := 1) C fl_X4_21 rfl dX4_addCircle_1 (St4_k f1) ?_
  refine w_if_lt (pc := 4) C (tgt := 51) dX4_addCircle_4 (by decide) ?_
  obtain ⟨hv1, hv2⟩ := hv
  refine ⟨fun c5 => ?_, fun c5 => ?_⟩
  · have hv := hv1 c5
    exact w_vret (pc := 51) C dX4_addCircle_51 hv
  · have hv := hv2 c5
    refine w_aload_n (pc := 7) C dX4_addCircle_7 rfl ?_
    refine w_getI (pc := 8) C fl_X4_21 rfl dX4_addCircle_8 (St4_k f1) ?_
    refine w_bipush (pc := 11) C (v := 18) dX4_addCircle_11 (by decide) ?_
    refine w_icmp_ge (pc := 13) C (tgt := 51) dX4_addCircle_13 (by decide) ?_
    obtain ⟨hv1, hv2⟩ := hv
    refine ⟨fun c4 => ?_, fun c4 => ?_⟩
    · have hv := hv1 c4
      exact w_vret (pc := 51) C dX4_addCircle_51 hv
    · have hv := hv2 c4
      refine w_aload_n (pc := 16) C dX4_addCircle_16 rfl ?_
      refine w_getR (pc := 17) C fl_X4_49 rfl dX4_addCircle_17 (St4_k f1) (St4_r11 f1) ?_
      refine w_aload_n (pc := 20) C dX4_addCircle_20 rfl ?_
      refine w_getI (pc := 21) C fl_X4_21 rfl dX4_addCircle_21 (St4_k f1) ?_
      refine w_iload_n (pc := 24) C dX4_addCircle_24 rfl ?_
      obtain ⟨f2, hv⟩ := hv
      refine w_iast (pc := 25) C dX4_addCircle_25 (St4_k11 f1) (inbl (St4_l11 f1) f2) ?_
      refine w_aload_n (pc := 26) C dX4_addCircle_26 rfl ?_
      refine w_getR (pc := 27) C fl_X4_53 rfl dX4_addCircle_27 (St4_k f1) (St4_r12 f1) ?_
      refine w_aload_n (pc := 30) C dX4_addCircle_30 rfl ?_
      refine w_getI (pc := 31) C fl_X4_21 rfl dX4_addCircle_31 (St4_k f1) ?_
      refine w_aload_n (pc := 34) C dX4_addCircle_34 rfl ?_
      refine w_getI (pc := 35) C fl_X4_18 rfl dX4_addCircle_35 (St4_k f1) ?_
      refine w_iconst (pc := 38) C (v := 1) dX4_addCircle_38 (by decide) ?_
      refine w_isub (pc := 39) C dX4_addCircle_39 ?_
      obtain ⟨f3, hv⟩ := hv
      refine w_iast (pc := 40) C dX4_addCircle_40 (St4_k12 f1) (inbl (St4_l12 f1) f3) ?_
      refine w_aload_n (pc := 41) C dX4_addCircle_41 rfl ?_
      refine w_dup (pc := 42) C dX4_addCircle_42 rfl ?_
      refine w_getI (pc := 43) C fl_X4_21 rfl dX4_addCircle_43 (St4_k f1) ?_
      refine w_iconst (pc := 46) C (v := 1) dX4_addCircle_46 (by decide) ?_
      refine w_iadd (pc := 47) C dX4_addCircle_47 ?_
      refine w_putI (pc := 48) C fl_X4_21 rfl rfl dX4_addCircle_48 (St4_k f1) ?_
      exact w_vret (pc := 51) C dX4_addCircle_51 hv
theorem dX4_addGear_0 : decode cX4_addGear 0 = .ok (.aload_n 0, 1) := by decide +kernel
theorem dX4_addGear_1 : decode cX4_addGear 1 = .ok (.getfield 24, 3) := by decide +kernel
theorem dX4_addGear_4 : decode cX4_addGear 4 = .ok (.ifCond .lt 32, 3) := by decide +kernel
theorem dX4_addGear_7 : decode cX4_addGear 7 = .ok (.aload_n 0, 1) := by decide +kernel
theorem dX4_addGear_8 : decode cX4_addGear 8 = .ok (.getfield 24, 3) := by decide +kernel
theorem dX4_addGear_11 : decode cX4_addGear 11 = .ok (.bipush 12, 2) := by decide +kernel
theorem dX4_addGear_13 : decode cX4_addGear 13 = .ok (.if_icmp .ge 23, 3) := by decide +kernel
theorem dX4_addGear_16 : decode cX4_addGear 16 = .ok (.aload_n 0, 1) := by decide +kernel
theorem dX4_addGear_17 : decode cX4_addGear 17 = .ok (.getfield 56, 3) := by decide +kernel
theorem dX4_addGear_20 : decode cX4_addGear 20 = .ok (.aload_n 0, 1) := by decide +kernel
theorem dX4_addGear_21 : decode cX4_addGear 21 = .ok (.getfield 24, 3) := by decide +kernel
theorem dX4_addGear_24 : decode cX4_addGear 24 = .ok (.iload_n 1, 1) := by decide +kernel
theorem dX4_addGear_25 : decode cX4_addGear 25 = .ok (.iastore, 1) := by decide +kernel
theorem dX4_addGear_26 : decode cX4_addGear 26 = .ok (.aload_n 0, 1) := by decide +kernel
theorem dX4_addGear_27 : decode cX4_addGear 27 = .ok (.dup, 1) := by decide +kernel
theorem dX4_addGear_28 : decode cX4_addGear 28 = .ok (.getfield 24, 3) := by decide +kernel
theorem dX4_addGear_31 : decode cX4_addGear 31 = .ok (.iconst 1, 1) := by decide +kernel
theorem dX4_addGear_32 : decode cX4_addGear 32 = .ok (.iadd, 1) := by decide +kernel
theorem dX4_addGear_33 : decode cX4_addGear 33 = .ok (.putfield 24, 3) := by decide +kernel
theorem dX4_addGear_36 : decode cX4_addGear 36 = .ok (.return_, 1) := by decide +kernel
set_option maxRecDepth 20000 in
set_option maxHeartbeats 2000000 in
theorem V_X4_addGear_0 {X : Ctx} (C : C_X4_addGear X) {k n : Nat} {Q : Pq} {h : Hp} {v0 : Nat} {v1 : Int32}
    (hv : St4 h v0 ∧ (((gi h v0 4) < 0 → Q none h) ∧
    (¬ (gi h v0 4) < 0 → ((12 ≤ (gi h v0 4) → Q none h) ∧
    (¬ 12 ≤ (gi h v0 4) → inb (gi h v0 4) 12 ∧ Q none (si (si h (v0 + 6) (ix (gi h v0 4)) v1) v0 4 ((gi (si h (v0 + 6) (ix (gi h v0 4)) v1) v0 4) + 1))))))) :
    Wj X k n Q 0 [(0, .ref v0), (1, .int v1)] [] h := by
  refine w_aload_n (pc := 0) C dX4_addGear_0 rfl ?_
  obtain ⟨f1, hv⟩ := hv
  refine w_getI (pc := 1) C fl_X4_24 rfl dX4_addGear_1 (St4_k f1) ?_
  refine w_if_lt (pc := 4) C (tgt := 36) dX4_addGear_4 (by decide) ?_
  obtain ⟨hv1, hv2⟩ := hv
  refine ⟨fun c4 => ?_, fun c4 => ?_⟩
  · have hv := hv1 c4
    exact w_vret (pc := 36) C dX4_addGear_36 hv
  · have hv := hv2 c4
    refine w_aload_n (pc := 7) C dX4_addGear_7 rfl ?_
    refine w_getI (pc := 8) C fl_X4_24 rfl dX4_addGear_8 (St4_k f1) ?_
    refine w_bipush (pc := 11) C (v := 12) dX4_addGear_11 (by decide) ?_
    refine w_icmp_ge (pc := 13) C (tgt := 36) dX4_addGear_13 (by decide) ?_
    obtain ⟨hv1, hv2⟩ := hv
    refine ⟨fun c3 => ?_, fun c3 => ?_⟩
    · have hv := hv1 c3
      exact w_vret (pc := 36) C dX4_addGear_36 hv
    · have hv := hv2 c3
      refine w_aload_n (pc := 16) C dX4_addGear_16 rfl ?_
      refine w_getR (pc := 17) C fl_X4_56 rfl dX4_addGear_17 (St4_k f1) (St4_r13 f1) ?_
      refine w_aload_n (pc := 20) C dX4_addGear_20 rfl ?_
      refine w_getI (pc := 21) C fl_X4_24 rfl dX4_addGear_21 (St4_k f1) ?_
      refine w_iload_n (pc := 24) C dX4_addGear_24 rfl ?_
      obtain ⟨f2, hv⟩ := hv
      refine w_iast (pc := 25) C dX4_addGear_25 (St4_k13 f1) (inbl (St4_l13 f1) f2) ?_
      refine w_aload_n (pc := 26) C dX4_addGear_26 rfl ?_
      refine w_dup (pc := 27) C dX4_addGear_27 rfl ?_
      refine w_getI (pc := 28) C fl_X4_24 rfl dX4_addGear_28 (St4_k f1) ?_
      refine w_iconst (pc := 31) C (v := 1) dX4_addGear_31 (by decide) ?_
      refine w_iadd (pc := 32) C dX4_addGear_32 ?_
      refine w_putI (pc := 33) C fl_X4_24 rfl rfl dX4_addGear_33 (St4_k f1) ?_
      exact w_vret (pc := 36) C dX4_addGear_36 hv
theorem dX4_compareMark_0 : decode cX4_compareMark 0 = .ok (.aload_n 0, 1) := by decide +kernel
theorem dX4_compareMark_1 : decode cX4_compareMark 1 = .ok (.iload_n 1, 1) := by decide +kernel
theorem dX4_compareMark_2 : decode cX4_compareMark 2 = .ok (.invokevirtual 159, 3) := by decide +kernel
theorem dX4_compareMark_5 : decode cX4_compareMark 5 = .ok (.aload_n 0, 1) := by decide +kernel
theorem dX4_compareMark_6 : decode cX4_compareMark 6 = .ok (.getfield 43, 3) := by decide +kernel
theorem dX4_compareMark_9 : decode cX4_compareMark 9 = .ok (.getfield 135, 3) := by decide +kernel
theorem dX4_compareMark_12 : decode cX4_compareMark 12 = .ok (.lmul, 1) := by decide +kernel
theorem dX4_compareMark_13 : decode cX4_compareMark 13 = .ok (.aload_n 0, 1) := by decide +kernel
theorem dX4_compareMark_14 : decode cX4_compareMark 14 = .ok (.getfield 43, 3) := by decide +kernel
theorem dX4_compareMark_17 : decode cX4_compareMark 17 = .ok (.getfield 131, 3) := by decide +kernel
theorem dX4_compareMark_20 : decode cX4_compareMark 20 = .ok (.aload_n 0, 1) := by decide +kernel
theorem dX4_compareMark_21 : decode cX4_compareMark 21 = .ok (.iload_n 1, 1) := by decide +kernel
theorem dX4_compareMark_22 : decode cX4_compareMark 22 = .ok (.invokevirtual 163, 3) := by decide +kernel
theorem dX4_compareMark_25 : decode cX4_compareMark 25 = .ok (.lmul, 1) := by decide +kernel
theorem dX4_compareMark_26 : decode cX4_compareMark 26 = .ok (.invokestatic 166, 3) := by decide +kernel
theorem dX4_compareMark_29 : decode cX4_compareMark 29 = .ok (.ireturn, 1) := by decide +kernel
set_option maxRecDepth 20000 in
set_option maxHeartbeats 2000000 in
theorem V_X4_compareMark_0 {X : Ctx} (C : C_X4_compareMark X) {k n : Nat} {Q : Pq} {h : Hp} {v0 : Nat} {v1 : Int32}
    (hv : St4 h v0 ∧ Q (some (.int (cmpL ((hMu h v0 v1) * (gl h (v0 + 2) 1)) ((gl h (v0 + 2) 0) * (hMl h v0 v1))))) h) :
    Wj X k n Q 0 [(0, .ref v0), (1, .int v1)] [] h := by
  refine w_aload_n (pc := 0) C dX4_compareMark_0 rfl ?_
  refine w_iload_n (pc := 1) C dX4_compareMark_1 rfl ?_
  obtain ⟨f1, hv⟩ := hv
  refine w_cV0_1 (pc := 2) C cl_X4_159 lv_X4_markUp (by decide) dX4_compareMark_2 (Nat.le_of_ble_eq_true rfl) (c := 4) rfl (St4_k f1) ((sf_X4_markUp (h := h) f1).mono (fun v h9 hp => ?_))
  obtain ⟨e1, e2⟩ := hp
  rw [e1, e2]
  refine w_aload_n (pc := 5) C dX4_compareMark_5 rfl ?_
  refine w_getR (pc := 6) C fl_X4_43 rfl dX4_compareMark_6 (St4_k f1) (St4_r9 f1) ?_
  refine w_getL (pc := 9) C fl_X4_135 rfl dX4_compareMark_9 (St4_k9 f1) ?_
  refine w_lmul (pc := 12) C dX4_compareMark_12 ?_
  refine w_aload_n (pc := 13) C dX4_compareMark_13 rfl ?_
  refine w_getR (pc := 14) C fl_X4_43 rfl dX4_compareMark_14 (St4_k f1) (St4_r9 f1) ?_
  refine w_getL (pc := 17) C fl_X4_131 rfl dX4_compareMark_17 (St4_k9 f1) ?_
  refine w_aload_n (pc := 20) C dX4_compareMark_20 rfl ?_
  refine w_iload_n (pc := 21) C dX4_compareMark_21 rfl ?_
  refine w_cV0_1 (pc := 22) C cl_X4_163 lv_X4_markLow (by decide) dX4_compareMark_22 (Nat.le_of_ble_eq_true rfl) (c := 4) rfl (St4_k f1) ((sf_X4_markLow (h := h) f1).mono (fun v h9 hp => ?_))
  obtain ⟨e1, e2⟩ := hp
  rw [e1, e2]
  refine w_lmul (pc := 25) C dX4_compareMark_25 ?_
  refine w_cS0_2 (pc := 26) C cl_X4_166 ls_J13_compare_74951 (by decide) dX4_compareMark_26 (Nat.le_of_ble_eq_true rfl) ((sf_J13_compare_74951 (h := h) ).mono (fun v h9 hp => ?_))
  obtain ⟨e1, e2⟩ := hp
  rw [e1, e2]
  exact w_iret (pc := 29) C dX4_compareMark_29 hv
theorem dX4_stepOfHole_0 : decode cX4_stepOfHole 0 = .ok (.aload_n 0, 1) := by decide +kernel
theorem dX4_stepOfHole_1 : decode cX4_stepOfHole 1 = .ok (.aload_n 0, 1) := by decide +kernel
theorem dX4_stepOfHole_2 : decode cX4_stepOfHole 2 = .ok (.getfield 27, 3) := by decide +kernel
theorem dX4_stepOfHole_5 : decode cX4_stepOfHole 5 = .ok (.invokevirtual 138, 3) := by decide +kernel
theorem dX4_stepOfHole_8 : decode cX4_stepOfHole 8 = .ok (.i2l, 1) := by decide +kernel
theorem dX4_stepOfHole_9 : decode cX4_stepOfHole 9 = .ok (.aload_n 0, 1) := by decide +kernel
theorem dX4_stepOfHole_10 : decode cX4_stepOfHole 10 = .ok (.getfield 9, 3) := by decide +kernel
theorem dX4_stepOfHole_13 : decode cX4_stepOfHole 13 = .ok (.i2l, 1) := by decide +kernel
theorem dX4_stepOfHole_14 : decode cX4_stepOfHole 14 = .ok (.aload_n 0, 1) := by decide +kernel
theorem dX4_stepOfHole_15 : decode cX4_stepOfHole 15 = .ok (.getfield 39, 3) := by decide +kernel
theorem dX4_stepOfHole_18 : decode cX4_stepOfHole 18 = .ok (.getfield 135, 3) := by decide +kernel
theorem dX4_stepOfHole_21 : decode cX4_stepOfHole 21 = .ok (.lmul, 1) := by decide +kernel
theorem dX4_stepOfHole_22 : decode cX4_stepOfHole 22 = .ok (.aload_n 0, 1) := by decide +kernel
theorem dX4_stepOfHole_23 : decode cX4_stepOfHole 23 = .ok (.getfield 66, 3) := by decide +kernel
theorem dX4_stepOfHole_26 : decode cX4_stepOfHole 26 = .ok (.i2l, 1) := by decide +kernel
theorem dX4_stepOfHole_27 : decode cX4_stepOfHole 27 = .ok (.aload_n 0, 1) := by decide +kernel
theorem dX4_stepOfHole_28 : decode cX4_stepOfHole 28 = .ok (.getfield 39, 3) := by decide +kernel
theorem dX4_stepOfHole_31 : decode cX4_stepOfHole 31 = .ok (.getfield 131, 3) := by decide +kernel
theorem dX4_stepOfHole_34 : decode cX4_stepOfHole 34 = .ok (.lmul, 1) := by decide +kernel
theorem dX4_stepOfHole_35 : decode cX4_stepOfHole 35 = .ok (.lsub, 1) := by decide +kernel
theorem dX4_stepOfHole_36 : decode cX4_stepOfHole 36 = .ok (.lmul, 1) := by decide +kernel
theorem dX4_stepOfHole_37 : decode cX4_stepOfHole 37 = .ok (.lstore_n 2, 1) := by decide +kernel
theorem dX4_stepOfHole_38 : decode cX4_stepOfHole 38 = .ok (.lload_n 2, 1) := by decide +kernel
theorem dX4_stepOfHole_39 : decode cX4_stepOfHole 39 = .ok (.invokestatic 152, 3) := by decide +kernel
theorem dX4_stepOfHole_42 : decode cX4_stepOfHole 42 = .ok (.lstore 4, 2) := by decide +kernel
theorem dX4_stepOfHole_44 : decode cX4_stepOfHole 44 = .ok (.lload 4, 2) := by decide +kernel
theorem dX4_stepOfHole_46 : decode cX4_stepOfHole 46 = .ok (.lconst 0, 1) := by decide +kernel
theorem dX4_stepOfHole_47 : decode cX4_stepOfHole 47 = .ok (.lcmp, 1) := by decide +kernel
theorem dX4_stepOfHole_48 : decode cX4_stepOfHole 48 = .ok (.ifCond .ne 10, 3) := by decide +kernel
theorem dX4_stepOfHole_51 : decode cX4_stepOfHole 51 = .ok (.aload_n 1, 1) := by decide +kernel
theorem dX4_stepOfHole_52 : decode cX4_stepOfHole 52 = .ok (.lconst 0, 1) := by decide +kernel
theorem dX4_stepOfHole_53 : decode cX4_stepOfHole 53 = .ok (.lconst 1, 1) := by decide +kernel
theorem dX4_stepOfHole_54 : decode cX4_stepOfHole 54 = .ok (.invokevirtual 127, 3) := by decide +kernel
theorem dX4_stepOfHole_57 : decode cX4_stepOfHole 57 = .ok (.return_, 1) := by decide +kernel
theorem dX4_stepOfHole_58 : decode cX4_stepOfHole 58 = .ok (.aload_n 1, 1) := by decide +kernel
theorem dX4_stepOfHole_59 : decode cX4_stepOfHole 59 = .ok (.lload_n 2, 1) := by decide +kernel
theorem dX4_stepOfHole_60 : decode cX4_stepOfHole 60 = .ok (.lconst 0, 1) := by decide +kernel
theorem dX4_stepOfHole_61 : decode cX4_stepOfHole 61 = .ok (.lcmp, 1) := by decide +kernel
theorem dX4_stepOfHole_62 : decode cX4_stepOfHole 62 = .ok (.ifCond .ge 14, 3) := by decide +kernel
theorem dX4_stepOfHole_65 : decode cX4_stepOfHole 65 = .ok (.aload_n 0, 1) := by decide +kernel
theorem dX4_stepOfHole_66 : decode cX4_stepOfHole 66 = .ok (.getfield 39, 3) := by decide +kernel
theorem dX4_stepOfHole_69 : decode cX4_stepOfHole 69 = .ok (.getfield 135, 3) := by decide +kernel
theorem dX4_stepOfHole_72 : decode cX4_stepOfHole 72 = .ok (.lneg, 1) := by decide +kernel
theorem dX4_stepOfHole_73 : decode cX4_stepOfHole 73 = .ok (.goto 10, 3) := by decide +kernel
theorem dX4_stepOfHole_76 : decode cX4_stepOfHole 76 = .ok (.aload_n 0, 1) := by decide +kernel
theorem dX4_stepOfHole_77 : decode cX4_stepOfHole 77 = .ok (.getfield 39, 3) := by decide +kernel
theorem dX4_stepOfHole_80 : decode cX4_stepOfHole 80 = .ok (.getfield 135, 3) := by decide +kernel
theorem dX4_stepOfHole_83 : decode cX4_stepOfHole 83 = .ok (.lload 4, 2) := by decide +kernel
theorem dX4_stepOfHole_85 : decode cX4_stepOfHole 85 = .ok (.invokestatic 144, 3) := by decide +kernel
theorem dX4_stepOfHole_88 : decode cX4_stepOfHole 88 = .ok (.lload 4, 2) := by decide +kernel
theorem dX4_stepOfHole_90 : decode cX4_stepOfHole 90 = .ok (.invokevirtual 127, 3) := by decide +kernel
theorem dX4_stepOfHole_93 : decode cX4_stepOfHole 93 = .ok (.return_, 1) := by decide +kernel
set_option maxRecDepth 20000 in
set_option maxHeartbeats 2000000 in
theorem V_X4_stepOfHole_0 {X : Ctx} (C : C_X4_stepOfHole X) {k n : Nat} {Q : Pq} {h : Hp} {v0 v1 : Nat}
    (hv : St4 h v0 ∧ ((¬ (abL ((Int32.toInt64 (hHo h v0 (gi h v0 5))) * (((Int32.toInt64 (gi h v0 0)) * (gl h (v0 + 1) 1)) - ((Int32.toInt64 (gi h v0 16)) * (gl h (v0 + 1) 0))))) = 0 → ((0 ≤ ((Int32.toInt64 (hHo h v0 (gi h v0 5))) * (((Int32.toInt64 (gi h v0 0)) * (gl h (v0 + 1) 1)) - ((Int32.toInt64 (gi h v0 16)) * (gl h (v0 + 1) 0)))) → Wj X k n Q 83 [(4, .long (abL ((Int32.toInt64 (hHo h v0 (gi h v0 5))) * (((Int32.toInt64 (gi h v0 0)) * (gl h (v0 + 1) 1)) - ((Int32.toInt64 (gi h v0 16)) * (gl h (v0 + 1) 0))))))] [.long (gl h (v0 + 1) 1), .ref v1] h) ∧
    (¬ 0 ≤ ((Int32.toInt64 (hHo h v0 (gi h v0 5))) * (((Int32.toInt64 (gi h v0 0)) * (gl h (v0 + 1) 1)) - ((Int32.toInt64 (gi h v0 16)) * (gl h (v0 + 1) 0)))) → Wj X k n Q 83 [(4, .long (abL ((Int32.toInt64 (hHo h v0 (gi h v0 5))) * (((Int32.toInt64 (gi h v0 0)) * (gl h (v0 + 1) 1)) - ((Int32.toInt64 (gi h v0 16)) * (gl h (v0 + 1) 0))))))] [.long (-(gl h (v0 + 1) 1)), .ref v1] h))) ∧
    ((abL ((Int32.toInt64 (hHo h v0 (gi h v0 5))) * (((Int32.toInt64 (gi h v0 0)) * (gl h (v0 + 1) 1)) - ((Int32.toInt64 (gi h v0 16)) * (gl h (v0 + 1) 0))))) = 0 → kd h v1 = 3 ∧ Q none (fpt h v1 0 1)))) :
    Wj X k n Q 0 [(0, .ref v0), (1, .ref v1)] [] h := by
  refine w_aload_n (pc := 0) C dX4_stepOfHole_0 rfl ?_
  refine w_aload_n (pc := 1) C dX4_stepOfHole_1 rfl ?_
  obtain ⟨f1, hv⟩ := hv
  refine w_getI (pc := 2) C fl_X4_27 rfl dX4_stepOfHole_2 (St4_k f1) ?_
  refine w_cV0_1 (pc := 5) C cl_X4_138 lv_X4_holesOf (by decide) dX4_stepOfHole_5 (Nat.le_of_ble_eq_true rfl) (c := 4) rfl (St4_k f1) ((sf_X4_holesOf (h := h) f1).mono (fun v h9 hp => ?_))
  obtain ⟨e1, e2⟩ := hp
  rw [e1, e2]
  refine w_i2l (pc := 8) C dX4_stepOfHole_8 ?_
  refine w_aload_n (pc := 9) C dX4_stepOfHole_9 rfl ?_
  refine w_getI (pc := 10) C fl_X4_9 rfl dX4_stepOfHole_10 (St4_k f1) ?_
  refine w_i2l (pc := 13) C dX4_stepOfHole_13 ?_
  refine w_aload_n (pc := 14) C dX4_stepOfHole_14 rfl ?_
  refine w_getR (pc := 15) C fl_X4_39 rfl dX4_stepOfHole_15 (St4_k f1) (St4_r8 f1) ?_
  refine w_getL (pc := 18) C fl_X4_135 rfl dX4_stepOfHole_18 (St4_k8 f1) ?_
  refine w_lmul (pc := 21) C dX4_stepOfHole_21 ?_
  refine w_aload_n (pc := 22) C dX4_stepOfHole_22 rfl ?_
  refine w_getI (pc := 23) C fl_X4_66 rfl dX4_stepOfHole_23 (St4_k f1) ?_
  refine w_i2l (pc := 26) C dX4_stepOfHole_26 ?_
  refine w_aload_n (pc := 27) C dX4_stepOfHole_27 rfl ?_
  refine w_getR (pc := 28) C fl_X4_39 rfl dX4_stepOfHole_28 (St4_k f1) (St4_r8 f1) ?_
  refine w_getL (pc := 31) C fl_X4_131 rfl dX4_stepOfHole_31 (St4_k8 f1) ?_
  refine w_lmul (pc := 34) C dX4_stepOfHole_34 ?_
  refine w_lsub (pc := 35) C dX4_stepOfHole_35 ?_
  refine w_lmul (pc := 36) C dX4_stepOfHole_36 ?_
  refine w_lstore_n (pc := 37) C dX4_stepOfHole_37 (by decide) ?_
  refine w_lload_n (pc := 38) C dX4_stepOfHole_38 rfl ?_
  refine w_cS0_1 (pc := 39) C cl_X4_152 ls_J9_abs_067f4 (by decide) dX4_stepOfHole_39 (Nat.le_of_ble_eq_true rfl) ((sf_J9_abs_067f4 (h := h) ).mono (fun v h9 hp => ?_))
  obtain ⟨e1, e2⟩ := hp
  rw [e1, e2]
  refine w_lstore (pc := 42) C dX4_stepOfHole_42 (by decide) ?_
  refine w_lload (pc := 44) C dX4_stepOfHole_44 rfl ?_
  refine w_lconst (pc := 46) C (v := 0) dX4_stepOfHole_46 (by decide) ?_
  refine w_lcmp_ne (pc := 47) C (tgt := 58) dX4_stepOfHole_47 dX4_stepOfHole_48 (by decide) ?_
  obtain ⟨hv1, hv2⟩ := hv
  refine ⟨fun c4 => ?_, fun c4 => ?_⟩
  · have hv := hv1 c4
    refine w_aload_n (pc := 58) C dX4_stepOfHole_58 rfl ?_
    refine w_lload_n (pc := 59) C dX4_stepOfHole_59 rfl ?_
    refine w_lconst (pc := 60) C (v := 0) dX4_stepOfHole_60 (by decide) ?_
    refine w_lcmp_ge (pc := 61) C (tgt := 76) dX4_stepOfHole_61 dX4_stepOfHole_62 (by decide) ?_
    obtain ⟨hv1, hv2⟩ := hv
    refine ⟨fun c2 => ?_, fun c2 => ?_⟩
    · have hv := hv1 c2
      refine w_aload_n (pc := 76) C dX4_stepOfHole_76 rfl ?_
      refine w_getR (pc := 77) C fl_X4_39 rfl dX4_stepOfHole_77 (St4_k f1) (St4_r8 f1) ?_
      refine w_getL (pc := 80) C fl_X4_135 rfl dX4_stepOfHole_80 (St4_k8 f1) ?_
      refine w_sub ?_ hv
      exact ⟨rfl, trivial⟩
    · have hv := hv2 c2
      refine w_aload_n (pc := 65) C dX4_stepOfHole_65 rfl ?_
      refine w_getR (pc := 66) C fl_X4_39 rfl dX4_stepOfHole_66 (St4_k f1) (St4_r8 f1) ?_
      refine w_getL (pc := 69) C fl_X4_135 rfl dX4_stepOfHole_69 (St4_k8 f1) ?_
      refine w_lneg (pc := 72) C dX4_stepOfHole_72 ?_
      refine w_goto (pc := 73) C (tgt := 83) dX4_stepOfHole_73 (by decide) ?_
      refine w_sub ?_ hv
      exact ⟨rfl, trivial⟩
  · have hv := hv2 c4
    refine w_aload_n (pc := 51) C dX4_stepOfHole_51 rfl ?_
    refine w_lconst (pc := 52) C (v := 0) dX4_stepOfHole_52 (by decide) ?_
    refine w_lconst (pc := 53) C (v := 1) dX4_stepOfHole_53 (by decide) ?_
    obtain ⟨f3, hv⟩ := hv
    refine w_cV0_2 (pc := 54) C cl_X4_127 lv_X2_put (by decide) dX4_stepOfHole_54 (Nat.le_of_ble_eq_true rfl) (c := 2) rfl f3 ((sf_X2_put (h := h) f3 (by decide) (by decide)).mono (fun v h9 hp => ?_))
    obtain ⟨e1, e2⟩ := hp
    rw [e1, e2]
    exact w_vret (pc := 57) C dX4_stepOfHole_57 hv
set_option maxRecDepth 20000 in
set_option maxHeartbeats 2000000 in
theorem V_X4_stepOfHole_83 {X : Ctx} (C : C_X4_stepOfHole X) {k n : Nat} {Q : Pq} {h : Hp} {v4 s1 : Int64} {s0 : Nat}
    (hv : 0 < (Int64.toInt v4) ∧ kd h s0 = 3 ∧ -9223372036854775807 ≤ (Int64.toInt (fmL s1 v4)) ∧ Q none (fpt h s0 (fmL s1 v4) v4)) :
    Wj X k n Q 83 [(4, .long v4)] [.long s1, .ref s0] h := by
  refine w_lload (pc := 83) C dX4_stepOfHole_83 rfl ?_
  obtain ⟨f1, hv⟩ := hv
  refine w_cS0_2 (pc := 85) C cl_X4_144 ls_J9_floorMod_f86c9 (by decide) dX4_stepOfHole_85 (Nat.le_of_ble_eq_true rfl) ((sf_J9_floorMod_f86c9 (h := h) f1).mono (fun v h9 hp => ?_))
  obtain ⟨e1, e2⟩ := hp
  rw [e1, e2]
  refine w_lload (pc := 88) C dX4_stepOfHole_88 rfl ?_
  obtain ⟨f2, hv⟩ := hv
  obtain ⟨f3, hv⟩ := hv
  refine w_cV0_2 (pc := 90) C cl_X4_127 lv_X2_put (by decide) dX4_stepOfHole_90 (Nat.le_of_ble_eq_true rfl) (c := 2) rfl f2 ((sf_X2_put (h := h) f2 f3 f1).mono (fun v h9 hp => ?_))
  obtain ⟨e1, e2⟩ := hp
  rw [e1, e2]
  exact w_vret (pc := 93) C dX4_stepOfHole_93 hv
theorem dX4_takeOut_0 : decode cX4_takeOut 0 = .ok (.aload_n 0, 1) := by decide +kernel
theorem dX4_takeOut_1 : decode cX4_takeOut 1 = .ok (.getfield 30, 3) := by decide +kernel
theorem dX4_takeOut_4 : decode cX4_takeOut 4 = .ok (.ifCond .ne 6, 3) := by decide +kernel
theorem dX4_takeOut_7 : decode cX4_takeOut 7 = .ok (.bipush (-2), 2) := by decide +kernel
theorem dX4_takeOut_9 : decode cX4_takeOut 9 = .ok (.ireturn, 1) := by decide +kernel
theorem dX4_takeOut_10 : decode cX4_takeOut 10 = .ok (.aload_n 0, 1) := by decide +kernel
theorem dX4_takeOut_11 : decode cX4_takeOut 11 = .ok (.getfield 30, 3) := by decide +kernel
theorem dX4_takeOut_14 : decode cX4_takeOut 14 = .ok (.istore_n 1, 1) := by decide +kernel
theorem dX4_takeOut_15 : decode cX4_takeOut 15 = .ok (.aload_n 0, 1) := by decide +kernel
theorem dX4_takeOut_16 : decode cX4_takeOut 16 = .ok (.iconst 0, 1) := by decide +kernel
theorem dX4_takeOut_17 : decode cX4_takeOut 17 = .ok (.putfield 30, 3) := by decide +kernel
theorem dX4_takeOut_20 : decode cX4_takeOut 20 = .ok (.aload_n 0, 1) := by decide +kernel
theorem dX4_takeOut_21 : decode cX4_takeOut 21 = .ok (.getfield 39, 3) := by decide +kernel
theorem dX4_takeOut_24 : decode cX4_takeOut 24 = .ok (.lconst 0, 1) := by decide +kernel
theorem dX4_takeOut_25 : decode cX4_takeOut 25 = .ok (.lconst 1, 1) := by decide +kernel
theorem dX4_takeOut_26 : decode cX4_takeOut 26 = .ok (.invokevirtual 127, 3) := by decide +kernel
theorem dX4_takeOut_29 : decode cX4_takeOut 29 = .ok (.aload_n 0, 1) := by decide +kernel
theorem dX4_takeOut_30 : decode cX4_takeOut 30 = .ok (.iconst 1, 1) := by decide +kernel
theorem dX4_takeOut_31 : decode cX4_takeOut 31 = .ok (.putfield 66, 3) := by decide +kernel
theorem dX4_takeOut_34 : decode cX4_takeOut 34 = .ok (.iload_n 1, 1) := by decide +kernel
theorem dX4_takeOut_35 : decode cX4_takeOut 35 = .ok (.ireturn, 1) := by decide +kernel
set_option maxRecDepth 20000 in
set_option maxHeartbeats 2000000 in
theorem V_X4_takeOut_0 {X : Ctx} (C : C_X4_takeOut X) {k n : Nat} {Q : Pq} {h : Hp} {v0 : Nat}
    (hv : St4 h v0 ∧ ((¬ (gi h v0 6) = 0 → Q (some (.int (gi h v0 6))) (si (fpt (si h v0 6 0) (v0 + 1) 0 1) v0 16 1)) ∧
    ((gi h v0 6) = 0 → Q (some (.int (-2))) h))) :
    Wj X k n Q 0 [(0, .ref v0)] [] h := by
  refine w_aload_n (pc := 0) C dX4_takeOut_0 rfl ?_
  obtain ⟨f1, hv⟩ := hv
  refine w_getI (pc := 1) C fl_X4_30 rfl dX4_takeOut_1 (St4_k f1) ?_
  refine w_if_ne (pc := 4) C (tgt := 10) dX4_takeOut_4 (by decide) ?_
  obtain ⟨hv1, hv2⟩ := hv
  refine ⟨fun c2 => ?_, fun c2 => ?_⟩
  · have hv := hv1 c2
    refine w_aload_n (pc := 10) C dX4_takeOut_10 rfl ?_
    refine w_getI (pc := 11) C fl_X4_30 rfl dX4_takeOut_11 (St4_k f1) ?_
    refine w_istore_n (pc := 14) C dX4_takeOut_14 (by decide) ?_
    refine w_aload_n (pc := 15) C dX4_takeOut_15 rfl ?_
    refine w_iconst (pc := 16) C (v := 0) dX4_takeOut_16 (by decide) ?_
    refine w_putI (pc := 17) C fl_X4_30 rfl rfl dX4_takeOut_17 (St4_k f1) ?_
    refine w_aload_n (pc := 20) C dX4_takeOut_20 rfl ?_
    refine w_getR (pc := 21) C fl_X4_39 rfl dX4_takeOut_21 (St4_k f1) (St4_r8 f1) ?_
    refine w_lconst (pc := 24) C (v := 0) dX4_takeOut_24 (by decide) ?_
    refine w_lconst (pc := 25) C (v := 1) dX4_takeOut_25 (by decide) ?_
    refine w_cV0_2 (pc := 26) C cl_X4_127 lv_X2_put (by decide) dX4_takeOut_26 (Nat.le_of_ble_eq_true rfl) (c := 2) rfl (St4_k8 f1) ((sf_X2_put (h := (si h v0 6 0)) (St4_k8 f1) (by decide) (by decide)).mono (fun v h9 hp => ?_))
    obtain ⟨e1, e2⟩ := hp
    rw [e1, e2]
    refine w_aload_n (pc := 29) C dX4_takeOut_29 rfl ?_
    refine w_iconst (pc := 30) C (v := 1) dX4_takeOut_30 (by decide) ?_
    refine w_putI (pc := 31) C fl_X4_66 rfl rfl dX4_takeOut_31 (St4_k f1) ?_
    refine w_iload_n (pc := 34) C dX4_takeOut_34 rfl ?_
    exact w_iret (pc := 35) C dX4_takeOut_35 hv
  · have hv := hv2 c2
    refine w_bipush (pc := 7) C (v := (-2)) dX4_takeOut_7 (by decide) ?_
    exact w_iret (pc := 9) C dX4_takeOut_9 hv
theorem dX4_wipeAll_0 : decode cX4_wipeAll 0 = .ok (.aload_n 0, 1) := by decide +kernel
theorem dX4_wipeAll_1 : decode cX4_wipeAll 1 = .ok (.getfield 33, 3) := by decide +kernel
theorem dX4_wipeAll_4 : decode cX4_wipeAll 4 = .ok (.istore_n 1, 1) := by decide +kernel
theorem dX4_wipeAll_5 : decode cX4_wipeAll 5 = .ok (.aload_n 0, 1) := by decide +kernel
theorem dX4_wipeAll_6 : decode cX4_wipeAll 6 = .ok (.iconst 0, 1) := by decide +kernel
theorem dX4_wipeAll_7 : decode cX4_wipeAll 7 = .ok (.putfield 33, 3) := by decide +kernel
theorem dX4_wipeAll_10 : decode cX4_wipeAll 10 = .ok (.aload_n 0, 1) := by decide +kernel
theorem dX4_wipeAll_11 : decode cX4_wipeAll 11 = .ok (.getfield 43, 3) := by decide +kernel
theorem dX4_wipeAll_14 : decode cX4_wipeAll 14 = .ok (.lconst 0, 1) := by decide +kernel
theorem dX4_wipeAll_15 : decode cX4_wipeAll 15 = .ok (.lconst 1, 1) := by decide +kernel
theorem dX4_wipeAll_16 : decode cX4_wipeAll 16 = .ok (.invokevirtual 127, 3) := by decide +kernel
theorem dX4_wipeAll_19 : decode cX4_wipeAll 19 = .ok (.iload_n 1, 1) := by decide +kernel
theorem dX4_wipeAll_20 : decode cX4_wipeAll 20 = .ok (.ireturn, 1) := by decide +kernel
set_option maxRecDepth 20000 in
set_option maxHeartbeats 2000000 in
theorem V_X4_wipeAll_0 {X : Ctx} (C : C_X4_wipeAll X) {k n : Nat} {Q : Pq} {h : Hp} {v0 : Nat}
    (hv : St4 h v0 ∧ Q (some (.int (gi h v0 7))) (fpt (si h v0 7 0) (v0 + 2) 0 1)) :
    Wj X k n Q 0 [(0, .ref v0)] [] h := by
  refine w_aload_n (pc := 0) C dX4_wipeAll_0 rfl ?_
  obtain ⟨f1, hv⟩ := hv
  refine w_getI (pc := 1) C fl_X4_33 rfl dX4_wipeAll_1 (St4_k f1) ?_
  refine w_istore_n (pc := 4) C dX4_wipeAll_4 (by decide) ?_
  refine w_aload_n (pc := 5) C dX4_wipeAll_5 rfl ?_
  refine w_iconst (pc := 6) C (v := 0) dX4_wipeAll_6 (by decide) ?_
  refine w_putI (pc := 7) C fl_X4_33 rfl rfl dX4_wipeAll_7 (St4_k f1) ?_
  refine w_aload_n (pc := 10) C dX4_wipeAll_10 rfl ?_
  refine w_getR (pc := 11) C fl_X4_43 rfl dX4_wipeAll_11 (St4_k f1) (St4_r9 f1) ?_
  refine w_lconst (pc := 14) C (v := 0) dX4_wipeAll_14 (by decide) ?_
  refine w_lconst (pc := 15) C (v := 1) dX4_wipeAll_15 (by decide) ?_
  refine w_cV0_2 (pc := 16) C cl_X4_127 lv_X2_put (by decide) dX4_wipeAll_16 (Nat.le_of_ble_eq_true rfl) (c := 2) rfl (St4_k9 f1) ((sf_X2_put (h := (si h v0 7 0)) (St4_k9 f1) (by decide) (by decide)).mono (fun v h9 hp => ?_))
  obtain ⟨e1, e2⟩ := hp
  rw [e1, e2]
  refine w_iload_n (pc := 19) C dX4_wipeAll_19 rfl ?_
  exact w_iret (pc := 20) C dX4_wipeAll_20 hv
