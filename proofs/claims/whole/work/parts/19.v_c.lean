-- more readers (by program: gen_parts.py)
theorem dX4_holesOf_0 : decode cX4_holesOf 0 = .ok (.aload_n 0, 1) := by decide +kernel
theorem dX4_holesOf_1 : decode cX4_holesOf 1 = .ok (.iload_n 1, 1) := by decide +kernel
theorem dX4_holesOf_2 : decode cX4_holesOf 2 = .ok (.invokevirtual 102, 3) := by decide +kernel
theorem dX4_holesOf_5 : decode cX4_holesOf 5 = .ok (.ifCond .eq 18, 3) := by decide +kernel
theorem dX4_holesOf_8 : decode cX4_holesOf 8 = .ok (.iload_n 1, 1) := by decide +kernel
theorem dX4_holesOf_9 : decode cX4_holesOf 9 = .ok (.bipush 18, 2) := by decide +kernel
theorem dX4_holesOf_11 : decode cX4_holesOf 11 = .ok (.if_icmp .ge 12, 3) := by decide +kernel
theorem dX4_holesOf_14 : decode cX4_holesOf 14 = .ok (.aload_n 0, 1) := by decide +kernel
theorem dX4_holesOf_15 : decode cX4_holesOf 15 = .ok (.getfield 49, 3) := by decide +kernel
theorem dX4_holesOf_18 : decode cX4_holesOf 18 = .ok (.iload_n 1, 1) := by decide +kernel
theorem dX4_holesOf_19 : decode cX4_holesOf 19 = .ok (.iaload, 1) := by decide +kernel
theorem dX4_holesOf_20 : decode cX4_holesOf 20 = .ok (.goto 4, 3) := by decide +kernel
theorem dX4_holesOf_23 : decode cX4_holesOf 23 = .ok (.iconst 0, 1) := by decide +kernel
theorem dX4_holesOf_24 : decode cX4_holesOf 24 = .ok (.ireturn, 1) := by decide +kernel
set_option maxRecDepth 20000 in
set_option maxHeartbeats 2000000 in
theorem V_X4_holesOf_0 {X : Ctx} (C : C_X4_holesOf X) {k n : Nat} {Q : Pq} {h : Hp} {v0 : Nat} {v1 : Int32}
    (hv : St4 h v0 ∧ (((hIs h v0 3 v1) = 0 → Q (some (.int 0)) h) ∧
    (¬ (hIs h v0 3 v1) = 0 → ((18 ≤ v1 → Q (some (.int 0)) h) ∧
    (¬ 18 ≤ v1 → inb v1 18 ∧ Q (some (.int (gi h (v0 + 4) (ix v1)))) h))))) :
    Wj X k n Q 0 [(0, .ref v0), (1, .int v1)] [] h := by
  refine w_aload_n (pc := 0) C dX4_holesOf_0 rfl ?_
  refine w_iload_n (pc := 1) C dX4_holesOf_1 rfl ?_
  obtain ⟨f1, hv⟩ := hv
  refine w_cV0_1 (pc := 2) C cl_X4_102 lv_X4_isCircle (by decide) dX4_holesOf_2 (Nat.le_of_ble_eq_true rfl) (c := 4) rfl (St4_k f1) ((sf_X4_isCircle (h := h) f1).mono (fun v h9 hp => ?_))
  obtain ⟨e1, e2⟩ := hp
  rw [e1, e2]
  refine w_if_eq (pc := 5) C (tgt := 23) dX4_holesOf_5 (by decide) ?_
  obtain ⟨hv1, hv2⟩ := hv
  refine ⟨fun c4 => ?_, fun c4 => ?_⟩
  · have hv := hv1 c4
    refine w_iconst (pc := 23) C (v := 0) dX4_holesOf_23 (by decide) ?_
    exact w_iret (pc := 24) C dX4_holesOf_24 hv
  · have hv := hv2 c4
    refine w_iload_n (pc := 8) C dX4_holesOf_8 rfl ?_
    refine w_bipush (pc := 9) C (v := 18) dX4_holesOf_9 (by decide) ?_
    refine w_icmp_ge (pc := 11) C (tgt := 23) dX4_holesOf_11 (by decide) ?_
    obtain ⟨hv1, hv2⟩ := hv
    refine ⟨fun c3 => ?_, fun c3 => ?_⟩
    · have hv := hv1 c3
      refine w_iconst (pc := 23) C (v := 0) dX4_holesOf_23 (by decide) ?_
      exact w_iret (pc := 24) C dX4_holesOf_24 hv
    · have hv := hv2 c3
      refine w_aload_n (pc := 14) C dX4_holesOf_14 rfl ?_
      refine w_getR (pc := 15) C fl_X4_49 rfl dX4_holesOf_15 (St4_k f1) (St4_r11 f1) ?_
      refine w_iload_n (pc := 18) C dX4_holesOf_18 rfl ?_
      obtain ⟨f2, hv⟩ := hv
      refine w_iald (pc := 19) C dX4_holesOf_19 (St4_k11 f1) (inbl (St4_l11 f1) f2) ?_
      refine w_goto (pc := 20) C (tgt := 24) dX4_holesOf_20 (by decide) ?_
      exact w_iret (pc := 24) C dX4_holesOf_24 hv
theorem dX4_plateOf_0 : decode cX4_plateOf 0 = .ok (.aload_n 0, 1) := by decide +kernel
theorem dX4_plateOf_1 : decode cX4_plateOf 1 = .ok (.iload_n 1, 1) := by decide +kernel
theorem dX4_plateOf_2 : decode cX4_plateOf 2 = .ok (.invokevirtual 102, 3) := by decide +kernel
theorem dX4_plateOf_5 : decode cX4_plateOf 5 = .ok (.ifCond .eq 18, 3) := by decide +kernel
theorem dX4_plateOf_8 : decode cX4_plateOf 8 = .ok (.iload_n 1, 1) := by decide +kernel
theorem dX4_plateOf_9 : decode cX4_plateOf 9 = .ok (.bipush 18, 2) := by decide +kernel
theorem dX4_plateOf_11 : decode cX4_plateOf 11 = .ok (.if_icmp .ge 12, 3) := by decide +kernel
theorem dX4_plateOf_14 : decode cX4_plateOf 14 = .ok (.aload_n 0, 1) := by decide +kernel
theorem dX4_plateOf_15 : decode cX4_plateOf 15 = .ok (.getfield 53, 3) := by decide +kernel
theorem dX4_plateOf_18 : decode cX4_plateOf 18 = .ok (.iload_n 1, 1) := by decide +kernel
theorem dX4_plateOf_19 : decode cX4_plateOf 19 = .ok (.iaload, 1) := by decide +kernel
theorem dX4_plateOf_20 : decode cX4_plateOf 20 = .ok (.goto 4, 3) := by decide +kernel
theorem dX4_plateOf_23 : decode cX4_plateOf 23 = .ok (.iconst (-1), 1) := by decide +kernel
theorem dX4_plateOf_24 : decode cX4_plateOf 24 = .ok (.ireturn, 1) := by decide +kernel
set_option maxRecDepth 20000 in
set_option maxHeartbeats 2000000 in
theorem V_X4_plateOf_0 {X : Ctx} (C : C_X4_plateOf X) {k n : Nat} {Q : Pq} {h : Hp} {v0 : Nat} {v1 : Int32}
    (hv : St4 h v0 ∧ (((hIs h v0 3 v1) = 0 → Q (some (.int (-1))) h) ∧
    (¬ (hIs h v0 3 v1) = 0 → ((18 ≤ v1 → Q (some (.int (-1))) h) ∧
    (¬ 18 ≤ v1 → inb v1 18 ∧ Q (some (.int (gi h (v0 + 5) (ix v1)))) h))))) :
    Wj X k n Q 0 [(0, .ref v0), (1, .int v1)] [] h := by
  refine w_aload_n (pc := 0) C dX4_plateOf_0 rfl ?_
  refine w_iload_n (pc := 1) C dX4_plateOf_1 rfl ?_
  obtain ⟨f1, hv⟩ := hv
  refine w_cV0_1 (pc := 2) C cl_X4_102 lv_X4_isCircle (by decide) dX4_plateOf_2 (Nat.le_of_ble_eq_true rfl) (c := 4) rfl (St4_k f1) ((sf_X4_isCircle (h := h) f1).mono (fun v h9 hp => ?_))
  obtain ⟨e1, e2⟩ := hp
  rw [e1, e2]
  refine w_if_eq (pc := 5) C (tgt := 23) dX4_plateOf_5 (by decide) ?_
  obtain ⟨hv1, hv2⟩ := hv
  refine ⟨fun c4 => ?_, fun c4 => ?_⟩
  · have hv := hv1 c4
    refine w_iconst (pc := 23) C (v := (-1)) dX4_plateOf_23 (by decide) ?_
    exact w_iret (pc := 24) C dX4_plateOf_24 hv
  · have hv := hv2 c4
    refine w_iload_n (pc := 8) C dX4_plateOf_8 rfl ?_
    refine w_bipush (pc := 9) C (v := 18) dX4_plateOf_9 (by decide) ?_
    refine w_icmp_ge (pc := 11) C (tgt := 23) dX4_plateOf_11 (by decide) ?_
    obtain ⟨hv1, hv2⟩ := hv
    refine ⟨fun c3 => ?_, fun c3 => ?_⟩
    · have hv := hv1 c3
      refine w_iconst (pc := 23) C (v := (-1)) dX4_plateOf_23 (by decide) ?_
      exact w_iret (pc := 24) C dX4_plateOf_24 hv
    · have hv := hv2 c3
      refine w_aload_n (pc := 14) C dX4_plateOf_14 rfl ?_
      refine w_getR (pc := 15) C fl_X4_53 rfl dX4_plateOf_15 (St4_k f1) (St4_r12 f1) ?_
      refine w_iload_n (pc := 18) C dX4_plateOf_18 rfl ?_
      obtain ⟨f2, hv⟩ := hv
      refine w_iald (pc := 19) C dX4_plateOf_19 (St4_k12 f1) (inbl (St4_l12 f1) f2) ?_
      refine w_goto (pc := 20) C (tgt := 24) dX4_plateOf_20 (by decide) ?_
      exact w_iret (pc := 24) C dX4_plateOf_24 hv
theorem dX4_teethOf_0 : decode cX4_teethOf 0 = .ok (.aload_n 0, 1) := by decide +kernel
theorem dX4_teethOf_1 : decode cX4_teethOf 1 = .ok (.iload_n 1, 1) := by decide +kernel
theorem dX4_teethOf_2 : decode cX4_teethOf 2 = .ok (.invokevirtual 106, 3) := by decide +kernel
theorem dX4_teethOf_5 : decode cX4_teethOf 5 = .ok (.ifCond .eq 18, 3) := by decide +kernel
theorem dX4_teethOf_8 : decode cX4_teethOf 8 = .ok (.iload_n 1, 1) := by decide +kernel
theorem dX4_teethOf_9 : decode cX4_teethOf 9 = .ok (.bipush 12, 2) := by decide +kernel
theorem dX4_teethOf_11 : decode cX4_teethOf 11 = .ok (.if_icmp .ge 12, 3) := by decide +kernel
theorem dX4_teethOf_14 : decode cX4_teethOf 14 = .ok (.aload_n 0, 1) := by decide +kernel
theorem dX4_teethOf_15 : decode cX4_teethOf 15 = .ok (.getfield 56, 3) := by decide +kernel
theorem dX4_teethOf_18 : decode cX4_teethOf 18 = .ok (.iload_n 1, 1) := by decide +kernel
theorem dX4_teethOf_19 : decode cX4_teethOf 19 = .ok (.iaload, 1) := by decide +kernel
theorem dX4_teethOf_20 : decode cX4_teethOf 20 = .ok (.goto 4, 3) := by decide +kernel
theorem dX4_teethOf_23 : decode cX4_teethOf 23 = .ok (.iconst 0, 1) := by decide +kernel
theorem dX4_teethOf_24 : decode cX4_teethOf 24 = .ok (.ireturn, 1) := by decide +kernel
set_option maxRecDepth 20000 in
set_option maxHeartbeats 2000000 in
theorem V_X4_teethOf_0 {X : Ctx} (C : C_X4_teethOf X) {k n : Nat} {Q : Pq} {h : Hp} {v0 : Nat} {v1 : Int32}
    (hv : St4 h v0 ∧ (((hIs h v0 4 v1) = 0 → Q (some (.int 0)) h) ∧
    (¬ (hIs h v0 4 v1) = 0 → ((12 ≤ v1 → Q (some (.int 0)) h) ∧
    (¬ 12 ≤ v1 → inb v1 12 ∧ Q (some (.int (gi h (v0 + 6) (ix v1)))) h))))) :
    Wj X k n Q 0 [(0, .ref v0), (1, .int v1)] [] h := by
  refine w_aload_n (pc := 0) C dX4_teethOf_0 rfl ?_
  refine w_iload_n (pc := 1) C dX4_teethOf_1 rfl ?_
  obtain ⟨f1, hv⟩ := hv
  refine w_cV0_1 (pc := 2) C cl_X4_106 lv_X4_isGear (by decide) dX4_teethOf_2 (Nat.le_of_ble_eq_true rfl) (c := 4) rfl (St4_k f1) ((sf_X4_isGear (h := h) f1).mono (fun v h9 hp => ?_))
  obtain ⟨e1, e2⟩ := hp
  rw [e1, e2]
  refine w_if_eq (pc := 5) C (tgt := 23) dX4_teethOf_5 (by decide) ?_
  obtain ⟨hv1, hv2⟩ := hv
  refine ⟨fun c4 => ?_, fun c4 => ?_⟩
  · have hv := hv1 c4
    refine w_iconst (pc := 23) C (v := 0) dX4_teethOf_23 (by decide) ?_
    exact w_iret (pc := 24) C dX4_teethOf_24 hv
  · have hv := hv2 c4
    refine w_iload_n (pc := 8) C dX4_teethOf_8 rfl ?_
    refine w_bipush (pc := 9) C (v := 12) dX4_teethOf_9 (by decide) ?_
    refine w_icmp_ge (pc := 11) C (tgt := 23) dX4_teethOf_11 (by decide) ?_
    obtain ⟨hv1, hv2⟩ := hv
    refine ⟨fun c3 => ?_, fun c3 => ?_⟩
    · have hv := hv1 c3
      refine w_iconst (pc := 23) C (v := 0) dX4_teethOf_23 (by decide) ?_
      exact w_iret (pc := 24) C dX4_teethOf_24 hv
    · have hv := hv2 c3
      refine w_aload_n (pc := 14) C dX4_teethOf_14 rfl ?_
      refine w_getR (pc := 15) C fl_X4_56 rfl dX4_teethOf_15 (St4_k f1) (St4_r13 f1) ?_
      refine w_iload_n (pc := 18) C dX4_teethOf_18 rfl ?_
      obtain ⟨f2, hv⟩ := hv
      refine w_iald (pc := 19) C dX4_teethOf_19 (St4_k13 f1) (inbl (St4_l13 f1) f2) ?_
      refine w_goto (pc := 20) C (tgt := 24) dX4_teethOf_20 (by decide) ?_
      exact w_iret (pc := 24) C dX4_teethOf_24 hv
theorem dX4_markUp_0 : decode cX4_markUp 0 = .ok (.aload_n 0, 1) := by decide +kernel
theorem dX4_markUp_1 : decode cX4_markUp 1 = .ok (.iload_n 1, 1) := by decide +kernel
theorem dX4_markUp_2 : decode cX4_markUp 2 = .ok (.invokevirtual 109, 3) := by decide +kernel
theorem dX4_markUp_5 : decode cX4_markUp 5 = .ok (.ifCond .eq 18, 3) := by decide +kernel
theorem dX4_markUp_8 : decode cX4_markUp 8 = .ok (.iload_n 1, 1) := by decide +kernel
theorem dX4_markUp_9 : decode cX4_markUp 9 = .ok (.bipush 60, 2) := by decide +kernel
theorem dX4_markUp_11 : decode cX4_markUp 11 = .ok (.if_icmp .ge 12, 3) := by decide +kernel
theorem dX4_markUp_14 : decode cX4_markUp 14 = .ok (.aload_n 0, 1) := by decide +kernel
theorem dX4_markUp_15 : decode cX4_markUp 15 = .ok (.getfield 59, 3) := by decide +kernel
theorem dX4_markUp_18 : decode cX4_markUp 18 = .ok (.iload_n 1, 1) := by decide +kernel
theorem dX4_markUp_19 : decode cX4_markUp 19 = .ok (.laload, 1) := by decide +kernel
theorem dX4_markUp_20 : decode cX4_markUp 20 = .ok (.goto 4, 3) := by decide +kernel
theorem dX4_markUp_23 : decode cX4_markUp 23 = .ok (.lconst 0, 1) := by decide +kernel
theorem dX4_markUp_24 : decode cX4_markUp 24 = .ok (.lreturn, 1) := by decide +kernel
set_option maxRecDepth 20000 in
set_option maxHeartbeats 2000000 in
theorem V_X4_markUp_0 {X : Ctx} (C : C_X4_markUp X) {k n : Nat} {Q : Pq} {h : Hp} {v0 : Nat} {v1 : Int32}
    (hv : St4 h v0 ∧ (((hIs h v0 7 v1) = 0 → Q (some (.long 0)) h) ∧
    (¬ (hIs h v0 7 v1) = 0 → ((60 ≤ v1 → Q (some (.long 0)) h) ∧
    (¬ 60 ≤ v1 → inb v1 60 ∧ Q (some (.long (gl h (v0 + 7) (ix v1)))) h))))) :
    Wj X k n Q 0 [(0, .ref v0), (1, .int v1)] [] h := by
  refine w_aload_n (pc := 0) C dX4_markUp_0 rfl ?_
  refine w_iload_n (pc := 1) C dX4_markUp_1 rfl ?_
  obtain ⟨f1, hv⟩ := hv
  refine w_cV0_1 (pc := 2) C cl_X4_109 lv_X4_isMark (by decide) dX4_markUp_2 (Nat.le_of_ble_eq_true rfl) (c := 4) rfl (St4_k f1) ((sf_X4_isMark (h := h) f1).mono (fun v h9 hp => ?_))
  obtain ⟨e1, e2⟩ := hp
  rw [e1, e2]
  refine w_if_eq (pc := 5) C (tgt := 23) dX4_markUp_5 (by decide) ?_
  obtain ⟨hv1, hv2⟩ := hv
  refine ⟨fun c4 => ?_, fun c4 => ?_⟩
  · have hv := hv1 c4
    refine w_lconst (pc := 23) C (v := 0) dX4_markUp_23 (by decide) ?_
    exact w_lret (pc := 24) C dX4_markUp_24 hv
  · have hv := hv2 c4
    refine w_iload_n (pc := 8) C dX4_markUp_8 rfl ?_
    refine w_bipush (pc := 9) C (v := 60) dX4_markUp_9 (by decide) ?_
    refine w_icmp_ge (pc := 11) C (tgt := 23) dX4_markUp_11 (by decide) ?_
    obtain ⟨hv1, hv2⟩ := hv
    refine ⟨fun c3 => ?_, fun c3 => ?_⟩
    · have hv := hv1 c3
      refine w_lconst (pc := 23) C (v := 0) dX4_markUp_23 (by decide) ?_
      exact w_lret (pc := 24) C dX4_markUp_24 hv
    · have hv := hv2 c3
      refine w_aload_n (pc := 14) C dX4_markUp_14 rfl ?_
      refine w_getR (pc := 15) C fl_X4_59 rfl dX4_markUp_15 (St4_k f1) (St4_r14 f1) ?_
      refine w_iload_n (pc := 18) C dX4_markUp_18 rfl ?_
      obtain ⟨f2, hv⟩ := hv
      refine w_lald (pc := 19) C dX4_markUp_19 (St4_k14 f1) (inbl (St4_l14 f1) f2) ?_
      refine w_goto (pc := 20) C (tgt := 24) dX4_markUp_20 (by decide) ?_
      exact w_lret (pc := 24) C dX4_markUp_24 hv
theorem dX4_markLow_0 : decode cX4_markLow 0 = .ok (.aload_n 0, 1) := by decide +kernel
theorem dX4_markLow_1 : decode cX4_markLow 1 = .ok (.iload_n 1, 1) := by decide +kernel
theorem dX4_markLow_2 : decode cX4_markLow 2 = .ok (.invokevirtual 109, 3) := by decide +kernel
theorem dX4_markLow_5 : decode cX4_markLow 5 = .ok (.ifCond .eq 18, 3) := by decide +kernel
theorem dX4_markLow_8 : decode cX4_markLow 8 = .ok (.iload_n 1, 1) := by decide +kernel
theorem dX4_markLow_9 : decode cX4_markLow 9 = .ok (.bipush 60, 2) := by decide +kernel
theorem dX4_markLow_11 : decode cX4_markLow 11 = .ok (.if_icmp .ge 12, 3) := by decide +kernel
theorem dX4_markLow_14 : decode cX4_markLow 14 = .ok (.aload_n 0, 1) := by decide +kernel
theorem dX4_markLow_15 : decode cX4_markLow 15 = .ok (.getfield 63, 3) := by decide +kernel
theorem dX4_markLow_18 : decode cX4_markLow 18 = .ok (.iload_n 1, 1) := by decide +kernel
theorem dX4_markLow_19 : decode cX4_markLow 19 = .ok (.laload, 1) := by decide +kernel
theorem dX4_markLow_20 : decode cX4_markLow 20 = .ok (.goto 4, 3) := by decide +kernel
theorem dX4_markLow_23 : decode cX4_markLow 23 = .ok (.lconst 1, 1) := by decide +kernel
theorem dX4_markLow_24 : decode cX4_markLow 24 = .ok (.lreturn, 1) := by decide +kernel
set_option maxRecDepth 20000 in
set_option maxHeartbeats 2000000 in
theorem V_X4_markLow_0 {X : Ctx} (C : C_X4_markLow X) {k n : Nat} {Q : Pq} {h : Hp} {v0 : Nat} {v1 : Int32}
    (hv : St4 h v0 ∧ (((hIs h v0 7 v1) = 0 → Q (some (.long 1)) h) ∧
    (¬ (hIs h v0 7 v1) = 0 → ((60 ≤ v1 → Q (some (.long 1)) h) ∧
    (¬ 60 ≤ v1 → inb v1 60 ∧ Q (some (.long (gl h (v0 + 8) (ix v1)))) h))))) :
    Wj X k n Q 0 [(0, .ref v0), (1, .int v1)] [] h := by
  refine w_aload_n (pc := 0) C dX4_markLow_0 rfl ?_
  refine w_iload_n (pc := 1) C dX4_markLow_1 rfl ?_
  obtain ⟨f1, hv⟩ := hv
  refine w_cV0_1 (pc := 2) C cl_X4_109 lv_X4_isMark (by decide) dX4_markLow_2 (Nat.le_of_ble_eq_true rfl) (c := 4) rfl (St4_k f1) ((sf_X4_isMark (h := h) f1).mono (fun v h9 hp => ?_))
  obtain ⟨e1, e2⟩ := hp
  rw [e1, e2]
  refine w_if_eq (pc := 5) C (tgt := 23) dX4_markLow_5 (by decide) ?_
  obtain ⟨hv1, hv2⟩ := hv
  refine ⟨fun c4 => ?_, fun c4 => ?_⟩
  · have hv := hv1 c4
    refine w_lconst (pc := 23) C (v := 1) dX4_markLow_23 (by decide) ?_
    exact w_lret (pc := 24) C dX4_markLow_24 hv
  · have hv := hv2 c4
    refine w_iload_n (pc := 8) C dX4_markLow_8 rfl ?_
    refine w_bipush (pc := 9) C (v := 60) dX4_markLow_9 (by decide) ?_
    refine w_icmp_ge (pc := 11) C (tgt := 23) dX4_markLow_11 (by decide) ?_
    obtain ⟨hv1, hv2⟩ := hv
    refine ⟨fun c3 => ?_, fun c3 => ?_⟩
    · have hv := hv1 c3
      refine w_lconst (pc := 23) C (v := 1) dX4_markLow_23 (by decide) ?_
      exact w_lret (pc := 24) C dX4_markLow_24 hv
    · have hv := hv2 c3
      refine w_aload_n (pc := 14) C dX4_markLow_14 rfl ?_
      refine w_getR (pc := 15) C fl_X4_63 rfl dX4_markLow_15 (St4_k f1) (St4_r15 f1) ?_
      refine w_iload_n (pc := 18) C dX4_markLow_18 rfl ?_
      obtain ⟨f2, hv⟩ := hv
      refine w_lald (pc := 19) C dX4_markLow_19 (St4_k15 f1) (inbl (St4_l15 f1) f2) ?_
      refine w_goto (pc := 20) C (tgt := 24) dX4_markLow_20 (by decide) ?_
      exact w_lret (pc := 24) C dX4_markLow_24 hv
theorem dX4_isPair_0 : decode cX4_isPair 0 = .ok (.aload_n 0, 1) := by decide +kernel
theorem dX4_isPair_1 : decode cX4_isPair 1 = .ok (.iload_n 1, 1) := by decide +kernel
theorem dX4_isPair_2 : decode cX4_isPair 2 = .ok (.invokevirtual 106, 3) := by decide +kernel
theorem dX4_isPair_5 : decode cX4_isPair 5 = .ok (.ifCond .eq 20, 3) := by decide +kernel
theorem dX4_isPair_8 : decode cX4_isPair 8 = .ok (.aload_n 0, 1) := by decide +kernel
theorem dX4_isPair_9 : decode cX4_isPair 9 = .ok (.iload_n 2, 1) := by decide +kernel
theorem dX4_isPair_10 : decode cX4_isPair 10 = .ok (.invokevirtual 106, 3) := by decide +kernel
theorem dX4_isPair_13 : decode cX4_isPair 13 = .ok (.ifCond .eq 12, 3) := by decide +kernel
theorem dX4_isPair_16 : decode cX4_isPair 16 = .ok (.iload_n 1, 1) := by decide +kernel
theorem dX4_isPair_17 : decode cX4_isPair 17 = .ok (.iload_n 2, 1) := by decide +kernel
theorem dX4_isPair_18 : decode cX4_isPair 18 = .ok (.if_icmp .eq 7, 3) := by decide +kernel
theorem dX4_isPair_21 : decode cX4_isPair 21 = .ok (.iconst 1, 1) := by decide +kernel
theorem dX4_isPair_22 : decode cX4_isPair 22 = .ok (.goto 4, 3) := by decide +kernel
theorem dX4_isPair_25 : decode cX4_isPair 25 = .ok (.iconst 0, 1) := by decide +kernel
theorem dX4_isPair_26 : decode cX4_isPair 26 = .ok (.ireturn, 1) := by decide +kernel
set_option maxRecDepth 20000 in
set_option maxHeartbeats 2000000 in
theorem V_X4_isPair_0 {X : Ctx} (C : C_X4_isPair X) {k n : Nat} {Q : Pq} {h : Hp} {v0 : Nat} {v1 v2 : Int32}
    (hv : St4 h v0 ∧ (((hIs h v0 4 v1) = 0 → Q (some (.int 0)) h) ∧
    (¬ (hIs h v0 4 v1) = 0 → (((hIs h v0 4 v2) = 0 → Q (some (.int 0)) h) ∧
    (¬ (hIs h v0 4 v2) = 0 → ((v1 = v2 → Q (some (.int 0)) h) ∧
    (¬ v1 = v2 → Q (some (.int 1)) h))))))) :
    Wj X k n Q 0 [(0, .ref v0), (1, .int v1), (2, .int v2)] [] h := by
  refine w_aload_n (pc := 0) C dX4_isPair_0 rfl ?_
  refine w_iload_n (pc := 1) C dX4_isPair_1 rfl ?_
  obtain ⟨f1, hv⟩ := hv
  refine w_cV0_1 (pc := 2) C cl_X4_106 lv_X4_isGear (by decide) dX4_isPair_2 (Nat.le_of_ble_eq_true rfl) (c := 4) rfl (St4_k f1) ((sf_X4_isGear (h := h) f1).mono (fun v h9 hp => ?_))
  obtain ⟨e1, e2⟩ := hp
  rw [e1, e2]
  refine w_if_eq (pc := 5) C (tgt := 25) dX4_isPair_5 (by decide) ?_
  obtain ⟨hv1, hv2⟩ := hv
  refine ⟨fun c4 => ?_, fun c4 => ?_⟩
  · have hv := hv1 c4
    refine w_iconst (pc := 25) C (v := 0) dX4_isPair_25 (by decide) ?_
    exact w_zret (pc := 26) C dX4_isPair_26 (by decide) hv
  · have hv := hv2 c4
    refine w_aload_n (pc := 8) C dX4_isPair_8 rfl ?_
    refine w_iload_n (pc := 9) C dX4_isPair_9 rfl ?_
    refine w_cV0_1 (pc := 10) C cl_X4_106 lv_X4_isGear (by decide) dX4_isPair_10 (Nat.le_of_ble_eq_true rfl) (c := 4) rfl (St4_k f1) ((sf_X4_isGear (h := h) f1).mono (fun v h9 hp => ?_))
    obtain ⟨e1, e2⟩ := hp
    rw [e1, e2]
    refine w_if_eq (pc := 13) C (tgt := 25) dX4_isPair_13 (by decide) ?_
    obtain ⟨hv1, hv2⟩ := hv
    refine ⟨fun c3 => ?_, fun c3 => ?_⟩
    · have hv := hv1 c3
      refine w_iconst (pc := 25) C (v := 0) dX4_isPair_25 (by decide) ?_
      exact w_zret (pc := 26) C dX4_isPair_26 (by decide) hv
    · have hv := hv2 c3
      refine w_iload_n (pc := 16) C dX4_isPair_16 rfl ?_
      refine w_iload_n (pc := 17) C dX4_isPair_17 rfl ?_
      refine w_icmp_eq (pc := 18) C (tgt := 25) dX4_isPair_18 (by decide) ?_
      obtain ⟨hv1, hv2⟩ := hv
      refine ⟨fun c2 => ?_, fun c2 => ?_⟩
      · have hv := hv1 c2
        refine w_iconst (pc := 25) C (v := 0) dX4_isPair_25 (by decide) ?_
        exact w_zret (pc := 26) C dX4_isPair_26 (by decide) hv
      · have hv := hv2 c2
        refine w_iconst (pc := 21) C (v := 1) dX4_isPair_21 (by decide) ?_
        refine w_goto (pc := 22) C (tgt := 26) dX4_isPair_22 (by decide) ?_
        exact w_zret (pc := 26) C dX4_isPair_26 (by decide) hv
theorem dX10_hasSimple_0 : decode cX10_hasSimple 0 = .ok (.aload_n 0, 1) := by decide +kernel
theorem dX10_hasSimple_1 : decode cX10_hasSimple 1 = .ok (.invokevirtual 168, 3) := by decide +kernel
theorem dX10_hasSimple_4 : decode cX10_hasSimple 4 = .ok (.aload_n 0, 1) := by decide +kernel
theorem dX10_hasSimple_5 : decode cX10_hasSimple 5 = .ok (.iload_n 1, 1) := by decide +kernel
theorem dX10_hasSimple_6 : decode cX10_hasSimple 6 = .ok (.invokevirtual 159, 3) := by decide +kernel
theorem dX10_hasSimple_9 : decode cX10_hasSimple 9 = .ok (.imul, 1) := by decide +kernel
theorem dX10_hasSimple_10 : decode cX10_hasSimple 10 = .ok (.iload_n 2, 1) := by decide +kernel
theorem dX10_hasSimple_11 : decode cX10_hasSimple 11 = .ok (.irem, 1) := by decide +kernel
theorem dX10_hasSimple_12 : decode cX10_hasSimple 12 = .ok (.ifCond .ne 7, 3) := by decide +kernel
theorem dX10_hasSimple_15 : decode cX10_hasSimple 15 = .ok (.iconst 1, 1) := by decide +kernel
theorem dX10_hasSimple_16 : decode cX10_hasSimple 16 = .ok (.goto 4, 3) := by decide +kernel
theorem dX10_hasSimple_19 : decode cX10_hasSimple 19 = .ok (.iconst 0, 1) := by decide +kernel
theorem dX10_hasSimple_20 : decode cX10_hasSimple 20 = .ok (.ireturn, 1) := by decide +kernel
set_option maxRecDepth 20000 in
set_option maxHeartbeats 2000000 in
theorem V_X10_hasSimple_0 {X : Ctx} (C : C_X10_hasSimple X) {k n : Nat} {Q : Pq} {h : Hp} {v0 : Nat} {v1 v2 : Int32}
    (hv : St10 h v0 ∧ inb (23 + v1) 732 ∧ ¬ v2 = 0 ∧ ((¬ (((gi h (v0 + 3) (ix 0)) * (gi h (v0 + 3) (ix (23 + v1)))) % v2) = 0 → Q (some (.int 0)) h) ∧
    ((((gi h (v0 + 3) (ix 0)) * (gi h (v0 + 3) (ix (23 + v1)))) % v2) = 0 → Q (some (.int 1)) h))) :
    Wj X k n Q 0 [(0, .ref v0), (1, .int v1), (2, .int v2)] [] h := by
  refine w_aload_n (pc := 0) C dX10_hasSimple_0 rfl ?_
  obtain ⟨f1, hv⟩ := hv
  refine w_cV0_0 (pc := 1) C cl_X10_168 lv_X10_worm (by decide) dX10_hasSimple_1 (Nat.le_of_ble_eq_true rfl) (c := 10) rfl (St10_k f1) ((sf_X10_worm (h := h) f1).mono (fun v h9 hp => ?_))
  obtain ⟨e1, e2⟩ := hp
  rw [e1, e2]
  refine w_aload_n (pc := 4) C dX10_hasSimple_4 rfl ?_
  refine w_iload_n (pc := 5) C dX10_hasSimple_5 rfl ?_
  obtain ⟨f2, hv⟩ := hv
  refine w_cV0_1 (pc := 6) C cl_X10_159 lv_X10_holes (by decide) dX10_hasSimple_6 (Nat.le_of_ble_eq_true rfl) (c := 10) rfl (St10_k f1) ((sf_X10_holes (h := h) f1 f2).mono (fun v h9 hp => ?_))
  obtain ⟨e1, e2⟩ := hp
  rw [e1, e2]
  refine w_imul (pc := 9) C dX10_hasSimple_9 ?_
  refine w_iload_n (pc := 10) C dX10_hasSimple_10 rfl ?_
  obtain ⟨f3, hv⟩ := hv
  refine w_irem (pc := 11) C dX10_hasSimple_11 f3 ?_
  refine w_if_ne (pc := 12) C (tgt := 19) dX10_hasSimple_12 (by decide) ?_
  obtain ⟨hv1, hv2⟩ := hv
  refine ⟨fun c4 => ?_, fun c4 => ?_⟩
  · have hv := hv1 c4
    refine w_iconst (pc := 19) C (v := 0) dX10_hasSimple_19 (by decide) ?_
    exact w_zret (pc := 20) C dX10_hasSimple_20 (by decide) hv
  · have hv := hv2 c4
    refine w_iconst (pc := 15) C (v := 1) dX10_hasSimple_15 (by decide) ?_
    refine w_goto (pc := 16) C (tgt := 20) dX10_hasSimple_16 (by decide) ?_
    exact w_zret (pc := 20) C dX10_hasSimple_20 (by decide) hv
theorem dX10_allHoles_0 : decode cX10_allHoles 0 = .ok (.aload_n 0, 1) := by decide +kernel
theorem dX10_allHoles_1 : decode cX10_allHoles 1 = .ok (.invokevirtual 168, 3) := by decide +kernel
theorem dX10_allHoles_4 : decode cX10_allHoles 4 = .ok (.aload_n 0, 1) := by decide +kernel
theorem dX10_allHoles_5 : decode cX10_allHoles 5 = .ok (.iload_n 1, 1) := by decide +kernel
theorem dX10_allHoles_6 : decode cX10_allHoles 6 = .ok (.invokevirtual 159, 3) := by decide +kernel
theorem dX10_allHoles_9 : decode cX10_allHoles 9 = .ok (.imul, 1) := by decide +kernel
theorem dX10_allHoles_10 : decode cX10_allHoles 10 = .ok (.iload_n 2, 1) := by decide +kernel
theorem dX10_allHoles_11 : decode cX10_allHoles 11 = .ok (.idiv, 1) := by decide +kernel
theorem dX10_allHoles_12 : decode cX10_allHoles 12 = .ok (.ireturn, 1) := by decide +kernel
set_option maxRecDepth 20000 in
set_option maxHeartbeats 2000000 in
theorem V_X10_allHoles_0 {X : Ctx} (C : C_X10_allHoles X) {k n : Nat} {Q : Pq} {h : Hp} {v0 : Nat} {v1 v2 : Int32}
    (hv : St10 h v0 ∧ inb (23 + v1) 732 ∧ ¬ v2 = 0 ∧ Q (some (.int (((gi h (v0 + 3) (ix 0)) * (gi h (v0 + 3) (ix (23 + v1)))) / v2))) h) :
    Wj X k n Q 0 [(0, .ref v0), (1, .int v1), (2, .int v2)] [] h := by
  refine w_aload_n (pc := 0) C dX10_allHoles_0 rfl ?_
  obtain ⟨f1, hv⟩ := hv
  refine w_cV0_0 (pc := 1) C cl_X10_168 lv_X10_worm (by decide) dX10_allHoles_1 (Nat.le_of_ble_eq_true rfl) (c := 10) rfl (St10_k f1) ((sf_X10_worm (h := h) f1).mono (fun v h9 hp => ?_))
  obtain ⟨e1, e2⟩ := hp
  rw [e1, e2]
  refine w_aload_n (pc := 4) C dX10_allHoles_4 rfl ?_
  refine w_iload_n (pc := 5) C dX10_allHoles_5 rfl ?_
  obtain ⟨f2, hv⟩ := hv
  refine w_cV0_1 (pc := 6) C cl_X10_159 lv_X10_holes (by decide) dX10_allHoles_6 (Nat.le_of_ble_eq_true rfl) (c := 10) rfl (St10_k f1) ((sf_X10_holes (h := h) f1 f2).mono (fun v h9 hp => ?_))
  obtain ⟨e1, e2⟩ := hp
  rw [e1, e2]
  refine w_imul (pc := 9) C dX10_allHoles_9 ?_
  refine w_iload_n (pc := 10) C dX10_allHoles_10 rfl ?_
  obtain ⟨f3, hv⟩ := hv
  refine w_idiv (pc := 11) C dX10_allHoles_11 f3 ?_
  exact w_iret (pc := 12) C dX10_allHoles_12 hv
theorem dX10_isUnlike_0 : decode cX10_isUnlike 0 = .ok (.iconst 0, 1) := by decide +kernel
theorem dX10_isUnlike_1 : decode cX10_isUnlike 1 = .ok (.istore_n 2, 1) := by decide +kernel
theorem dX10_isUnlike_2 : decode cX10_isUnlike 2 = .ok (.iload_n 2, 1) := by decide +kernel
theorem dX10_isUnlike_3 : decode cX10_isUnlike 3 = .ok (.iload_n 1, 1) := by decide +kernel
theorem dX10_isUnlike_4 : decode cX10_isUnlike 4 = .ok (.if_icmp .ge 26, 3) := by decide +kernel
theorem dX10_isUnlike_7 : decode cX10_isUnlike 7 = .ok (.aload_n 0, 1) := by decide +kernel
theorem dX10_isUnlike_8 : decode cX10_isUnlike 8 = .ok (.getfield 80, 3) := by decide +kernel
theorem dX10_isUnlike_11 : decode cX10_isUnlike 11 = .ok (.iload_n 2, 1) := by decide +kernel
theorem dX10_isUnlike_12 : decode cX10_isUnlike 12 = .ok (.iaload, 1) := by decide +kernel
theorem dX10_isUnlike_13 : decode cX10_isUnlike 13 = .ok (.aload_n 0, 1) := by decide +kernel
theorem dX10_isUnlike_14 : decode cX10_isUnlike 14 = .ok (.getfield 80, 3) := by decide +kernel
theorem dX10_isUnlike_17 : decode cX10_isUnlike 17 = .ok (.iload_n 1, 1) := by decide +kernel
theorem dX10_isUnlike_18 : decode cX10_isUnlike 18 = .ok (.iaload, 1) := by decide +kernel
theorem dX10_isUnlike_19 : decode cX10_isUnlike 19 = .ok (.if_icmp .ne 5, 3) := by decide +kernel
theorem dX10_isUnlike_22 : decode cX10_isUnlike 22 = .ok (.iconst 0, 1) := by decide +kernel
theorem dX10_isUnlike_23 : decode cX10_isUnlike 23 = .ok (.ireturn, 1) := by decide +kernel
theorem dX10_isUnlike_24 : decode cX10_isUnlike 24 = .ok (.iinc 2 1, 3) := by decide +kernel
theorem dX10_isUnlike_27 : decode cX10_isUnlike 27 = .ok (.goto (-25), 3) := by decide +kernel
theorem dX10_isUnlike_30 : decode cX10_isUnlike 30 = .ok (.iconst 1, 1) := by decide +kernel
theorem dX10_isUnlike_31 : decode cX10_isUnlike 31 = .ok (.ireturn, 1) := by decide +kernel
set_option maxRecDepth 20000 in
set_option maxHeartbeats 2000000 in
theorem V_X10_isUnlike_0 {X : Ctx} (C : C_X10_isUnlike X) {k n : Nat} {Q : Pq} {h : Hp} {v0 : Nat} {v1 : Int32}
    (hv : Wj X k n Q 2 [(0, .ref v0), (1, .int v1), (2, .int 0)] [] h) :
    Wj X k n Q 0 [(0, .ref v0), (1, .int v1)] [] h := by
  refine w_iconst (pc := 0) C (v := 0) dX10_isUnlike_0 (by decide) ?_
  refine w_istore_n (pc := 1) C dX10_isUnlike_1 (by decide) ?_
  refine w_sub ?_ hv
  exact ⟨rfl, rfl, rfl, trivial⟩
set_option maxRecDepth 20000 in
set_option maxHeartbeats 2000000 in
theorem V_X10_isUnlike_2 {X : Ctx} (C : C_X10_isUnlike X) {k n : Nat} {Q : Pq} {h : Hp} {v0 : Nat} {v1 v2 : Int32}
    (hv : ((v1 ≤ v2 → Q (some (.int 1)) h) ∧
    (¬ v1 ≤ v2 → St10 h v0 ∧ inb v2 4 ∧ inb v1 4 ∧ ((¬ (gi h (v0 + 7) (ix v2)) = (gi h (v0 + 7) (ix v1)) → Wj X k n Q 2 [(0, .ref v0), (1, .int v1), (2, .int (v2 + Int32.ofInt 1))] [] h) ∧
    ((gi h (v0 + 7) (ix v2)) = (gi h (v0 + 7) (ix v1)) → Q (some (.int 0)) h))))) :
    Wj X k n Q 2 [(0, .ref v0), (1, .int v1), (2, .int v2)] [] h := by
  refine w_iload_n (pc := 2) C dX10_isUnlike_2 rfl ?_
  refine w_iload_n (pc := 3) C dX10_isUnlike_3 rfl ?_
  refine w_icmp_ge (pc := 4) C (tgt := 30) dX10_isUnlike_4 (by decide) ?_
  obtain ⟨hv1, hv2⟩ := hv
  refine ⟨fun c5 => ?_, fun c5 => ?_⟩
  · have hv := hv1 c5
    refine w_iconst (pc := 30) C (v := 1) dX10_isUnlike_30 (by decide) ?_
    exact w_zret (pc := 31) C dX10_isUnlike_31 (by decide) hv
  · have hv := hv2 c5
    refine w_aload_n (pc := 7) C dX10_isUnlike_7 rfl ?_
    obtain ⟨f1, hv⟩ := hv
    refine w_getR (pc := 8) C fl_X10_80 rfl dX10_isUnlike_8 (St10_k f1) (St10_r17 f1) ?_
    refine w_iload_n (pc := 11) C dX10_isUnlike_11 rfl ?_
    obtain ⟨f2, hv⟩ := hv
    refine w_iald (pc := 12) C dX10_isUnlike_12 (St10_k17 f1) (inbl (St10_l17 f1) f2) ?_
    refine w_aload_n (pc := 13) C dX10_isUnlike_13 rfl ?_
    refine w_getR (pc := 14) C fl_X10_80 rfl dX10_isUnlike_14 (St10_k f1) (St10_r17 f1) ?_
    refine w_iload_n (pc := 17) C dX10_isUnlike_17 rfl ?_
    obtain ⟨f3, hv⟩ := hv
    refine w_iald (pc := 18) C dX10_isUnlike_18 (St10_k17 f1) (inbl (St10_l17 f1) f3) ?_
    refine w_icmp_ne (pc := 19) C (tgt := 24) dX10_isUnlike_19 (by decide) ?_
    obtain ⟨hv1, hv2⟩ := hv
    refine ⟨fun c4 => ?_, fun c4 => ?_⟩
    · have hv := hv1 c4
      refine w_iinc (pc := 24) C dX10_isUnlike_24 rfl (by decide) ?_
      refine w_goto (pc := 27) C (tgt := 2) dX10_isUnlike_27 (by decide) ?_
      refine w_sub ?_ hv
      exact ⟨rfl, rfl, rfl, trivial⟩
    · have hv := hv2 c4
      refine w_iconst (pc := 22) C (v := 0) dX10_isUnlike_22 (by decide) ?_
      exact w_zret (pc := 23) C dX10_isUnlike_23 (by decide) hv
theorem dX10_upper_0 : decode cX10_upper 0 = .ok (.aload_n 0, 1) := by decide +kernel
theorem dX10_upper_1 : decode cX10_upper 1 = .ok (.aload_n 0, 1) := by decide +kernel
theorem dX10_upper_2 : decode cX10_upper 2 = .ok (.getfield 80, 3) := by decide +kernel
theorem dX10_upper_5 : decode cX10_upper 5 = .ok (.iconst 0, 1) := by decide +kernel
theorem dX10_upper_6 : decode cX10_upper 6 = .ok (.iaload, 1) := by decide +kernel
theorem dX10_upper_7 : decode cX10_upper 7 = .ok (.invokevirtual 165, 3) := by decide +kernel
theorem dX10_upper_10 : decode cX10_upper 10 = .ok (.i2l, 1) := by decide +kernel
theorem dX10_upper_11 : decode cX10_upper 11 = .ok (.aload_n 0, 1) := by decide +kernel
theorem dX10_upper_12 : decode cX10_upper 12 = .ok (.getfield 217, 3) := by decide +kernel
theorem dX10_upper_15 : decode cX10_upper 15 = .ok (.iconst 4, 1) := by decide +kernel
theorem dX10_upper_16 : decode cX10_upper 16 = .ok (.if_icmp .ne 16, 3) := by decide +kernel
theorem dX10_upper_19 : decode cX10_upper 19 = .ok (.aload_n 0, 1) := by decide +kernel
theorem dX10_upper_20 : decode cX10_upper 20 = .ok (.aload_n 0, 1) := by decide +kernel
theorem dX10_upper_21 : decode cX10_upper 21 = .ok (.getfield 80, 3) := by decide +kernel
theorem dX10_upper_24 : decode cX10_upper 24 = .ok (.iconst 2, 1) := by decide +kernel
theorem dX10_upper_25 : decode cX10_upper 25 = .ok (.iaload, 1) := by decide +kernel
theorem dX10_upper_26 : decode cX10_upper 26 = .ok (.invokevirtual 165, 3) := by decide +kernel
theorem dX10_upper_29 : decode cX10_upper 29 = .ok (.goto 4, 3) := by decide +kernel
theorem dX10_upper_32 : decode cX10_upper 32 = .ok (.iconst 1, 1) := by decide +kernel
theorem dX10_upper_33 : decode cX10_upper 33 = .ok (.i2l, 1) := by decide +kernel
theorem dX10_upper_34 : decode cX10_upper 34 = .ok (.lmul, 1) := by decide +kernel
theorem dX10_upper_35 : decode cX10_upper 35 = .ok (.lreturn, 1) := by decide +kernel
set_option maxRecDepth 20000 in
set_option maxHeartbeats 2000000 in
theorem V_X10_upper_0 {X : Ctx} (C : C_X10_upper X) {k n : Nat} {Q : Pq} {h : Hp} {v0 : Nat}
    (hv : St10 h v0 ∧ inb (41 + (gi h (v0 + 7) (ix 0))) 732 ∧ ((¬ (gi h v0 18) = 4 → Q (some (.long ((Int32.toInt64 (gi h (v0 + 3) (ix (41 + (gi h (v0 + 7) (ix 0)))))) * (Int32.toInt64 1)))) h) ∧
    ((gi h v0 18) = 4 → inb (41 + (gi h (v0 + 7) (ix 2))) 732 ∧ Q (some (.long ((Int32.toInt64 (gi h (v0 + 3) (ix (41 + (gi h (v0 + 7) (ix 0)))))) * (Int32.toInt64 (gi h (v0 + 3) (ix (41 + (gi h (v0 + 7) (ix 2))))))))) h))) :
    Wj X k n Q 0 [(0, .ref v0)] [] h := by
  refine w_aload_n (pc := 0) C dX10_upper_0 rfl ?_
  refine w_aload_n (pc := 1) C dX10_upper_1 rfl ?_
  obtain ⟨f1, hv⟩ := hv
  refine w_getR (pc := 2) C fl_X10_80 rfl dX10_upper_2 (St10_k f1) (St10_r17 f1) ?_
  refine w_iconst (pc := 5) C (v := 0) dX10_upper_5 (by decide) ?_
  refine w_iald (pc := 6) C dX10_upper_6 (St10_k17 f1) (inbl (St10_l17 f1) (inbd (by decide))) ?_
  obtain ⟨f2, hv⟩ := hv
  refine w_cV0_1 (pc := 7) C cl_X10_165 lv_X10_teeth (by decide) dX10_upper_7 (Nat.le_of_ble_eq_true rfl) (c := 10) rfl (St10_k f1) ((sf_X10_teeth (h := h) f1 f2).mono (fun v h9 hp => ?_))
  obtain ⟨e1, e2⟩ := hp
  rw [e1, e2]
  refine w_i2l (pc := 10) C dX10_upper_10 ?_
  refine w_aload_n (pc := 11) C dX10_upper_11 rfl ?_
  refine w_getI (pc := 12) C fl_X10_217 rfl dX10_upper_12 (St10_k f1) ?_
  refine w_iconst (pc := 15) C (v := 4) dX10_upper_15 (by decide) ?_
  refine w_icmp_ne (pc := 16) C (tgt := 32) dX10_upper_16 (by decide) ?_
  obtain ⟨hv1, hv2⟩ := hv
  refine ⟨fun c4 => ?_, fun c4 => ?_⟩
  · have hv := hv1 c4
    refine w_iconst (pc := 32) C (v := 1) dX10_upper_32 (by decide) ?_
    refine w_i2l (pc := 33) C dX10_upper_33 ?_
    refine w_lmul (pc := 34) C dX10_upper_34 ?_
    exact w_lret (pc := 35) C dX10_upper_35 hv
  · have hv := hv2 c4
    refine w_aload_n (pc := 19) C dX10_upper_19 rfl ?_
    refine w_aload_n (pc := 20) C dX10_upper_20 rfl ?_
    refine w_getR (pc := 21) C fl_X10_80 rfl dX10_upper_21 (St10_k f1) (St10_r17 f1) ?_
    refine w_iconst (pc := 24) C (v := 2) dX10_upper_24 (by decide) ?_
    refine w_iald (pc := 25) C dX10_upper_25 (St10_k17 f1) (inbl (St10_l17 f1) (inbd (by decide))) ?_
    obtain ⟨f3, hv⟩ := hv
    refine w_cV0_1 (pc := 26) C cl_X10_165 lv_X10_teeth (by decide) dX10_upper_26 (Nat.le_of_ble_eq_true rfl) (c := 10) rfl (St10_k f1) ((sf_X10_teeth (h := h) f1 f3).mono (fun v h9 hp => ?_))
    obtain ⟨e1, e2⟩ := hp
    rw [e1, e2]
    refine w_goto (pc := 29) C (tgt := 33) dX10_upper_29 (by decide) ?_
    refine w_i2l (pc := 33) C dX10_upper_33 ?_
    refine w_lmul (pc := 34) C dX10_upper_34 ?_
    exact w_lret (pc := 35) C dX10_upper_35 hv
theorem dX10_lower_0 : decode cX10_lower 0 = .ok (.aload_n 0, 1) := by decide +kernel
theorem dX10_lower_1 : decode cX10_lower 1 = .ok (.aload_n 0, 1) := by decide +kernel
theorem dX10_lower_2 : decode cX10_lower 2 = .ok (.getfield 80, 3) := by decide +kernel
theorem dX10_lower_5 : decode cX10_lower 5 = .ok (.iconst 1, 1) := by decide +kernel
theorem dX10_lower_6 : decode cX10_lower 6 = .ok (.iaload, 1) := by decide +kernel
theorem dX10_lower_7 : decode cX10_lower 7 = .ok (.invokevirtual 165, 3) := by decide +kernel
theorem dX10_lower_10 : decode cX10_lower 10 = .ok (.i2l, 1) := by decide +kernel
theorem dX10_lower_11 : decode cX10_lower 11 = .ok (.aload_n 0, 1) := by decide +kernel
theorem dX10_lower_12 : decode cX10_lower 12 = .ok (.getfield 217, 3) := by decide +kernel
theorem dX10_lower_15 : decode cX10_lower 15 = .ok (.iconst 4, 1) := by decide +kernel
theorem dX10_lower_16 : decode cX10_lower 16 = .ok (.if_icmp .ne 16, 3) := by decide +kernel
theorem dX10_lower_19 : decode cX10_lower 19 = .ok (.aload_n 0, 1) := by decide +kernel
theorem dX10_lower_20 : decode cX10_lower 20 = .ok (.aload_n 0, 1) := by decide +kernel
theorem dX10_lower_21 : decode cX10_lower 21 = .ok (.getfield 80, 3) := by decide +kernel
theorem dX10_lower_24 : decode cX10_lower 24 = .ok (.iconst 3, 1) := by decide +kernel
theorem dX10_lower_25 : decode cX10_lower 25 = .ok (.iaload, 1) := by decide +kernel
theorem dX10_lower_26 : decode cX10_lower 26 = .ok (.invokevirtual 165, 3) := by decide +kernel
theorem dX10_lower_29 : decode cX10_lower 29 = .ok (.goto 4, 3) := by decide +kernel
theorem dX10_lower_32 : decode cX10_lower 32 = .ok (.iconst 1, 1) := by decide +kernel
theorem dX10_lower_33 : decode cX10_lower 33 = .ok (.i2l, 1) := by decide +kernel
theorem dX10_lower_34 : decode cX10_lower 34 = .ok (.lmul, 1) := by decide +kernel
theorem dX10_lower_35 : decode cX10_lower 35 = .ok (.lreturn, 1) := by decide +kernel
set_option maxRecDepth 20000 in
set_option maxHeartbeats 2000000 in
theorem V_X10_lower_0 {X : Ctx} (C : C_X10_lower X) {k n : Nat} {Q : Pq} {h : Hp} {v0 : Nat}
    (hv : St10 h v0 ∧ inb (41 + (gi h (v0 + 7) (ix 1))) 732 ∧ ((¬ (gi h v0 18) = 4 → Q (some (.long ((Int32.toInt64 (gi h (v0 + 3) (ix (41 + (gi h (v0 + 7) (ix 1)))))) * (Int32.toInt64 1)))) h) ∧
    ((gi h v0 18) = 4 → inb (41 + (gi h (v0 + 7) (ix 3))) 732 ∧ Q (some (.long ((Int32.toInt64 (gi h (v0 + 3) (ix (41 + (gi h (v0 + 7) (ix 1)))))) * (Int32.toInt64 (gi h (v0 + 3) (ix (41 + (gi h (v0 + 7) (ix 3))))))))) h))) :
    Wj X k n Q 0 [(0, .ref v0)] [] h := by
  refine w_aload_n (pc := 0) C dX10_lower_0 rfl ?_
  refine w_aload_n (pc := 1) C dX10_lower_1 rfl ?_
  obtain ⟨f1, hv⟩ := hv
  refine w_getR (pc := 2) C fl_X10_80 rfl dX10_lower_2 (St10_k f1) (St10_r17 f1) ?_
  refine w_iconst (pc := 5) C (v := 1) dX10_lower_5 (by decide) ?_
  refine w_iald (pc := 6) C dX10_lower_6 (St10_k17 f1) (inbl (St10_l17 f1) (inbd (by decide))) ?_
  obtain ⟨f2, hv⟩ := hv
  refine w_cV0_1 (pc := 7) C cl_X10_165 lv_X10_teeth (by decide) dX10_lower_7 (Nat.le_of_ble_eq_true rfl) (c := 10) rfl (St10_k f1) ((sf_X10_teeth (h := h) f1 f2).mono (fun v h9 hp => ?_))
  obtain ⟨e1, e2⟩ := hp
  rw [e1, e2]
  refine w_i2l (pc := 10) C dX10_lower_10 ?_
  refine w_aload_n (pc := 11) C dX10_lower_11 rfl ?_
  refine w_getI (pc := 12) C fl_X10_217 rfl dX10_lower_12 (St10_k f1) ?_
  refine w_iconst (pc := 15) C (v := 4) dX10_lower_15 (by decide) ?_
  refine w_icmp_ne (pc := 16) C (tgt := 32) dX10_lower_16 (by decide) ?_
  obtain ⟨hv1, hv2⟩ := hv
  refine ⟨fun c4 => ?_, fun c4 => ?_⟩
  · have hv := hv1 c4
    refine w_iconst (pc := 32) C (v := 1) dX10_lower_32 (by decide) ?_
    refine w_i2l (pc := 33) C dX10_lower_33 ?_
    refine w_lmul (pc := 34) C dX10_lower_34 ?_
    exact w_lret (pc := 35) C dX10_lower_35 hv
  · have hv := hv2 c4
    refine w_aload_n (pc := 19) C dX10_lower_19 rfl ?_
    refine w_aload_n (pc := 20) C dX10_lower_20 rfl ?_
    refine w_getR (pc := 21) C fl_X10_80 rfl dX10_lower_21 (St10_k f1) (St10_r17 f1) ?_
    refine w_iconst (pc := 24) C (v := 3) dX10_lower_24 (by decide) ?_
    refine w_iald (pc := 25) C dX10_lower_25 (St10_k17 f1) (inbl (St10_l17 f1) (inbd (by decide))) ?_
    obtain ⟨f3, hv⟩ := hv
    refine w_cV0_1 (pc := 26) C cl_X10_165 lv_X10_teeth (by decide) dX10_lower_26 (Nat.le_of_ble_eq_true rfl) (c := 10) rfl (St10_k f1) ((sf_X10_teeth (h := h) f1 f3).mono (fun v h9 hp => ?_))
    obtain ⟨e1, e2⟩ := hp
    rw [e1, e2]
    refine w_goto (pc := 29) C (tgt := 33) dX10_lower_29 (by decide) ?_
    refine w_i2l (pc := 33) C dX10_lower_33 ?_
    refine w_lmul (pc := 34) C dX10_lower_34 ?_
    exact w_lret (pc := 35) C dX10_lower_35 hv
theorem dX10_isGear_0 : decode cX10_isGear 0 = .ok (.iload_n 1, 1) := by decide +kernel
theorem dX10_isGear_1 : decode cX10_isGear 1 = .ok (.i2l, 1) := by decide +kernel
theorem dX10_isGear_2 : decode cX10_isGear 2 = .ok (.lconst 0, 1) := by decide +kernel
theorem dX10_isGear_3 : decode cX10_isGear 3 = .ok (.aload_n 0, 1) := by decide +kernel
theorem dX10_isGear_4 : decode cX10_isGear 4 = .ok (.invokevirtual 162, 3) := by decide +kernel
theorem dX10_isGear_7 : decode cX10_isGear 7 = .ok (.iconst 1, 1) := by decide +kernel
theorem dX10_isGear_8 : decode cX10_isGear 8 = .ok (.isub, 1) := by decide +kernel
theorem dX10_isGear_9 : decode cX10_isGear 9 = .ok (.i2l, 1) := by decide +kernel
theorem dX10_isGear_10 : decode cX10_isGear 10 = .ok (.invokestatic 29, 3) := by decide +kernel
theorem dX10_isGear_13 : decode cX10_isGear 13 = .ok (.ireturn, 1) := by decide +kernel
set_option maxRecDepth 20000 in
set_option maxHeartbeats 2000000 in
theorem V_X10_isGear_0 {X : Ctx} (C : C_X10_isGear X) {k n : Nat} {Q : Pq} {h : Hp} {v0 : Nat} {v1 : Int32}
    (hv : St10 h v0 ∧ ((btL (Int32.toInt64 v1) 0 (Int32.toInt64 ((gi h (v0 + 3) (ix 4)) - 1))) = 0 ∨ (btL (Int32.toInt64 v1) 0 (Int32.toInt64 ((gi h (v0 + 3) (ix 4)) - 1))) = 1) ∧ Q (some (.int (btL (Int32.toInt64 v1) 0 (Int32.toInt64 ((gi h (v0 + 3) (ix 4)) - 1))))) h) :
    Wj X k n Q 0 [(0, .ref v0), (1, .int v1)] [] h := by
  refine w_iload_n (pc := 0) C dX10_isGear_0 rfl ?_
  refine w_i2l (pc := 1) C dX10_isGear_1 ?_
  refine w_lconst (pc := 2) C (v := 0) dX10_isGear_2 (by decide) ?_
  refine w_aload_n (pc := 3) C dX10_isGear_3 rfl ?_
  obtain ⟨f1, hv⟩ := hv
  refine w_cV0_0 (pc := 4) C cl_X10_162 lv_X10_gearMany (by decide) dX10_isGear_4 (Nat.le_of_ble_eq_true rfl) (c := 10) rfl (St10_k f1) ((sf_X10_gearMany (h := h) f1).mono (fun v h9 hp => ?_))
  obtain ⟨e1, e2⟩ := hp
  rw [e1, e2]
  refine w_iconst (pc := 7) C (v := 1) dX10_isGear_7 (by decide) ?_
  refine w_isub (pc := 8) C dX10_isGear_8 ?_
  refine w_i2l (pc := 9) C dX10_isGear_9 ?_
  refine w_cS0_3 (pc := 10) C cl_X10_29 ls_X10_in (by decide) dX10_isGear_10 (Nat.le_of_ble_eq_true rfl) ((sf_X10_in (h := h) ).mono (fun v h9 hp => ?_))
  obtain ⟨e1, e2⟩ := hp
  rw [e1, e2]
  obtain ⟨f2, hv⟩ := hv
  exact w_zret (pc := 13) C dX10_isGear_13 f2 hv
theorem dX10_trainUpper_0 : decode cX10_trainUpper 0 = .ok (.aload_n 0, 1) := by decide +kernel
theorem dX10_trainUpper_1 : decode cX10_trainUpper 1 = .ok (.getfield 68, 3) := by decide +kernel
theorem dX10_trainUpper_4 : decode cX10_trainUpper 4 = .ok (.bipush 54, 2) := by decide +kernel
theorem dX10_trainUpper_6 : decode cX10_trainUpper 6 = .ok (.iaload, 1) := by decide +kernel
theorem dX10_trainUpper_7 : decode cX10_trainUpper 7 = .ok (.ifCond .ne 5, 3) := by decide +kernel
theorem dX10_trainUpper_10 : decode cX10_trainUpper 10 = .ok (.lconst 0, 1) := by decide +kernel
theorem dX10_trainUpper_11 : decode cX10_trainUpper 11 = .ok (.lreturn, 1) := by decide +kernel
theorem dX10_trainUpper_12 : decode cX10_trainUpper 12 = .ok (.aload_n 0, 1) := by decide +kernel
theorem dX10_trainUpper_13 : decode cX10_trainUpper 13 = .ok (.getfield 68, 3) := by decide +kernel
theorem dX10_trainUpper_16 : decode cX10_trainUpper 16 = .ok (.bipush 59, 2) := by decide +kernel
theorem dX10_trainUpper_18 : decode cX10_trainUpper 18 = .ok (.iaload, 1) := by decide +kernel
theorem dX10_trainUpper_19 : decode cX10_trainUpper 19 = .ok (.i2l, 1) := by decide +kernel
theorem dX10_trainUpper_20 : decode cX10_trainUpper 20 = .ok (.aload_n 0, 1) := by decide +kernel
theorem dX10_trainUpper_21 : decode cX10_trainUpper 21 = .ok (.aload_n 0, 1) := by decide +kernel
theorem dX10_trainUpper_22 : decode cX10_trainUpper 22 = .ok (.getfield 68, 3) := by decide +kernel
theorem dX10_trainUpper_25 : decode cX10_trainUpper 25 = .ok (.bipush 55, 2) := by decide +kernel
theorem dX10_trainUpper_27 : decode cX10_trainUpper 27 = .ok (.iaload, 1) := by decide +kernel
theorem dX10_trainUpper_28 : decode cX10_trainUpper 28 = .ok (.invokevirtual 165, 3) := by decide +kernel
theorem dX10_trainUpper_31 : decode cX10_trainUpper 31 = .ok (.i2l, 1) := by decide +kernel
theorem dX10_trainUpper_32 : decode cX10_trainUpper 32 = .ok (.lmul, 1) := by decide +kernel
theorem dX10_trainUpper_33 : decode cX10_trainUpper 33 = .ok (.aload_n 0, 1) := by decide +kernel
theorem dX10_trainUpper_34 : decode cX10_trainUpper 34 = .ok (.getfield 68, 3) := by decide +kernel
theorem dX10_trainUpper_37 : decode cX10_trainUpper 37 = .ok (.bipush 54, 2) := by decide +kernel
theorem dX10_trainUpper_39 : decode cX10_trainUpper 39 = .ok (.iaload, 1) := by decide +kernel
theorem dX10_trainUpper_40 : decode cX10_trainUpper 40 = .ok (.iconst 4, 1) := by decide +kernel
theorem dX10_trainUpper_41 : decode cX10_trainUpper 41 = .ok (.if_icmp .ne 17, 3) := by decide +kernel
theorem dX10_trainUpper_44 : decode cX10_trainUpper 44 = .ok (.aload_n 0, 1) := by decide +kernel
theorem dX10_trainUpper_45 : decode cX10_trainUpper 45 = .ok (.aload_n 0, 1) := by decide +kernel
theorem dX10_trainUpper_46 : decode cX10_trainUpper 46 = .ok (.getfield 68, 3) := by decide +kernel
theorem dX10_trainUpper_49 : decode cX10_trainUpper 49 = .ok (.bipush 57, 2) := by decide +kernel
theorem dX10_trainUpper_51 : decode cX10_trainUpper 51 = .ok (.iaload, 1) := by decide +kernel
theorem dX10_trainUpper_52 : decode cX10_trainUpper 52 = .ok (.invokevirtual 165, 3) := by decide +kernel
theorem dX10_trainUpper_55 : decode cX10_trainUpper 55 = .ok (.goto 4, 3) := by decide +kernel
theorem dX10_trainUpper_58 : decode cX10_trainUpper 58 = .ok (.iconst 1, 1) := by decide +kernel
theorem dX10_trainUpper_59 : decode cX10_trainUpper 59 = .ok (.i2l, 1) := by decide +kernel
theorem dX10_trainUpper_60 : decode cX10_trainUpper 60 = .ok (.lmul, 1) := by decide +kernel
theorem dX10_trainUpper_61 : decode cX10_trainUpper 61 = .ok (.lreturn, 1) := by decide +kernel
set_option maxRecDepth 20000 in
set_option maxHeartbeats 2000000 in
theorem V_X10_trainUpper_0 {X : Ctx} (C : C_X10_trainUpper X) {k n : Nat} {Q : Pq} {h : Hp} {v0 : Nat}
    (hv : St10 h v0 ∧ ((¬ (gi h (v0 + 3) (ix 54)) = 0 → inb (41 + (gi h (v0 + 3) (ix 55))) 732 ∧ ((¬ (gi h (v0 + 3) (ix 54)) = 4 → Q (some (.long (((Int32.toInt64 (gi h (v0 + 3) (ix 59))) * (Int32.toInt64 (gi h (v0 + 3) (ix (41 + (gi h (v0 + 3) (ix 55))))))) * (Int32.toInt64 1)))) h) ∧
    ((gi h (v0 + 3) (ix 54)) = 4 → inb (41 + (gi h (v0 + 3) (ix 57))) 732 ∧ Q (some (.long (((Int32.toInt64 (gi h (v0 + 3) (ix 59))) * (Int32.toInt64 (gi h (v0 + 3) (ix (41 + (gi h (v0 + 3) (ix 55))))))) * (Int32.toInt64 (gi h (v0 + 3) (ix (41 + (gi h (v0 + 3) (ix 57))))))))) h))) ∧
    ((gi h (v0 + 3) (ix 54)) = 0 → Q (some (.long 0)) h))) :
    Wj X k n Q 0 [(0, .ref v0)] [] h := by
  refine w_aload_n (pc := 0) C dX10_trainUpper_0 rfl ?_
  obtain ⟨f1, hv⟩ := hv
  refine w_getR (pc := 1) C fl_X10_68 rfl dX10_trainUpper_1 (St10_k f1) (St10_r7 f1) ?_
  refine w_bipush (pc := 4) C (v := 54) dX10_trainUpper_4 (by decide) ?_
  refine w_iald (pc := 6) C dX10_trainUpper_6 (St10_k7 f1) (inbl (St10_l7 f1) (inbd (by decide))) ?_
  refine w_if_ne (pc := 7) C (tgt := 12) dX10_trainUpper_7 (by decide) ?_
  obtain ⟨hv1, hv2⟩ := hv
  refine ⟨fun c5 => ?_, fun c5 => ?_⟩
  · have hv := hv1 c5
    refine w_aload_n (pc := 12) C dX10_trainUpper_12 rfl ?_
    refine w_getR (pc := 13) C fl_X10_68 rfl dX10_trainUpper_13 (St10_k f1) (St10_r7 f1) ?_
    refine w_bipush (pc := 16) C (v := 59) dX10_trainUpper_16 (by decide) ?_
    refine w_iald (pc := 18) C dX10_trainUpper_18 (St10_k7 f1) (inbl (St10_l7 f1) (inbd (by decide))) ?_
    refine w_i2l (pc := 19) C dX10_trainUpper_19 ?_
    refine w_aload_n (pc := 20) C dX10_trainUpper_20 rfl ?_
    refine w_aload_n (pc := 21) C dX10_trainUpper_21 rfl ?_
    refine w_getR (pc := 22) C fl_X10_68 rfl dX10_trainUpper_22 (St10_k f1) (St10_r7 f1) ?_
    refine w_bipush (pc := 25) C (v := 55) dX10_trainUpper_25 (by decide) ?_
    refine w_iald (pc := 27) C dX10_trainUpper_27 (St10_k7 f1) (inbl (St10_l7 f1) (inbd (by decide))) ?_
    obtain ⟨f2, hv⟩ := hv
    refine w_cV0_1 (pc := 28) C cl_X10_165 lv_X10_teeth (by decide) dX10_trainUpper_28 (Nat.le_of_ble_eq_true rfl) (c := 10) rfl (St10_k f1) ((sf_X10_teeth (h := h) f1 f2).mono (fun v h9 hp => ?_))
    obtain ⟨e1, e2⟩ := hp
    rw [e1, e2]
    refine w_i2l (pc := 31) C dX10_trainUpper_31 ?_
    refine w_lmul (pc := 32) C dX10_trainUpper_32 ?_
    refine w_aload_n (pc := 33) C dX10_trainUpper_33 rfl ?_
    refine w_getR (pc := 34) C fl_X10_68 rfl dX10_trainUpper_34 (St10_k f1) (St10_r7 f1) ?_
    refine w_bipush (pc := 37) C (v := 54) dX10_trainUpper_37 (by decide) ?_
    refine w_iald (pc := 39) C dX10_trainUpper_39 (St10_k7 f1) (inbl (St10_l7 f1) (inbd (by decide))) ?_
    refine w_iconst (pc := 40) C (v := 4) dX10_trainUpper_40 (by decide) ?_
    refine w_icmp_ne (pc := 41) C (tgt := 58) dX10_trainUpper_41 (by decide) ?_
    obtain ⟨hv1, hv2⟩ := hv
    refine ⟨fun c4 => ?_, fun c4 => ?_⟩
    · have hv := hv1 c4
      refine w_iconst (pc := 58) C (v := 1) dX10_trainUpper_58 (by decide) ?_
      refine w_i2l (pc := 59) C dX10_trainUpper_59 ?_
      refine w_lmul (pc := 60) C dX10_trainUpper_60 ?_
      exact w_lret (pc := 61) C dX10_trainUpper_61 hv
    · have hv := hv2 c4
      refine w_aload_n (pc := 44) C dX10_trainUpper_44 rfl ?_
      refine w_aload_n (pc := 45) C dX10_trainUpper_45 rfl ?_
      refine w_getR (pc := 46) C fl_X10_68 rfl dX10_trainUpper_46 (St10_k f1) (St10_r7 f1) ?_
      refine w_bipush (pc := 49) C (v := 57) dX10_trainUpper_49 (by decide) ?_
      refine w_iald (pc := 51) C dX10_trainUpper_51 (St10_k7 f1) (inbl (St10_l7 f1) (inbd (by decide))) ?_
      obtain ⟨f3, hv⟩ := hv
      refine w_cV0_1 (pc := 52) C cl_X10_165 lv_X10_teeth (by decide) dX10_trainUpper_52 (Nat.le_of_ble_eq_true rfl) (c := 10) rfl (St10_k f1) ((sf_X10_teeth (h := h) f1 f3).mono (fun v h9 hp => ?_))
      obtain ⟨e1, e2⟩ := hp
      rw [e1, e2]
      refine w_goto (pc := 55) C (tgt := 59) dX10_trainUpper_55 (by decide) ?_
      refine w_i2l (pc := 59) C dX10_trainUpper_59 ?_
      refine w_lmul (pc := 60) C dX10_trainUpper_60 ?_
      exact w_lret (pc := 61) C dX10_trainUpper_61 hv
  · have hv := hv2 c5
    refine w_lconst (pc := 10) C (v := 0) dX10_trainUpper_10 (by decide) ?_
    exact w_lret (pc := 11) C dX10_trainUpper_11 hv
theorem dX10_trainLower_0 : decode cX10_trainLower 0 = .ok (.aload_n 0, 1) := by decide +kernel
theorem dX10_trainLower_1 : decode cX10_trainLower 1 = .ok (.getfield 68, 3) := by decide +kernel
theorem dX10_trainLower_4 : decode cX10_trainLower 4 = .ok (.bipush 54, 2) := by decide +kernel
theorem dX10_trainLower_6 : decode cX10_trainLower 6 = .ok (.iaload, 1) := by decide +kernel
theorem dX10_trainLower_7 : decode cX10_trainLower 7 = .ok (.ifCond .ne 5, 3) := by decide +kernel
theorem dX10_trainLower_10 : decode cX10_trainLower 10 = .ok (.lconst 1, 1) := by decide +kernel
theorem dX10_trainLower_11 : decode cX10_trainLower 11 = .ok (.lreturn, 1) := by decide +kernel
theorem dX10_trainLower_12 : decode cX10_trainLower 12 = .ok (.aload_n 0, 1) := by decide +kernel
theorem dX10_trainLower_13 : decode cX10_trainLower 13 = .ok (.aload_n 0, 1) := by decide +kernel
theorem dX10_trainLower_14 : decode cX10_trainLower 14 = .ok (.getfield 68, 3) := by decide +kernel
theorem dX10_trainLower_17 : decode cX10_trainLower 17 = .ok (.bipush 56, 2) := by decide +kernel
theorem dX10_trainLower_19 : decode cX10_trainLower 19 = .ok (.iaload, 1) := by decide +kernel
theorem dX10_trainLower_20 : decode cX10_trainLower 20 = .ok (.invokevirtual 165, 3) := by decide +kernel
theorem dX10_trainLower_23 : decode cX10_trainLower 23 = .ok (.i2l, 1) := by decide +kernel
theorem dX10_trainLower_24 : decode cX10_trainLower 24 = .ok (.aload_n 0, 1) := by decide +kernel
theorem dX10_trainLower_25 : decode cX10_trainLower 25 = .ok (.getfield 68, 3) := by decide +kernel
theorem dX10_trainLower_28 : decode cX10_trainLower 28 = .ok (.bipush 54, 2) := by decide +kernel
theorem dX10_trainLower_30 : decode cX10_trainLower 30 = .ok (.iaload, 1) := by decide +kernel
theorem dX10_trainLower_31 : decode cX10_trainLower 31 = .ok (.iconst 4, 1) := by decide +kernel
theorem dX10_trainLower_32 : decode cX10_trainLower 32 = .ok (.if_icmp .ne 17, 3) := by decide +kernel
theorem dX10_trainLower_35 : decode cX10_trainLower 35 = .ok (.aload_n 0, 1) := by decide +kernel
theorem dX10_trainLower_36 : decode cX10_trainLower 36 = .ok (.aload_n 0, 1) := by decide +kernel
theorem dX10_trainLower_37 : decode cX10_trainLower 37 = .ok (.getfield 68, 3) := by decide +kernel
theorem dX10_trainLower_40 : decode cX10_trainLower 40 = .ok (.bipush 58, 2) := by decide +kernel
theorem dX10_trainLower_42 : decode cX10_trainLower 42 = .ok (.iaload, 1) := by decide +kernel
theorem dX10_trainLower_43 : decode cX10_trainLower 43 = .ok (.invokevirtual 165, 3) := by decide +kernel
theorem dX10_trainLower_46 : decode cX10_trainLower 46 = .ok (.goto 4, 3) := by decide +kernel
theorem dX10_trainLower_49 : decode cX10_trainLower 49 = .ok (.iconst 1, 1) := by decide +kernel
theorem dX10_trainLower_50 : decode cX10_trainLower 50 = .ok (.i2l, 1) := by decide +kernel
theorem dX10_trainLower_51 : decode cX10_trainLower 51 = .ok (.lmul, 1) := by decide +kernel
theorem dX10_trainLower_52 : decode cX10_trainLower 52 = .ok (.lreturn, 1) := by decide +kernel
set_option maxRecDepth 20000 in
set_option maxHeartbeats 2000000 in
theorem V_X10_trainLower_0 {X : Ctx} (C : C_X10_trainLower X) {k n : Nat} {Q : Pq} {h : Hp} {v0 : Nat}
    (hv : St10 h v0 ∧ ((¬ (gi h (v0 + 3) (ix 54)) = 0 → inb (41 + (gi h (v0 + 3) (ix 56))) 732 ∧ ((¬ (gi h (v0 + 3) (ix 54)) = 4 → Q (some (.long ((Int32.toInt64 (gi h (v0 + 3) (ix (41 + (gi h (v0 + 3) (ix 56)))))) * (Int32.toInt64 1)))) h) ∧
    ((gi h (v0 + 3) (ix 54)) = 4 → inb (41 + (gi h (v0 + 3) (ix 58))) 732 ∧ Q (some (.long ((Int32.toInt64 (gi h (v0 + 3) (ix (41 + (gi h (v0 + 3) (ix 56)))))) * (Int32.toInt64 (gi h (v0 + 3) (ix (41 + (gi h (v0 + 3) (ix 58))))))))) h))) ∧
    ((gi h (v0 + 3) (ix 54)) = 0 → Q (some (.long 1)) h))) :
    Wj X k n Q 0 [(0, .ref v0)] [] h := by
  refine w_aload_n (pc := 0) C dX10_trainLower_0 rfl ?_
  obtain ⟨f1, hv⟩ := hv
  refine w_getR (pc := 1) C fl_X10_68 rfl dX10_trainLower_1 (St10_k f1) (St10_r7 f1) ?_
  refine w_bipush (pc := 4) C (v := 54) dX10_trainLower_4 (by decide) ?_
  refine w_iald (pc := 6) C dX10_trainLower_6 (St10_k7 f1) (inbl (St10_l7 f1) (inbd (by decide))) ?_
  refine w_if_ne (pc := 7) C (tgt := 12) dX10_trainLower_7 (by decide) ?_
  obtain ⟨hv1, hv2⟩ := hv
  refine ⟨fun c5 => ?_, fun c5 => ?_⟩
  · have hv := hv1 c5
    refine w_aload_n (pc := 12) C dX10_trainLower_12 rfl ?_
    refine w_aload_n (pc := 13) C dX10_trainLower_13 rfl ?_
    refine w_getR (pc := 14) C fl_X10_68 rfl dX10_trainLower_14 (St10_k f1) (St10_r7 f1) ?_
    refine w_bipush (pc := 17) C (v := 56) dX10_trainLower_17 (by decide) ?_
    refine w_iald (pc := 19) C dX10_trainLower_19 (St10_k7 f1) (inbl (St10_l7 f1) (inbd (by decide))) ?_
    obtain ⟨f2, hv⟩ := hv
    refine w_cV0_1 (pc := 20) C cl_X10_165 lv_X10_teeth (by decide) dX10_trainLower_20 (Nat.le_of_ble_eq_true rfl) (c := 10) rfl (St10_k f1) ((sf_X10_teeth (h := h) f1 f2).mono (fun v h9 hp => ?_))
    obtain ⟨e1, e2⟩ := hp
    rw [e1, e2]
    refine w_i2l (pc := 23) C dX10_trainLower_23 ?_
    refine w_aload_n (pc := 24) C dX10_trainLower_24 rfl ?_
    refine w_getR (pc := 25) C fl_X10_68 rfl dX10_trainLower_25 (St10_k f1) (St10_r7 f1) ?_
    refine w_bipush (pc := 28) C (v := 54) dX10_trainLower_28 (by decide) ?_
    refine w_iald (pc := 30) C dX10_trainLower_30 (St10_k7 f1) (inbl (St10_l7 f1) (inbd (by decide))) ?_
    refine w_iconst (pc := 31) C (v := 4) dX10_trainLower_31 (by decide) ?_
    refine w_icmp_ne (pc := 32) C (tgt := 49) dX10_trainLower_32 (by decide) ?_
    obtain ⟨hv1, hv2⟩ := hv
    refine ⟨fun c4 => ?_, fun c4 => ?_⟩
    · have hv := hv1 c4
      refine w_iconst (pc := 49) C (v := 1) dX10_trainLower_49 (by decide) ?_
      refine w_i2l (pc := 50) C dX10_trainLower_50 ?_
      refine w_lmul (pc := 51) C dX10_trainLower_51 ?_
      exact w_lret (pc := 52) C dX10_trainLower_52 hv
    · have hv := hv2 c4
      refine w_aload_n (pc := 35) C dX10_trainLower_35 rfl ?_
      refine w_aload_n (pc := 36) C dX10_trainLower_36 rfl ?_
      refine w_getR (pc := 37) C fl_X10_68 rfl dX10_trainLower_37 (St10_k f1) (St10_r7 f1) ?_
      refine w_bipush (pc := 40) C (v := 58) dX10_trainLower_40 (by decide) ?_
      refine w_iald (pc := 42) C dX10_trainLower_42 (St10_k7 f1) (inbl (St10_l7 f1) (inbd (by decide))) ?_
      obtain ⟨f3, hv⟩ := hv
      refine w_cV0_1 (pc := 43) C cl_X10_165 lv_X10_teeth (by decide) dX10_trainLower_43 (Nat.le_of_ble_eq_true rfl) (c := 10) rfl (St10_k f1) ((sf_X10_teeth (h := h) f1 f3).mono (fun v h9 hp => ?_))
      obtain ⟨e1, e2⟩ := hp
      rw [e1, e2]
      refine w_goto (pc := 46) C (tgt := 50) dX10_trainLower_46 (by decide) ?_
      refine w_i2l (pc := 50) C dX10_trainLower_50 ?_
      refine w_lmul (pc := 51) C dX10_trainLower_51 ?_
      exact w_lret (pc := 52) C dX10_trainLower_52 hv
  · have hv := hv2 c5
    refine w_lconst (pc := 10) C (v := 1) dX10_trainLower_10 (by decide) ?_
    exact w_lret (pc := 11) C dX10_trainLower_11 hv
theorem dX10_entersPart_0 : decode cX10_entersPart 0 = .ok (.lload_n 1, 1) := by decide +kernel
theorem dX10_entersPart_1 : decode cX10_entersPart 1 = .ok (.lload_n 3, 1) := by decide +kernel
theorem dX10_entersPart_2 : decode cX10_entersPart 2 = .ok (.invokestatic 14, 3) := by decide +kernel
theorem dX10_entersPart_5 : decode cX10_entersPart 5 = .ok (.lstore 5, 2) := by decide +kernel
theorem dX10_entersPart_7 : decode cX10_entersPart 7 = .ok (.aload_n 0, 1) := by decide +kernel
theorem dX10_entersPart_8 : decode cX10_entersPart 8 = .ok (.lload_n 1, 1) := by decide +kernel
theorem dX10_entersPart_9 : decode cX10_entersPart 9 = .ok (.lload 5, 2) := by decide +kernel
theorem dX10_entersPart_11 : decode cX10_entersPart 11 = .ok (.ldiv, 1) := by decide +kernel
theorem dX10_entersPart_12 : decode cX10_entersPart 12 = .ok (.invokevirtual 18, 3) := by decide +kernel
theorem dX10_entersPart_15 : decode cX10_entersPart 15 = .ok (.aload_n 0, 1) := by decide +kernel
theorem dX10_entersPart_16 : decode cX10_entersPart 16 = .ok (.lload_n 3, 1) := by decide +kernel
theorem dX10_entersPart_17 : decode cX10_entersPart 17 = .ok (.lload 5, 2) := by decide +kernel
theorem dX10_entersPart_19 : decode cX10_entersPart 19 = .ok (.ldiv, 1) := by decide +kernel
theorem dX10_entersPart_20 : decode cX10_entersPart 20 = .ok (.invokevirtual 18, 3) := by decide +kernel
theorem dX10_entersPart_23 : decode cX10_entersPart 23 = .ok (.return_, 1) := by decide +kernel
set_option maxRecDepth 20000 in
set_option maxHeartbeats 2000000 in
theorem V_X10_entersPart_0 {X : Ctx} (C : C_X10_entersPart X) {k n : Nat} {Q : Pq} {h : Hp} {v0 : Nat} {v1 v3 : Int64}
    (hv : -9223372036854775807 ≤ (Int64.toInt v1) ∧ 0 < (Int64.toInt v3) ∧ ¬ (cm v1 v3) = 0 ∧ St10 h v0 ∧ inb (gi h v0 1) 64 ∧ inb (gi (men h v0 (v1 / (cm v1 v3))) v0 1) 64 ∧ Q none (men (men h v0 (v1 / (cm v1 v3))) v0 (v3 / (cm v1 v3)))) :
    Wj X k n Q 0 [(0, .ref v0), (1, .long v1), (3, .long v3)] [] h := by
  refine w_lload_n (pc := 0) C dX10_entersPart_0 rfl ?_
  refine w_lload_n (pc := 1) C dX10_entersPart_1 rfl ?_
  obtain ⟨f1, hv⟩ := hv
  obtain ⟨f2, hv⟩ := hv
  refine w_cS0_2 (pc := 2) C cl_X10_14 ls_X10_common (by decide) dX10_entersPart_2 (Nat.le_of_ble_eq_true rfl) ((sf_X10_common (h := h) f1 f2).mono (fun v h9 hp => ?_))
  obtain ⟨e1, e2⟩ := hp
  rw [e1, e2]
  refine w_lstore (pc := 5) C dX10_entersPart_5 (by decide) ?_
  refine w_aload_n (pc := 7) C dX10_entersPart_7 rfl ?_
  refine w_lload_n (pc := 8) C dX10_entersPart_8 rfl ?_
  refine w_lload (pc := 9) C dX10_entersPart_9 rfl ?_
  obtain ⟨f3, hv⟩ := hv
  refine w_ldiv (pc := 11) C dX10_entersPart_11 f3 ?_
  obtain ⟨f4, hv⟩ := hv
  obtain ⟨f5, hv⟩ := hv
  refine w_cV0_1 (pc := 12) C cl_X10_18 lv_X10_enters (by decide) dX10_entersPart_12 (Nat.le_of_ble_eq_true rfl) (c := 10) rfl (St10_k f4) ((sf_X10_enters (h := h) f4 f5).mono (fun v h9 hp => ?_))
  obtain ⟨e1, e2⟩ := hp
  rw [e1, e2]
  refine w_aload_n (pc := 15) C dX10_entersPart_15 rfl ?_
  refine w_lload_n (pc := 16) C dX10_entersPart_16 rfl ?_
  refine w_lload (pc := 17) C dX10_entersPart_17 rfl ?_
  refine w_ldiv (pc := 19) C dX10_entersPart_19 f3 ?_
  obtain ⟨f6, hv⟩ := hv
  refine w_cV0_1 (pc := 20) C cl_X10_18 lv_X10_enters (by decide) dX10_entersPart_20 (Nat.le_of_ble_eq_true rfl) (c := 10) rfl (St10_k f4) ((sf_X10_enters (h := (men h v0 (v1 / (cm v1 v3)))) f4 f6).mono (fun v h9 hp => ?_))
  obtain ⟨e1, e2⟩ := hp
  rw [e1, e2]
  exact w_vret (pc := 23) C dX10_entersPart_23 hv
theorem dX10_markAt_0 : decode cX10_markAt 0 = .ok (.iconst 0, 1) := by decide +kernel
theorem dX10_markAt_1 : decode cX10_markAt 1 = .ok (.istore 5, 2) := by decide +kernel
theorem dX10_markAt_3 : decode cX10_markAt 3 = .ok (.iload 5, 2) := by decide +kernel
theorem dX10_markAt_5 : decode cX10_markAt 5 = .ok (.aload_n 0, 1) := by decide +kernel
theorem dX10_markAt_6 : decode cX10_markAt 6 = .ok (.invokevirtual 378, 3) := by decide +kernel
theorem dX10_markAt_9 : decode cX10_markAt 9 = .ok (.if_icmp .ge 34, 3) := by decide +kernel
theorem dX10_markAt_12 : decode cX10_markAt 12 = .ok (.aload_n 0, 1) := by decide +kernel
theorem dX10_markAt_13 : decode cX10_markAt 13 = .ok (.iload 5, 2) := by decide +kernel
theorem dX10_markAt_15 : decode cX10_markAt 15 = .ok (.invokevirtual 381, 3) := by decide +kernel
theorem dX10_markAt_18 : decode cX10_markAt 18 = .ok (.lload_n 1, 1) := by decide +kernel
theorem dX10_markAt_19 : decode cX10_markAt 19 = .ok (.lcmp, 1) := by decide +kernel
theorem dX10_markAt_20 : decode cX10_markAt 20 = .ok (.ifCond .ne 17, 3) := by decide +kernel
theorem dX10_markAt_23 : decode cX10_markAt 23 = .ok (.aload_n 0, 1) := by decide +kernel
theorem dX10_markAt_24 : decode cX10_markAt 24 = .ok (.iload 5, 2) := by decide +kernel
theorem dX10_markAt_26 : decode cX10_markAt 26 = .ok (.invokevirtual 385, 3) := by decide +kernel
theorem dX10_markAt_29 : decode cX10_markAt 29 = .ok (.lload_n 3, 1) := by decide +kernel
theorem dX10_markAt_30 : decode cX10_markAt 30 = .ok (.lcmp, 1) := by decide +kernel
theorem dX10_markAt_31 : decode cX10_markAt 31 = .ok (.ifCond .ne 6, 3) := by decide +kernel
theorem dX10_markAt_34 : decode cX10_markAt 34 = .ok (.iload 5, 2) := by decide +kernel
theorem dX10_markAt_36 : decode cX10_markAt 36 = .ok (.ireturn, 1) := by decide +kernel
theorem dX10_markAt_37 : decode cX10_markAt 37 = .ok (.iinc 5 1, 3) := by decide +kernel
theorem dX10_markAt_40 : decode cX10_markAt 40 = .ok (.goto (-37), 3) := by decide +kernel
theorem dX10_markAt_43 : decode cX10_markAt 43 = .ok (.iconst (-1), 1) := by decide +kernel
theorem dX10_markAt_44 : decode cX10_markAt 44 = .ok (.ireturn, 1) := by decide +kernel
set_option maxRecDepth 20000 in
set_option maxHeartbeats 2000000 in
theorem V_X10_markAt_0 {X : Ctx} (C : C_X10_markAt X) {k n : Nat} {Q : Pq} {h : Hp} {v0 : Nat} {v1 v3 : Int64}
    (hv : Wj X k n Q 3 [(0, .ref v0), (1, .long v1), (3, .long v3), (5, .int 0)] [] h) :
    Wj X k n Q 0 [(0, .ref v0), (1, .long v1), (3, .long v3)] [] h := by
  refine w_iconst (pc := 0) C (v := 0) dX10_markAt_0 (by decide) ?_
  refine w_istore (pc := 1) C dX10_markAt_1 (by decide) ?_
  refine w_sub ?_ hv
  exact ⟨rfl, rfl, rfl, rfl, trivial⟩
set_option maxRecDepth 20000 in
set_option maxHeartbeats 2000000 in
theorem V_X10_markAt_3 {X : Ctx} (C : C_X10_markAt X) {k n : Nat} {Q : Pq} {h : Hp} {v0 : Nat} {v1 v3 : Int64} {v5 : Int32}
    (hv : St10 h v0 ∧ (((gi h (v0 + 3) (ix 60)) ≤ v5 → Q (some (.int (-1))) h) ∧
    (¬ (gi h (v0 + 3) (ix 60)) ≤ v5 → inb (2 + 2 * v5) 1464 ∧ ((¬ (gl h (v0 + 4) (ix (2 + 2 * v5))) = v1 → Wj X k n Q 3 [(0, .ref v0), (1, .long v1), (3, .long v3), (5, .int (v5 + Int32.ofInt 1))] [] h) ∧
    ((gl h (v0 + 4) (ix (2 + 2 * v5))) = v1 → inb (2 + 2 * v5 + 1) 1464 ∧ ((¬ (gl h (v0 + 4) (ix (2 + 2 * v5 + 1))) = v3 → Wj X k n Q 3 [(0, .ref v0), (1, .long v1), (3, .long v3), (5, .int (v5 + Int32.ofInt 1))] [] h) ∧
    ((gl h (v0 + 4) (ix (2 + 2 * v5 + 1))) = v3 → Q (some (.int v5)) h))))))) :
    Wj X k n Q 3 [(0, .ref v0), (1, .long v1), (3, .long v3), (5, .int v5)] [] h := by
  refine w_iload (pc := 3) C dX10_markAt_3 rfl ?_
  refine w_aload_n (pc := 5) C dX10_markAt_5 rfl ?_
  obtain ⟨f1, hv⟩ := hv
  refine w_cV0_0 (pc := 6) C cl_X10_378 lv_X10_marks (by decide) dX10_markAt_6 (Nat.le_of_ble_eq_true rfl) (c := 10) rfl (St10_k f1) ((sf_X10_marks (h := h) f1).mono (fun v h9 hp => ?_))
  obtain ⟨e1, e2⟩ := hp
  rw [e1, e2]
  refine w_icmp_ge (pc := 9) C (tgt := 43) dX10_markAt_9 (by decide) ?_
  obtain ⟨hv1, hv2⟩ := hv
  refine ⟨fun c6 => ?_, fun c6 => ?_⟩
  · have hv := hv1 c6
    refine w_iconst (pc := 43) C (v := (-1)) dX10_markAt_43 (by decide) ?_
    exact w_iret (pc := 44) C dX10_markAt_44 hv
  · have hv := hv2 c6
    refine w_aload_n (pc := 12) C dX10_markAt_12 rfl ?_
    refine w_iload (pc := 13) C dX10_markAt_13 rfl ?_
    obtain ⟨f2, hv⟩ := hv
    refine w_cV0_1 (pc := 15) C cl_X10_381 lv_X10_markUp (by decide) dX10_markAt_15 (Nat.le_of_ble_eq_true rfl) (c := 10) rfl (St10_k f1) ((sf_X10_markUp (h := h) f1 f2).mono (fun v h9 hp => ?_))
    obtain ⟨e1, e2⟩ := hp
    rw [e1, e2]
    refine w_lload_n (pc := 18) C dX10_markAt_18 rfl ?_
    refine w_lcmp_ne (pc := 19) C (tgt := 37) dX10_markAt_19 dX10_markAt_20 (by decide) ?_
    obtain ⟨hv1, hv2⟩ := hv
    refine ⟨fun c5 => ?_, fun c5 => ?_⟩
    · have hv := hv1 c5
      refine w_iinc (pc := 37) C dX10_markAt_37 rfl (by decide) ?_
      refine w_goto (pc := 40) C (tgt := 3) dX10_markAt_40 (by decide) ?_
      refine w_sub ?_ hv
      exact ⟨rfl, rfl, rfl, rfl, trivial⟩
    · have hv := hv2 c5
      refine w_aload_n (pc := 23) C dX10_markAt_23 rfl ?_
      refine w_iload (pc := 24) C dX10_markAt_24 rfl ?_
      obtain ⟨f3, hv⟩ := hv
      refine w_cV0_1 (pc := 26) C cl_X10_385 lv_X10_markLow (by decide) dX10_markAt_26 (Nat.le_of_ble_eq_true rfl) (c := 10) rfl (St10_k f1) ((sf_X10_markLow (h := h) f1 f3).mono (fun v h9 hp => ?_))
      obtain ⟨e1, e2⟩ := hp
      rw [e1, e2]
      refine w_lload_n (pc := 29) C dX10_markAt_29 rfl ?_
      refine w_lcmp_ne (pc := 30) C (tgt := 37) dX10_markAt_30 dX10_markAt_31 (by decide) ?_
      obtain ⟨hv1, hv2⟩ := hv
      refine ⟨fun c4 => ?_, fun c4 => ?_⟩
      · have hv := hv1 c4
        refine w_iinc (pc := 37) C dX10_markAt_37 rfl (by decide) ?_
        refine w_goto (pc := 40) C (tgt := 3) dX10_markAt_40 (by decide) ?_
        refine w_sub ?_ hv
        exact ⟨rfl, rfl, rfl, rfl, trivial⟩
      · have hv := hv2 c4
        refine w_iload (pc := 34) C dX10_markAt_34 rfl ?_
        exact w_iret (pc := 36) C dX10_markAt_36 hv
theorem dX5_wheel_0 : decode cX5_wheel 0 = .ok (.iload_n 1, 1) := by decide +kernel
theorem dX5_wheel_1 : decode cX5_wheel 1 = .ok (.ifCond .lt 10, 3) := by decide +kernel
theorem dX5_wheel_4 : decode cX5_wheel 4 = .ok (.iload_n 1, 1) := by decide +kernel
theorem dX5_wheel_5 : decode cX5_wheel 5 = .ok (.sipush 3102, 3) := by decide +kernel
theorem dX5_wheel_8 : decode cX5_wheel 8 = .ok (.if_icmp .lt 5, 3) := by decide +kernel
theorem dX5_wheel_11 : decode cX5_wheel 11 = .ok (.iconst (-1), 1) := by decide +kernel
theorem dX5_wheel_12 : decode cX5_wheel 12 = .ok (.ireturn, 1) := by decide +kernel
theorem dX5_wheel_13 : decode cX5_wheel 13 = .ok (.aload_n 0, 1) := by decide +kernel
theorem dX5_wheel_14 : decode cX5_wheel 14 = .ok (.getfield 28, 3) := by decide +kernel
theorem dX5_wheel_17 : decode cX5_wheel 17 = .ok (.iload_n 1, 1) := by decide +kernel
theorem dX5_wheel_18 : decode cX5_wheel 18 = .ok (.iaload, 1) := by decide +kernel
theorem dX5_wheel_19 : decode cX5_wheel 19 = .ok (.iconst 4, 1) := by decide +kernel
theorem dX5_wheel_20 : decode cX5_wheel 20 = .ok (.iload_n 2, 1) := by decide +kernel
theorem dX5_wheel_21 : decode cX5_wheel 21 = .ok (.imul, 1) := by decide +kernel
theorem dX5_wheel_22 : decode cX5_wheel 22 = .ok (.ishr, 1) := by decide +kernel
theorem dX5_wheel_23 : decode cX5_wheel 23 = .ok (.bipush 15, 2) := by decide +kernel
theorem dX5_wheel_25 : decode cX5_wheel 25 = .ok (.iand, 1) := by decide +kernel
theorem dX5_wheel_26 : decode cX5_wheel 26 = .ok (.istore_n 3, 1) := by decide +kernel
theorem dX5_wheel_27 : decode cX5_wheel 27 = .ok (.iload_n 3, 1) := by decide +kernel
theorem dX5_wheel_28 : decode cX5_wheel 28 = .ok (.bipush 15, 2) := by decide +kernel
theorem dX5_wheel_30 : decode cX5_wheel 30 = .ok (.if_icmp .ne 7, 3) := by decide +kernel
theorem dX5_wheel_33 : decode cX5_wheel 33 = .ok (.iconst (-1), 1) := by decide +kernel
theorem dX5_wheel_34 : decode cX5_wheel 34 = .ok (.goto 4, 3) := by decide +kernel
theorem dX5_wheel_37 : decode cX5_wheel 37 = .ok (.iload_n 3, 1) := by decide +kernel
theorem dX5_wheel_38 : decode cX5_wheel 38 = .ok (.ireturn, 1) := by decide +kernel
set_option maxRecDepth 20000 in
set_option maxHeartbeats 2000000 in
theorem V_X5_wheel_0 {X : Ctx} (C : C_X5_wheel X) {k n : Nat} {Q : Pq} {h : Hp} {v0 : Nat} {v1 v2 : Int32}
    (hv : ((v1 < 0 → Q (some (.int (-1))) h) ∧
    (¬ v1 < 0 → ((v1 < 3102 → St5 h v0 ∧ inb v1 3102 ∧ ((¬ (((gi h (v0 + 4) (ix v1)) >>> ((4 * v2) &&& 31)) &&& 15) = 15 → Q (some (.int (((gi h (v0 + 4) (ix v1)) >>> ((4 * v2) &&& 31)) &&& 15))) h) ∧
    ((((gi h (v0 + 4) (ix v1)) >>> ((4 * v2) &&& 31)) &&& 15) = 15 → Q (some (.int (-1))) h))) ∧
    (¬ v1 < 3102 → Q (some (.int (-1))) h))))) :
    Wj X k n Q 0 [(0, .ref v0), (1, .int v1), (2, .int v2)] [] h := by
  refine w_iload_n (pc := 0) C dX5_wheel_0 rfl ?_
  refine w_if_lt (pc := 1) C (tgt := 11) dX5_wheel_1 (by decide) ?_
  obtain ⟨hv1, hv2⟩ := hv
  refine ⟨fun c5 => ?_, fun c5 => ?_⟩
  · have hv := hv1 c5
    refine w_iconst (pc := 11) C (v := (-1)) dX5_wheel_11 (by decide) ?_
    exact w_iret (pc := 12) C dX5_wheel_12 hv
  · have hv := hv2 c5
    refine w_iload_n (pc := 4) C dX5_wheel_4 rfl ?_
    refine w_sipush (pc := 5) C (v := 3102) dX5_wheel_5 (by decide) ?_
    refine w_icmp_lt (pc := 8) C (tgt := 13) dX5_wheel_8 (by decide) ?_
    obtain ⟨hv1, hv2⟩ := hv
    refine ⟨fun c4 => ?_, fun c4 => ?_⟩
    · have hv := hv1 c4
      refine w_aload_n (pc := 13) C dX5_wheel_13 rfl ?_
      obtain ⟨f1, hv⟩ := hv
      refine w_getR (pc := 14) C fl_X5_28 rfl dX5_wheel_14 (St5_k f1) (St5_r5 f1) ?_
      refine w_iload_n (pc := 17) C dX5_wheel_17 rfl ?_
      obtain ⟨f2, hv⟩ := hv
      refine w_iald (pc := 18) C dX5_wheel_18 (St5_k5 f1) (inbl (St5_l5 f1) f2) ?_
      refine w_iconst (pc := 19) C (v := 4) dX5_wheel_19 (by decide) ?_
      refine w_iload_n (pc := 20) C dX5_wheel_20 rfl ?_
      refine w_imul (pc := 21) C dX5_wheel_21 ?_
      refine w_ishr (pc := 22) C dX5_wheel_22 ?_
      refine w_bipush (pc := 23) C (v := 15) dX5_wheel_23 (by decide) ?_
      refine w_iand (pc := 25) C dX5_wheel_25 ?_
      refine w_istore_n (pc := 26) C dX5_wheel_26 (by decide) ?_
      refine w_iload_n (pc := 27) C dX5_wheel_27 rfl ?_
      refine w_bipush (pc := 28) C (v := 15) dX5_wheel_28 (by decide) ?_
      refine w_icmp_ne (pc := 30) C (tgt := 37) dX5_wheel_30 (by decide) ?_
      obtain ⟨hv1, hv2⟩ := hv
      refine ⟨fun c3 => ?_, fun c3 => ?_⟩
      · have hv := hv1 c3
        refine w_iload_n (pc := 37) C dX5_wheel_37 rfl ?_
        exact w_iret (pc := 38) C dX5_wheel_38 hv
      · have hv := hv2 c3
        refine w_iconst (pc := 33) C (v := (-1)) dX5_wheel_33 (by decide) ?_
        refine w_goto (pc := 34) C (tgt := 38) dX5_wheel_34 (by decide) ?_
        exact w_iret (pc := 38) C dX5_wheel_38 hv
    · have hv := hv2 c4
      refine w_iconst (pc := 11) C (v := (-1)) dX5_wheel_11 (by decide) ?_
      exact w_iret (pc := 12) C dX5_wheel_12 hv
theorem dX5_wheelTotal_0 : decode cX5_wheelTotal 0 = .ok (.aload_n 0, 1) := by decide +kernel
theorem dX5_wheelTotal_1 : decode cX5_wheelTotal 1 = .ok (.iload_n 1, 1) := by decide +kernel
theorem dX5_wheelTotal_2 : decode cX5_wheelTotal 2 = .ok (.iconst 2, 1) := by decide +kernel
theorem dX5_wheelTotal_3 : decode cX5_wheelTotal 3 = .ok (.invokevirtual 74, 3) := by decide +kernel
theorem dX5_wheelTotal_6 : decode cX5_wheelTotal 6 = .ok (.iconst (-1), 1) := by decide +kernel
theorem dX5_wheelTotal_7 : decode cX5_wheelTotal 7 = .ok (.if_icmp .ne 7, 3) := by decide +kernel
theorem dX5_wheelTotal_10 : decode cX5_wheelTotal 10 = .ok (.iconst 2, 1) := by decide +kernel
theorem dX5_wheelTotal_11 : decode cX5_wheelTotal 11 = .ok (.goto 4, 3) := by decide +kernel
theorem dX5_wheelTotal_14 : decode cX5_wheelTotal 14 = .ok (.iconst 4, 1) := by decide +kernel
theorem dX5_wheelTotal_15 : decode cX5_wheelTotal 15 = .ok (.ireturn, 1) := by decide +kernel
set_option maxRecDepth 20000 in
set_option maxHeartbeats 2000000 in
theorem V_X5_wheelTotal_0 {X : Ctx} (C : C_X5_wheelTotal X) {k n : Nat} {Q : Pq} {h : Hp} {v0 : Nat} {v1 : Int32}
    (hv : St5 h v0 ∧ S_X5_wheel (lX X) (dtX X) 0 0 [.ref v0, .int v1, .int 2] h (QI fun x3 h2 =>
    ((¬ x3 = (-1) → Q (some (.int 4)) h2) ∧
    (x3 = (-1) → Q (some (.int 2)) h2)))) :
    Wj X k n Q 0 [(0, .ref v0), (1, .int v1)] [] h := by
  refine w_aload_n (pc := 0) C dX5_wheelTotal_0 rfl ?_
  refine w_iload_n (pc := 1) C dX5_wheelTotal_1 rfl ?_
  refine w_iconst (pc := 2) C (v := 2) dX5_wheelTotal_2 (by decide) ?_
  obtain ⟨f1, hv⟩ := hv
  refine w_cV0_2 (pc := 3) C cl_X5_74 lv_X5_wheel (by decide) dX5_wheelTotal_3 (Nat.le_of_ble_eq_true rfl) (c := 5) rfl (St5_k f1) (hv.mono (fun v h2 hp => ?_))
  obtain ⟨x3, rfl, hv⟩ := hp
  refine w_iconst (pc := 6) C (v := (-1)) dX5_wheelTotal_6 (by decide) ?_
  refine w_icmp_ne (pc := 7) C (tgt := 14) dX5_wheelTotal_7 (by decide) ?_
  obtain ⟨hv1, hv2⟩ := hv
  refine ⟨fun c4 => ?_, fun c4 => ?_⟩
  · have hv := hv1 c4
    refine w_iconst (pc := 14) C (v := 4) dX5_wheelTotal_14 (by decide) ?_
    exact w_iret (pc := 15) C dX5_wheelTotal_15 hv
  · have hv := hv2 c4
    refine w_iconst (pc := 10) C (v := 2) dX5_wheelTotal_10 (by decide) ?_
    refine w_goto (pc := 11) C (tgt := 15) dX5_wheelTotal_11 (by decide) ?_
    exact w_iret (pc := 15) C dX5_wheelTotal_15 hv
theorem dX7_firstNoDigit_0 : decode cX7_firstNoDigit 0 = .ok (.iconst 0, 1) := by decide +kernel
theorem dX7_firstNoDigit_1 : decode cX7_firstNoDigit 1 = .ok (.istore_n 3, 1) := by decide +kernel
theorem dX7_firstNoDigit_2 : decode cX7_firstNoDigit 2 = .ok (.iload_n 3, 1) := by decide +kernel
theorem dX7_firstNoDigit_3 : decode cX7_firstNoDigit 3 = .ok (.iload_n 2, 1) := by decide +kernel
theorem dX7_firstNoDigit_4 : decode cX7_firstNoDigit 4 = .ok (.if_icmp .ge 23, 3) := by decide +kernel
theorem dX7_firstNoDigit_7 : decode cX7_firstNoDigit 7 = .ok (.aload_n 0, 1) := by decide +kernel
theorem dX7_firstNoDigit_8 : decode cX7_firstNoDigit 8 = .ok (.iload_n 1, 1) := by decide +kernel
theorem dX7_firstNoDigit_9 : decode cX7_firstNoDigit 9 = .ok (.iload_n 3, 1) := by decide +kernel
theorem dX7_firstNoDigit_10 : decode cX7_firstNoDigit 10 = .ok (.iadd, 1) := by decide +kernel
theorem dX7_firstNoDigit_11 : decode cX7_firstNoDigit 11 = .ok (.invokevirtual 23, 3) := by decide +kernel
theorem dX7_firstNoDigit_14 : decode cX7_firstNoDigit 14 = .ok (.ifCond .ne 7, 3) := by decide +kernel
theorem dX7_firstNoDigit_17 : decode cX7_firstNoDigit 17 = .ok (.iload_n 1, 1) := by decide +kernel
theorem dX7_firstNoDigit_18 : decode cX7_firstNoDigit 18 = .ok (.iload_n 3, 1) := by decide +kernel
theorem dX7_firstNoDigit_19 : decode cX7_firstNoDigit 19 = .ok (.iadd, 1) := by decide +kernel
theorem dX7_firstNoDigit_20 : decode cX7_firstNoDigit 20 = .ok (.ireturn, 1) := by decide +kernel
theorem dX7_firstNoDigit_21 : decode cX7_firstNoDigit 21 = .ok (.iinc 3 1, 3) := by decide +kernel
theorem dX7_firstNoDigit_24 : decode cX7_firstNoDigit 24 = .ok (.goto (-22), 3) := by decide +kernel
theorem dX7_firstNoDigit_27 : decode cX7_firstNoDigit 27 = .ok (.iconst (-1), 1) := by decide +kernel
theorem dX7_firstNoDigit_28 : decode cX7_firstNoDigit 28 = .ok (.ireturn, 1) := by decide +kernel
set_option maxRecDepth 20000 in
set_option maxHeartbeats 2000000 in
theorem V_X7_firstNoDigit_0 {X : Ctx} (C : C_X7_firstNoDigit X) {k n : Nat} {Q : Pq} {h : Hp} {v0 : Nat} {v1 v2 : Int32}
    (hv : Wj X k n Q 2 [(0, .ref v0), (1, .int v1), (2, .int v2), (3, .int 0)] [] h) :
    Wj X k n Q 0 [(0, .ref v0), (1, .int v1), (2, .int v2)] [] h := by
  refine w_iconst (pc := 0) C (v := 0) dX7_firstNoDigit_0 (by decide) ?_
  refine w_istore_n (pc := 1) C dX7_firstNoDigit_1 (by decide) ?_
  refine w_sub ?_ hv
  exact ⟨rfl, rfl, rfl, rfl, trivial⟩
set_option maxRecDepth 20000 in
set_option maxHeartbeats 2000000 in
theorem V_X7_firstNoDigit_2 {X : Ctx} (C : C_X7_firstNoDigit X) {k n : Nat} {Q : Pq} {h : Hp} {v0 : Nat} {v1 v2 v3 : Int32}
    (hv : ((v2 ≤ v3 → Q (some (.int (-1))) h) ∧
    (¬ v2 ≤ v3 → St7 h v0 ∧ ((¬ (tDg h v0 (v1 + v3)) = 0 → Wj X k n Q 2 [(0, .ref v0), (1, .int v1), (2, .int v2), (3, .int (v3 + Int32.ofInt 1))] [] h) ∧
    ((tDg h v0 (v1 + v3)) = 0 → Q (some (.int (v1 + v3))) h))))) :
    Wj X k n Q 2 [(0, .ref v0), (1, .int v1), (2, .int v2), (3, .int v3)] [] h := by
  refine w_iload_n (pc := 2) C dX7_firstNoDigit_2 rfl ?_
  refine w_iload_n (pc := 3) C dX7_firstNoDigit_3 rfl ?_
  refine w_icmp_ge (pc := 4) C (tgt := 27) dX7_firstNoDigit_4 (by decide) ?_
  obtain ⟨hv1, hv2⟩ := hv
  refine ⟨fun c3 => ?_, fun c3 => ?_⟩
  · have hv := hv1 c3
    refine w_iconst (pc := 27) C (v := (-1)) dX7_firstNoDigit_27 (by decide) ?_
    exact w_iret (pc := 28) C dX7_firstNoDigit_28 hv
  · have hv := hv2 c3
    refine w_aload_n (pc := 7) C dX7_firstNoDigit_7 rfl ?_
    refine w_iload_n (pc := 8) C dX7_firstNoDigit_8 rfl ?_
    refine w_iload_n (pc := 9) C dX7_firstNoDigit_9 rfl ?_
    refine w_iadd (pc := 10) C dX7_firstNoDigit_10 ?_
    obtain ⟨f1, hv⟩ := hv
    refine w_cV0_1 (pc := 11) C cl_X7_23 lv_X7_isDigit (by decide) dX7_firstNoDigit_11 (Nat.le_of_ble_eq_true rfl) (c := 7) rfl (St7_k f1) ((sf_X7_isDigit (h := h) f1).mono (fun v h9 hp => ?_))
    obtain ⟨e1, e2⟩ := hp
    rw [e1, e2]
    refine w_if_ne (pc := 14) C (tgt := 21) dX7_firstNoDigit_14 (by decide) ?_
    obtain ⟨hv1, hv2⟩ := hv
    refine ⟨fun c2 => ?_, fun c2 => ?_⟩
    · have hv := hv1 c2
      refine w_iinc (pc := 21) C dX7_firstNoDigit_21 rfl (by decide) ?_
      refine w_goto (pc := 24) C (tgt := 2) dX7_firstNoDigit_24 (by decide) ?_
      refine w_sub ?_ hv
      exact ⟨rfl, rfl, rfl, rfl, trivial⟩
    · have hv := hv2 c2
      refine w_iload_n (pc := 17) C dX7_firstNoDigit_17 rfl ?_
      refine w_iload_n (pc := 18) C dX7_firstNoDigit_18 rfl ?_
      refine w_iadd (pc := 19) C dX7_firstNoDigit_19 ?_
      exact w_iret (pc := 20) C dX7_firstNoDigit_20 hv
theorem dX7_number_0 : decode cX7_number 0 = .ok (.iconst 0, 1) := by decide +kernel
theorem dX7_number_1 : decode cX7_number 1 = .ok (.istore_n 3, 1) := by decide +kernel
theorem dX7_number_2 : decode cX7_number 2 = .ok (.iconst 0, 1) := by decide +kernel
theorem dX7_number_3 : decode cX7_number 3 = .ok (.istore 4, 2) := by decide +kernel
theorem dX7_number_5 : decode cX7_number 5 = .ok (.iload 4, 2) := by decide +kernel
theorem dX7_number_7 : decode cX7_number 7 = .ok (.iload_n 2, 1) := by decide +kernel
theorem dX7_number_8 : decode cX7_number 8 = .ok (.if_icmp .ge 26, 3) := by decide +kernel
theorem dX7_number_11 : decode cX7_number 11 = .ok (.bipush 10, 2) := by decide +kernel
theorem dX7_number_13 : decode cX7_number 13 = .ok (.iload_n 3, 1) := by decide +kernel
theorem dX7_number_14 : decode cX7_number 14 = .ok (.imul, 1) := by decide +kernel
theorem dX7_number_15 : decode cX7_number 15 = .ok (.aload_n 0, 1) := by decide +kernel
theorem dX7_number_16 : decode cX7_number 16 = .ok (.iload_n 1, 1) := by decide +kernel
theorem dX7_number_17 : decode cX7_number 17 = .ok (.iload 4, 2) := by decide +kernel
theorem dX7_number_19 : decode cX7_number 19 = .ok (.iadd, 1) := by decide +kernel
theorem dX7_number_20 : decode cX7_number 20 = .ok (.invokevirtual 19, 3) := by decide +kernel
theorem dX7_number_23 : decode cX7_number 23 = .ok (.iadd, 1) := by decide +kernel
theorem dX7_number_24 : decode cX7_number 24 = .ok (.bipush 48, 2) := by decide +kernel
theorem dX7_number_26 : decode cX7_number 26 = .ok (.isub, 1) := by decide +kernel
theorem dX7_number_27 : decode cX7_number 27 = .ok (.istore_n 3, 1) := by decide +kernel
theorem dX7_number_28 : decode cX7_number 28 = .ok (.iinc 4 1, 3) := by decide +kernel
theorem dX7_number_31 : decode cX7_number 31 = .ok (.goto (-26), 3) := by decide +kernel
theorem dX7_number_34 : decode cX7_number 34 = .ok (.iload_n 3, 1) := by decide +kernel
theorem dX7_number_35 : decode cX7_number 35 = .ok (.ireturn, 1) := by decide +kernel
set_option maxRecDepth 20000 in
set_option maxHeartbeats 2000000 in
theorem V_X7_number_0 {X : Ctx} (C : C_X7_number X) {k n : Nat} {Q : Pq} {h : Hp} {v0 : Nat} {v1 v2 : Int32}
    (hv : Wj X k n Q 5 [(0, .ref v0), (1, .int v1), (2, .int v2), (3, .int 0), (4, .int 0)] [] h) :
    Wj X k n Q 0 [(0, .ref v0), (1, .int v1), (2, .int v2)] [] h := by
  refine w_iconst (pc := 0) C (v := 0) dX7_number_0 (by decide) ?_
  refine w_istore_n (pc := 1) C dX7_number_1 (by decide) ?_
  refine w_iconst (pc := 2) C (v := 0) dX7_number_2 (by decide) ?_
  refine w_istore (pc := 3) C dX7_number_3 (by decide) ?_
  refine w_sub ?_ hv
  exact ⟨rfl, rfl, rfl, rfl, rfl, trivial⟩
set_option maxRecDepth 20000 in
set_option maxHeartbeats 2000000 in
theorem V_X7_number_5 {X : Ctx} (C : C_X7_number X) {k n : Nat} {Q : Pq} {h : Hp} {v0 : Nat} {v1 v2 v3 v4 : Int32}
    (hv : ((v2 ≤ v4 → Q (some (.int v3)) h) ∧
    (¬ v2 ≤ v4 → St7 h v0 ∧ Wj X k n Q 5 [(0, .ref v0), (1, .int v1), (2, .int v2), (3, .int (((10 * v3) + (tAt h v0 (v1 + v4))) - 48)), (4, .int (v4 + Int32.ofInt 1))] [] h))) :
    Wj X k n Q 5 [(0, .ref v0), (1, .int v1), (2, .int v2), (3, .int v3), (4, .int v4)] [] h := by
  refine w_iload (pc := 5) C dX7_number_5 rfl ?_
  refine w_iload_n (pc := 7) C dX7_number_7 rfl ?_
  refine w_icmp_ge (pc := 8) C (tgt := 34) dX7_number_8 (by decide) ?_
  obtain ⟨hv1, hv2⟩ := hv
  refine ⟨fun c2 => ?_, fun c2 => ?_⟩
  · have hv := hv1 c2
    refine w_iload_n (pc := 34) C dX7_number_34 rfl ?_
    exact w_iret (pc := 35) C dX7_number_35 hv
  · have hv := hv2 c2
    refine w_bipush (pc := 11) C (v := 10) dX7_number_11 (by decide) ?_
    refine w_iload_n (pc := 13) C dX7_number_13 rfl ?_
    refine w_imul (pc := 14) C dX7_number_14 ?_
    refine w_aload_n (pc := 15) C dX7_number_15 rfl ?_
    refine w_iload_n (pc := 16) C dX7_number_16 rfl ?_
    refine w_iload (pc := 17) C dX7_number_17 rfl ?_
    refine w_iadd (pc := 19) C dX7_number_19 ?_
    obtain ⟨f1, hv⟩ := hv
    refine w_cV0_1 (pc := 20) C cl_X7_19 lv_X7_at (by decide) dX7_number_20 (Nat.le_of_ble_eq_true rfl) (c := 7) rfl (St7_k f1) ((sf_X7_at (h := h) f1).mono (fun v h9 hp => ?_))
    obtain ⟨e1, e2⟩ := hp
    rw [e1, e2]
    refine w_iadd (pc := 23) C dX7_number_23 ?_
    refine w_bipush (pc := 24) C (v := 48) dX7_number_24 (by decide) ?_
    refine w_isub (pc := 26) C dX7_number_26 ?_
    refine w_istore_n (pc := 27) C dX7_number_27 (by decide) ?_
    refine w_iinc (pc := 28) C dX7_number_28 rfl (by decide) ?_
    refine w_goto (pc := 31) C (tgt := 5) dX7_number_31 (by decide) ?_
    refine w_sub ?_ hv
    exact ⟨rfl, rfl, rfl, rfl, rfl, trivial⟩
theorem dX8_addFraction_0 : decode cX8_addFraction 0 = .ok (.aload_n 0, 1) := by decide +kernel
theorem dX8_addFraction_1 : decode cX8_addFraction 1 = .ok (.aload_n 1, 1) := by decide +kernel
theorem dX8_addFraction_2 : decode cX8_addFraction 2 = .ok (.getfield 19, 3) := by decide +kernel
theorem dX8_addFraction_5 : decode cX8_addFraction 5 = .ok (.invokevirtual 25, 3) := by decide +kernel
theorem dX8_addFraction_8 : decode cX8_addFraction 8 = .ok (.aload_n 0, 1) := by decide +kernel
theorem dX8_addFraction_9 : decode cX8_addFraction 9 = .ok (.aload_n 1, 1) := by decide +kernel
theorem dX8_addFraction_10 : decode cX8_addFraction 10 = .ok (.getfield 29, 3) := by decide +kernel
theorem dX8_addFraction_13 : decode cX8_addFraction 13 = .ok (.invokevirtual 25, 3) := by decide +kernel
theorem dX8_addFraction_16 : decode cX8_addFraction 16 = .ok (.return_, 1) := by decide +kernel
set_option maxRecDepth 20000 in
set_option maxHeartbeats 2000000 in
theorem V_X8_addFraction_0 {X : Ctx} (C : C_X8_addFraction X) {k n : Nat} {Q : Pq} {h : Hp} {v0 v1 : Nat}
    (hv : kd h v1 = 3 ∧ St8 h v0 ∧ inb (gi h v0 1) 60 ∧ inb (gi (tad h v0 (gl h v1 0)) v0 1) 60 ∧ Q none (tad (tad h v0 (gl h v1 0)) v0 (gl (tad h v0 (gl h v1 0)) v1 1))) :
    Wj X k n Q 0 [(0, .ref v0), (1, .ref v1)] [] h := by
  refine w_aload_n (pc := 0) C dX8_addFraction_0 rfl ?_
  refine w_aload_n (pc := 1) C dX8_addFraction_1 rfl ?_
  obtain ⟨f1, hv⟩ := hv
  refine w_getL (pc := 2) C fl_X8_19 rfl dX8_addFraction_2 f1 ?_
  obtain ⟨f2, hv⟩ := hv
  obtain ⟨f3, hv⟩ := hv
  refine w_cV0_1 (pc := 5) C cl_X8_25 lv_X8_add (by decide) dX8_addFraction_5 (Nat.le_of_ble_eq_true rfl) (c := 8) rfl (St8_k f2) ((sf_X8_add (h := h) f2 f3).mono (fun v h9 hp => ?_))
  obtain ⟨e1, e2⟩ := hp
  rw [e1, e2]
  refine w_aload_n (pc := 8) C dX8_addFraction_8 rfl ?_
  refine w_aload_n (pc := 9) C dX8_addFraction_9 rfl ?_
  refine w_getL (pc := 10) C fl_X8_29 rfl dX8_addFraction_10 f1 ?_
  obtain ⟨f4, hv⟩ := hv
  refine w_cV0_1 (pc := 13) C cl_X8_25 lv_X8_add (by decide) dX8_addFraction_13 (Nat.le_of_ble_eq_true rfl) (c := 8) rfl (St8_k f2) ((sf_X8_add (h := (tad h v0 (gl h v1 0))) f2 f4).mono (fun v h9 hp => ?_))
  obtain ⟨e1, e2⟩ := hp
  rw [e1, e2]
  exact w_vret (pc := 16) C dX8_addFraction_16 hv
