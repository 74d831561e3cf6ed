-- circle, gear, row of the class: behind the test (by program: gen_x.py)
set_option maxRecDepth 20000 in
set_option maxHeartbeats 2000000 in
theorem V_X9_circle_19 {X : Ctx} (C : Cx X RX9 cX9_circle 2 (some .int) "circle" 8 120) {k n : Nat} {Q : Pq} {h : Hp} {v0 : Nat} {v1 : Int32}
    (hv : St9 h v0 ∧ nn h v0 12 ∧ St4 h (gp h v0 12) ∧ S_X8_add (lX X) (dtX X) 0 0 [.ref (v0 + 3), .long (Int32.toInt64 (hPl (tcl h (v0 + 3)) (gp h v0 12) v1))] (tcl h (v0 + 3)) (QV fun h4 =>
    St9 h4 v0 ∧ nn h4 v0 12 ∧ St4 h4 (gp h4 v0 12) ∧ Q (some (.int (hHo h4 (gp h4 v0 12) v1))) h4)) :
    Wj X k n Q 19 [(0, .ref v0), (1, .int v1)] [] h := by
  refine w_aload_n (pc := 19) C dX9_circle_19 rfl ?_
  obtain ⟨f1, hv⟩ := hv
  refine w_getR (pc := 20) C fl_X9_19 rfl dX9_circle_20 (St9_k f1) (St9_r1 f1) ?_
  refine w_cV0_0 (pc := 23) C cl_X9_158 lv_X8_clear (by decide) dX9_circle_23 (Nat.le_of_ble_eq_true rfl) (c := 8) rfl (St8_k (St9_s1 f1)) ((sf_X8_clear (h := h) (St9_s1 f1)).mono (fun v h9 hp => ?_))
  obtain ⟨e1, e2⟩ := hp
  rw [e1, e2]
  refine w_aload_n (pc := 26) C dX9_circle_26 rfl ?_
  refine w_getR (pc := 27) C fl_X9_19 rfl dX9_circle_27 (St9_k f1) (St9_r1 f1) ?_
  refine w_aload_n (pc := 30) C dX9_circle_30 rfl ?_
  obtain ⟨f2, hv⟩ := hv
  refine w_getR (pc := 31) C fl_X9_78 rfl dX9_circle_31 (St9_k f1) f2 ?_
  refine w_iload_n (pc := 34) C dX9_circle_34 rfl ?_
  obtain ⟨f3, hv⟩ := hv
  refine w_cV0_1 (pc := 35) C cl_X9_161 lv_X4_plateOf (by decide) dX9_circle_35 (Nat.le_of_ble_eq_true rfl) (c := 4) rfl (St4_k f3) ((sf_X4_plateOf (h := (tcl h (v0 + 3))) f3).mono (fun v h9 hp => ?_))
  obtain ⟨e1, e2⟩ := hp
  rw [e1, e2]
  refine w_i2l (pc := 38) C dX9_circle_38 ?_
  refine w_cV0_1 (pc := 39) C cl_X9_164 lv_X8_add (by decide) dX9_circle_39 (Nat.le_of_ble_eq_true rfl) (c := 8) rfl (St8_k (St9_s1 f1)) (hv.mono (fun v h4 hp => ?_))
  obtain ⟨rfl, hv⟩ := hp
  refine w_aload_n (pc := 42) C dX9_circle_42 rfl ?_
  obtain ⟨f5, hv⟩ := hv
  obtain ⟨f6, hv⟩ := hv
  refine w_getR (pc := 43) C fl_X9_78 rfl dX9_circle_43 (St9_k f5) f6 ?_
  refine w_iload_n (pc := 46) C dX9_circle_46 rfl ?_
  obtain ⟨f7, hv⟩ := hv
  refine w_cV0_1 (pc := 47) C cl_X9_168 lv_X4_holesOf (by decide) dX9_circle_47 (Nat.le_of_ble_eq_true rfl) (c := 4) rfl (St4_k f7) ((sf_X4_holesOf (h := h4) f7).mono (fun v h9 hp => ?_))
  obtain ⟨e1, e2⟩ := hp
  rw [e1, e2]
  exact w_iret (pc := 50) C dX9_circle_50 hv
set_option maxRecDepth 20000 in
set_option maxHeartbeats 2000000 in
theorem V_X9_gear_19 {X : Ctx} (C : Cx X RX9 cX9_gear 2 (some .int) "gear" 8 120) {k n : Nat} {Q : Pq} {h : Hp} {v0 : Nat} {v1 : Int32}
    (hv : St9 h v0 ∧ nn h v0 12 ∧ St4 h (gp h v0 12) ∧ Q (some (.int (hTe h (gp h v0 12) v1))) h) :
    Wj X k n Q 19 [(0, .ref v0), (1, .int v1)] [] h := by
  refine w_aload_n (pc := 19) C dX9_gear_19 rfl ?_
  obtain ⟨f1, hv⟩ := hv
  obtain ⟨f2, hv⟩ := hv
  refine w_getR (pc := 20) C fl_X9_78 rfl dX9_gear_20 (St9_k f1) f2 ?_
  refine w_iload_n (pc := 23) C dX9_gear_23 rfl ?_
  obtain ⟨f3, hv⟩ := hv
  refine w_cV0_1 (pc := 24) C cl_X9_174 lv_X4_teethOf (by decide) dX9_gear_24 (Nat.le_of_ble_eq_true rfl) (c := 4) rfl (St4_k f3) ((sf_X4_teethOf (h := h) f3).mono (fun v h9 hp => ?_))
  obtain ⟨e1, e2⟩ := hp
  rw [e1, e2]
  exact w_iret (pc := 27) C dX9_gear_27 hv
set_option maxRecDepth 20000 in
set_option maxHeartbeats 2000000 in
theorem V_X9_row_23 {X : Ctx} (C : Cx X RX9 cX9_row 2 (some .long) "row" 8 120) {k n : Nat} {Q : Pq} {h : Hp} {v0 : Nat} {v1 : Int32}
    (hv : St9 h v0 ∧ Q (some (.long (tNo h (v0 + 3) v1))) h) :
    Wj X k n Q 23 [(0, .ref v0), (1, .int v1)] [] h := by
  refine w_aload_n (pc := 23) C dX9_row_23 rfl ?_
  obtain ⟨f1, hv⟩ := hv
  refine w_getR (pc := 24) C fl_X9_19 rfl dX9_row_24 (St9_k f1) (St9_r1 f1) ?_
  refine w_iload_n (pc := 27) C dX9_row_27 rfl ?_
  refine w_cV0_1 (pc := 28) C cl_X9_417 lv_X8_number (by decide) dX9_row_28 (Nat.le_of_ble_eq_true rfl) (c := 8) rfl (St8_k (St9_s1 f1)) ((sf_X8_number (h := h) (St9_s1 f1)).mono (fun v h9 hp => ?_))
  obtain ⟨e1, e2⟩ := hp
  rw [e1, e2]
  exact w_lret (pc := 31) C dX9_row_31 hv
