-- the reference: calls of the machine (by program: gen_parts.py)
theorem dX10_uses_0 : decode cX10_uses 0 = .ok (.aload_n 0, 1) := by decide +kernel
theorem dX10_uses_1 : decode cX10_uses 1 = .ok (.iconst 0, 1) := by decide +kernel
theorem dX10_uses_2 : decode cX10_uses 2 = .ok (.putfield 1, 3) := by decide +kernel
theorem dX10_uses_5 : decode cX10_uses 5 = .ok (.aload_n 0, 1) := by decide +kernel
theorem dX10_uses_6 : decode cX10_uses 6 = .ok (.iconst 0, 1) := by decide +kernel
theorem dX10_uses_7 : decode cX10_uses 7 = .ok (.iconst 3, 1) := by decide +kernel
theorem dX10_uses_8 : decode cX10_uses 8 = .ok (.invokevirtual 118, 3) := by decide +kernel
theorem dX10_uses_11 : decode cX10_uses 11 = .ok (.aload_n 0, 1) := by decide +kernel
theorem dX10_uses_12 : decode cX10_uses 12 = .ok (.aload_n 0, 1) := by decide +kernel
theorem dX10_uses_13 : decode cX10_uses 13 = .ok (.iload_n 1, 1) := by decide +kernel
theorem dX10_uses_14 : decode cX10_uses 14 = .ok (.invokevirtual 326, 3) := by decide +kernel
theorem dX10_uses_17 : decode cX10_uses 17 = .ok (.invokevirtual 147, 3) := by decide +kernel
theorem dX10_uses_20 : decode cX10_uses 20 = .ok (.ireturn, 1) := by decide +kernel
set_option maxRecDepth 20000 in
set_option maxHeartbeats 2000000 in
theorem V_X10_uses_0 {X : Ctx} (C : C_X10_uses X) {k n : Nat} {Q : Pq} {h : Hp} {v0 : Nat} {v1 : Int32}
    (hv : St10 h v0 ∧ S_X10_copies (lX X) (dtX X) 0 0 [.ref v0, .int 0, .int 3] (si h v0 0 0) (QV fun h2 =>
    St10 h2 v0 ∧ S_X10_usesOne (lX X) (dtX X) 0 0 [.ref v0, .int v1] h2 (QI fun x5 h4 =>
    St10 h4 v0 ∧ S_X10_done (lX X) (dtX X) 0 0 [.ref v0, .int x5] h4 (QI fun x8 h7 =>
    Q (some (.int x8)) h7)))) :
    Wj X k n Q 0 [(0, .ref v0), (1, .int v1)] [] h := by
  refine w_aload_n (pc := 0) C dX10_uses_0 rfl ?_
  refine w_iconst (pc := 1) C (v := 0) dX10_uses_1 (by decide) ?_
  obtain ⟨f1, hv⟩ := hv
  refine w_putI (pc := 2) C fl_X10_1 rfl rfl dX10_uses_2 (St10_k f1) ?_
  refine w_aload_n (pc := 5) C dX10_uses_5 rfl ?_
  refine w_iconst (pc := 6) C (v := 0) dX10_uses_6 (by decide) ?_
  refine w_iconst (pc := 7) C (v := 3) dX10_uses_7 (by decide) ?_
  refine w_cV0_2 (pc := 8) C cl_X10_118 lv_X10_copies (by decide) dX10_uses_8 (Nat.le_of_ble_eq_true rfl) (c := 10) rfl (St10_k f1) (hv.mono (fun v h2 hp => ?_))
  obtain ⟨rfl, hv⟩ := hp
  refine w_aload_n (pc := 11) C dX10_uses_11 rfl ?_
  refine w_aload_n (pc := 12) C dX10_uses_12 rfl ?_
  refine w_iload_n (pc := 13) C dX10_uses_13 rfl ?_
  obtain ⟨f3, hv⟩ := hv
  refine w_cV0_1 (pc := 14) C cl_X10_326 lv_X10_usesOne (by decide) dX10_uses_14 (Nat.le_of_ble_eq_true rfl) (c := 10) rfl (St10_k f3) (hv.mono (fun v h4 hp => ?_))
  obtain ⟨x5, rfl, hv⟩ := hp
  obtain ⟨f6, hv⟩ := hv
  refine w_cV0_1 (pc := 17) C cl_X10_147 lv_X10_done (by decide) dX10_uses_17 (Nat.le_of_ble_eq_true rfl) (c := 10) rfl (St10_k f6) (hv.mono (fun v h7 hp => ?_))
  obtain ⟨x8, rfl, hv⟩ := hp
  exact w_iret (pc := 20) C dX10_uses_20 hv
theorem dX10_geared_0 : decode cX10_geared 0 = .ok (.aload_n 0, 1) := by decide +kernel
theorem dX10_geared_1 : decode cX10_geared 1 = .ok (.iconst 0, 1) := by decide +kernel
theorem dX10_geared_2 : decode cX10_geared 2 = .ok (.putfield 1, 3) := by decide +kernel
theorem dX10_geared_5 : decode cX10_geared 5 = .ok (.aload_n 0, 1) := by decide +kernel
theorem dX10_geared_6 : decode cX10_geared 6 = .ok (.iconst 0, 1) := by decide +kernel
theorem dX10_geared_7 : decode cX10_geared 7 = .ok (.iconst 3, 1) := by decide +kernel
theorem dX10_geared_8 : decode cX10_geared 8 = .ok (.invokevirtual 118, 3) := by decide +kernel
theorem dX10_geared_11 : decode cX10_geared 11 = .ok (.aload_n 0, 1) := by decide +kernel
theorem dX10_geared_12 : decode cX10_geared 12 = .ok (.iload_n 1, 1) := by decide +kernel
theorem dX10_geared_13 : decode cX10_geared 13 = .ok (.iload_n 2, 1) := by decide +kernel
theorem dX10_geared_14 : decode cX10_geared 14 = .ok (.iload_n 3, 1) := by decide +kernel
theorem dX10_geared_15 : decode cX10_geared 15 = .ok (.iload 4, 2) := by decide +kernel
theorem dX10_geared_17 : decode cX10_geared 17 = .ok (.iload 5, 2) := by decide +kernel
theorem dX10_geared_19 : decode cX10_geared 19 = .ok (.invokevirtual 332, 3) := by decide +kernel
theorem dX10_geared_22 : decode cX10_geared 22 = .ok (.istore 6, 2) := by decide +kernel
theorem dX10_geared_24 : decode cX10_geared 24 = .ok (.iload 6, 2) := by decide +kernel
theorem dX10_geared_26 : decode cX10_geared 26 = .ok (.ifCond .lt 20, 3) := by decide +kernel
theorem dX10_geared_29 : decode cX10_geared 29 = .ok (.aload_n 0, 1) := by decide +kernel
theorem dX10_geared_30 : decode cX10_geared 30 = .ok (.iconst 0, 1) := by decide +kernel
theorem dX10_geared_31 : decode cX10_geared 31 = .ok (.putfield 11, 3) := by decide +kernel
theorem dX10_geared_34 : decode cX10_geared 34 = .ok (.aload_n 0, 1) := by decide +kernel
theorem dX10_geared_35 : decode cX10_geared 35 = .ok (.aload_n 0, 1) := by decide +kernel
theorem dX10_geared_36 : decode cX10_geared 36 = .ok (.invokevirtual 236, 3) := by decide +kernel
theorem dX10_geared_39 : decode cX10_geared 39 = .ok (.aload_n 0, 1) := by decide +kernel
theorem dX10_geared_40 : decode cX10_geared 40 = .ok (.invokevirtual 240, 3) := by decide +kernel
theorem dX10_geared_43 : decode cX10_geared 43 = .ok (.invokevirtual 284, 3) := by decide +kernel
theorem dX10_geared_46 : decode cX10_geared 46 = .ok (.aload_n 0, 1) := by decide +kernel
theorem dX10_geared_47 : decode cX10_geared 47 = .ok (.iload 6, 2) := by decide +kernel
theorem dX10_geared_49 : decode cX10_geared 49 = .ok (.invokevirtual 147, 3) := by decide +kernel
theorem dX10_geared_52 : decode cX10_geared 52 = .ok (.ireturn, 1) := by decide +kernel
set_option maxRecDepth 20000 in
set_option maxHeartbeats 2000000 in
theorem V_X10_geared_0 {X : Ctx} (C : C_X10_geared X) {k n : Nat} {Q : Pq} {h : Hp} {v0 : Nat} {v1 v2 v3 v4 v5 : Int32}
    (hv : St10 h v0 ∧ S_X10_copies (lX X) (dtX X) 0 0 [.ref v0, .int 0, .int 3] (si h v0 0 0) (QV fun h2 =>
    St10 h2 v0 ∧ S_X10_gearedOne (lX X) (dtX X) 0 0 [.ref v0, .int v1, .int v2, .int v3, .int v4, .int v5] h2 (QI fun x5 h4 =>
    ((x5 < 0 → Wj X k n Q 46 [(0, .ref v0), (6, .int x5)] [] h4) ∧
    (¬ x5 < 0 → St10 h4 v0 ∧ inb (41 + gi (si h4 v0 1 0) (v0 + 7) (ix 0)) 732 ∧ (gi (si h4 v0 1 0) v0 18 = 4 → inb (41 + gi (si h4 v0 1 0) (v0 + 7) (ix 2)) 732) ∧ inb (41 + gi (si h4 v0 1 0) (v0 + 7) (ix 1)) 732 ∧ (gi (si h4 v0 1 0) v0 18 = 4 → inb (41 + gi (si h4 v0 1 0) (v0 + 7) (ix 3)) 732) ∧ S_X10_entersPart (lX X) (dtX X) 0 0 [.ref v0, .long (mUp (si h4 v0 1 0) v0), .long (mLw (si h4 v0 1 0) v0)] (si h4 v0 1 0) (QV fun h11 =>
    Wj X k n Q 46 [(0, .ref v0), (6, .int x5)] [] h11)))))) :
    Wj X k n Q 0 [(0, .ref v0), (1, .int v1), (2, .int v2), (3, .int v3), (4, .int v4), (5, .int v5)] [] h := by
  refine w_aload_n (pc := 0) C dX10_geared_0 rfl ?_
  refine w_iconst (pc := 1) C (v := 0) dX10_geared_1 (by decide) ?_
  obtain ⟨f1, hv⟩ := hv
  refine w_putI (pc := 2) C fl_X10_1 rfl rfl dX10_geared_2 (St10_k f1) ?_
  refine w_aload_n (pc := 5) C dX10_geared_5 rfl ?_
  refine w_iconst (pc := 6) C (v := 0) dX10_geared_6 (by decide) ?_
  refine w_iconst (pc := 7) C (v := 3) dX10_geared_7 (by decide) ?_
  refine w_cV0_2 (pc := 8) C cl_X10_118 lv_X10_copies (by decide) dX10_geared_8 (Nat.le_of_ble_eq_true rfl) (c := 10) rfl (St10_k f1) (hv.mono (fun v h2 hp => ?_))
  obtain ⟨rfl, hv⟩ := hp
  refine w_aload_n (pc := 11) C dX10_geared_11 rfl ?_
  refine w_iload_n (pc := 12) C dX10_geared_12 rfl ?_
  refine w_iload_n (pc := 13) C dX10_geared_13 rfl ?_
  refine w_iload_n (pc := 14) C dX10_geared_14 rfl ?_
  refine w_iload (pc := 15) C dX10_geared_15 rfl ?_
  refine w_iload (pc := 17) C dX10_geared_17 rfl ?_
  obtain ⟨f3, hv⟩ := hv
  refine w_cV0_5 (pc := 19) C cl_X10_332 lv_X10_gearedOne (by decide) dX10_geared_19 (Nat.le_of_ble_eq_true rfl) (c := 10) rfl (St10_k f3) (hv.mono (fun v h4 hp => ?_))
  obtain ⟨x5, rfl, hv⟩ := hp
  refine w_istore (pc := 22) C dX10_geared_22 (by decide) ?_
  refine w_iload (pc := 24) C dX10_geared_24 rfl ?_
  refine w_if_lt (pc := 26) C (tgt := 46) dX10_geared_26 (by decide) ?_
  obtain ⟨hv1, hv2⟩ := hv
  refine ⟨fun c12 => ?_, fun c12 => ?_⟩
  · have hv := hv1 c12
    refine w_sub ?_ hv
    exact ⟨rfl, rfl, trivial⟩
  · have hv := hv2 c12
    refine w_aload_n (pc := 29) C dX10_geared_29 rfl ?_
    refine w_iconst (pc := 30) C (v := 0) dX10_geared_30 (by decide) ?_
    obtain ⟨f6, hv⟩ := hv
    refine w_putI (pc := 31) C fl_X10_11 rfl rfl dX10_geared_31 (St10_k f6) ?_
    refine w_aload_n (pc := 34) C dX10_geared_34 rfl ?_
    refine w_aload_n (pc := 35) C dX10_geared_35 rfl ?_
    obtain ⟨f7, hv⟩ := hv
    obtain ⟨f8, hv⟩ := hv
    refine w_cV0_0 (pc := 36) C cl_X10_236 lv_X10_upper (by decide) dX10_geared_36 (Nat.le_of_ble_eq_true rfl) (c := 10) rfl (St10_k f6) ((sf_X10_upper (h := (si h4 v0 1 0)) f6 f7 f8).mono (fun v h9 hp => ?_))
    obtain ⟨e1, e2⟩ := hp
    rw [e1, e2]
    refine w_aload_n (pc := 39) C dX10_geared_39 rfl ?_
    obtain ⟨f9, hv⟩ := hv
    obtain ⟨f10, hv⟩ := hv
    refine w_cV0_0 (pc := 40) C cl_X10_240 lv_X10_lower (by decide) dX10_geared_40 (Nat.le_of_ble_eq_true rfl) (c := 10) rfl (St10_k f6) ((sf_X10_lower (h := (si h4 v0 1 0)) f6 f9 f10).mono (fun v h9 hp => ?_))
    obtain ⟨e1, e2⟩ := hp
    rw [e1, e2]
    refine w_cV0_2 (pc := 43) C cl_X10_284 lv_X10_entersPart (by decide) dX10_geared_43 (Nat.le_of_ble_eq_true rfl) (c := 10) rfl (St10_k f6) (hv.mono (fun v h11 hp => ?_))
    obtain ⟨rfl, hv⟩ := hp
    refine w_sub ?_ hv
    exact ⟨rfl, rfl, trivial⟩
set_option maxRecDepth 20000 in
set_option maxHeartbeats 2000000 in
theorem V_X10_geared_46 {X : Ctx} (C : C_X10_geared X) {k n : Nat} {Q : Pq} {h : Hp} {v0 : Nat} {v6 : Int32}
    (hv : St10 h v0 ∧ S_X10_done (lX X) (dtX X) 0 0 [.ref v0, .int v6] h (QI fun x3 h2 =>
    Q (some (.int x3)) h2)) :
    Wj X k n Q 46 [(0, .ref v0), (6, .int v6)] [] h := by
  refine w_aload_n (pc := 46) C dX10_geared_46 rfl ?_
  refine w_iload (pc := 47) C dX10_geared_47 rfl ?_
  obtain ⟨f1, hv⟩ := hv
  refine w_cV0_1 (pc := 49) C cl_X10_147 lv_X10_done (by decide) dX10_geared_49 (Nat.le_of_ble_eq_true rfl) (c := 10) rfl (St10_k f1) (hv.mono (fun v h2 hp => ?_))
  obtain ⟨x3, rfl, hv⟩ := hp
  exact w_iret (pc := 52) C dX10_geared_52 hv
theorem dX10_ungeared_0 : decode cX10_ungeared 0 = .ok (.aload_n 0, 1) := by decide +kernel
theorem dX10_ungeared_1 : decode cX10_ungeared 1 = .ok (.iconst 0, 1) := by decide +kernel
theorem dX10_ungeared_2 : decode cX10_ungeared 2 = .ok (.putfield 1, 3) := by decide +kernel
theorem dX10_ungeared_5 : decode cX10_ungeared 5 = .ok (.aload_n 0, 1) := by decide +kernel
theorem dX10_ungeared_6 : decode cX10_ungeared 6 = .ok (.iconst 0, 1) := by decide +kernel
theorem dX10_ungeared_7 : decode cX10_ungeared 7 = .ok (.iconst 3, 1) := by decide +kernel
theorem dX10_ungeared_8 : decode cX10_ungeared 8 = .ok (.invokevirtual 118, 3) := by decide +kernel
theorem dX10_ungeared_11 : decode cX10_ungeared 11 = .ok (.aload_n 0, 1) := by decide +kernel
theorem dX10_ungeared_12 : decode cX10_ungeared 12 = .ok (.aload_n 0, 1) := by decide +kernel
theorem dX10_ungeared_13 : decode cX10_ungeared 13 = .ok (.invokevirtual 336, 3) := by decide +kernel
theorem dX10_ungeared_16 : decode cX10_ungeared 16 = .ok (.invokevirtual 147, 3) := by decide +kernel
theorem dX10_ungeared_19 : decode cX10_ungeared 19 = .ok (.ireturn, 1) := by decide +kernel
set_option maxRecDepth 20000 in
set_option maxHeartbeats 2000000 in
theorem V_X10_ungeared_0 {X : Ctx} (C : C_X10_ungeared X) {k n : Nat} {Q : Pq} {h : Hp} {v0 : Nat}
    (hv : St10 h v0 ∧ S_X10_copies (lX X) (dtX X) 0 0 [.ref v0, .int 0, .int 3] (si h v0 0 0) (QV fun h2 =>
    St10 h2 v0 ∧ S_X10_ungearedOne (lX X) (dtX X) 0 0 [.ref v0] h2 (QI fun x5 h4 =>
    St10 h4 v0 ∧ S_X10_done (lX X) (dtX X) 0 0 [.ref v0, .int x5] h4 (QI fun x8 h7 =>
    Q (some (.int x8)) h7)))) :
    Wj X k n Q 0 [(0, .ref v0)] [] h := by
  refine w_aload_n (pc := 0) C dX10_ungeared_0 rfl ?_
  refine w_iconst (pc := 1) C (v := 0) dX10_ungeared_1 (by decide) ?_
  obtain ⟨f1, hv⟩ := hv
  refine w_putI (pc := 2) C fl_X10_1 rfl rfl dX10_ungeared_2 (St10_k f1) ?_
  refine w_aload_n (pc := 5) C dX10_ungeared_5 rfl ?_
  refine w_iconst (pc := 6) C (v := 0) dX10_ungeared_6 (by decide) ?_
  refine w_iconst (pc := 7) C (v := 3) dX10_ungeared_7 (by decide) ?_
  refine w_cV0_2 (pc := 8) C cl_X10_118 lv_X10_copies (by decide) dX10_ungeared_8 (Nat.le_of_ble_eq_true rfl) (c := 10) rfl (St10_k f1) (hv.mono (fun v h2 hp => ?_))
  obtain ⟨rfl, hv⟩ := hp
  refine w_aload_n (pc := 11) C dX10_ungeared_11 rfl ?_
  refine w_aload_n (pc := 12) C dX10_ungeared_12 rfl ?_
  obtain ⟨f3, hv⟩ := hv
  refine w_cV0_0 (pc := 13) C cl_X10_336 lv_X10_ungearedOne (by decide) dX10_ungeared_13 (Nat.le_of_ble_eq_true rfl) (c := 10) rfl (St10_k f3) (hv.mono (fun v h4 hp => ?_))
  obtain ⟨x5, rfl, hv⟩ := hp
  obtain ⟨f6, hv⟩ := hv
  refine w_cV0_1 (pc := 16) C cl_X10_147 lv_X10_done (by decide) dX10_ungeared_16 (Nat.le_of_ble_eq_true rfl) (c := 10) rfl (St10_k f6) (hv.mono (fun v h7 hp => ?_))
  obtain ⟨x8, rfl, hv⟩ := hp
  exact w_iret (pc := 19) C dX10_ungeared_19 hv
theorem dX10_cranks_0 : decode cX10_cranks 0 = .ok (.aload_n 0, 1) := by decide +kernel
theorem dX10_cranks_1 : decode cX10_cranks 1 = .ok (.iconst 0, 1) := by decide +kernel
theorem dX10_cranks_2 : decode cX10_cranks 2 = .ok (.putfield 1, 3) := by decide +kernel
theorem dX10_cranks_5 : decode cX10_cranks 5 = .ok (.aload_n 0, 1) := by decide +kernel
theorem dX10_cranks_6 : decode cX10_cranks 6 = .ok (.iconst 0, 1) := by decide +kernel
theorem dX10_cranks_7 : decode cX10_cranks 7 = .ok (.iconst 3, 1) := by decide +kernel
theorem dX10_cranks_8 : decode cX10_cranks 8 = .ok (.invokevirtual 118, 3) := by decide +kernel
theorem dX10_cranks_11 : decode cX10_cranks 11 = .ok (.aload_n 0, 1) := by decide +kernel
theorem dX10_cranks_12 : decode cX10_cranks 12 = .ok (.iload_n 1, 1) := by decide +kernel
theorem dX10_cranks_13 : decode cX10_cranks 13 = .ok (.iload_n 2, 1) := by decide +kernel
theorem dX10_cranks_14 : decode cX10_cranks 14 = .ok (.iload_n 3, 1) := by decide +kernel
theorem dX10_cranks_15 : decode cX10_cranks 15 = .ok (.invokevirtual 374, 3) := by decide +kernel
theorem dX10_cranks_18 : decode cX10_cranks 18 = .ok (.istore 4, 2) := by decide +kernel
theorem dX10_cranks_20 : decode cX10_cranks 20 = .ok (.iload 4, 2) := by decide +kernel
theorem dX10_cranks_22 : decode cX10_cranks 22 = .ok (.ifCond .ne 28, 3) := by decide +kernel
theorem dX10_cranks_25 : decode cX10_cranks 25 = .ok (.aload_n 0, 1) := by decide +kernel
theorem dX10_cranks_26 : decode cX10_cranks 26 = .ok (.iconst 0, 1) := by decide +kernel
theorem dX10_cranks_27 : decode cX10_cranks 27 = .ok (.putfield 11, 3) := by decide +kernel
theorem dX10_cranks_30 : decode cX10_cranks 30 = .ok (.aload_n 0, 1) := by decide +kernel
theorem dX10_cranks_31 : decode cX10_cranks 31 = .ok (.aload_n 0, 1) := by decide +kernel
theorem dX10_cranks_32 : decode cX10_cranks 32 = .ok (.getfield 71, 3) := by decide +kernel
theorem dX10_cranks_35 : decode cX10_cranks 35 = .ok (.iconst 0, 1) := by decide +kernel
theorem dX10_cranks_36 : decode cX10_cranks 36 = .ok (.laload, 1) := by decide +kernel
theorem dX10_cranks_37 : decode cX10_cranks 37 = .ok (.invokevirtual 18, 3) := by decide +kernel
theorem dX10_cranks_40 : decode cX10_cranks 40 = .ok (.aload_n 0, 1) := by decide +kernel
theorem dX10_cranks_41 : decode cX10_cranks 41 = .ok (.aload_n 0, 1) := by decide +kernel
theorem dX10_cranks_42 : decode cX10_cranks 42 = .ok (.getfield 71, 3) := by decide +kernel
theorem dX10_cranks_45 : decode cX10_cranks 45 = .ok (.iconst 1, 1) := by decide +kernel
theorem dX10_cranks_46 : decode cX10_cranks 46 = .ok (.laload, 1) := by decide +kernel
theorem dX10_cranks_47 : decode cX10_cranks 47 = .ok (.invokevirtual 18, 3) := by decide +kernel
theorem dX10_cranks_50 : decode cX10_cranks 50 = .ok (.aload_n 0, 1) := by decide +kernel
theorem dX10_cranks_51 : decode cX10_cranks 51 = .ok (.iload 4, 2) := by decide +kernel
theorem dX10_cranks_53 : decode cX10_cranks 53 = .ok (.invokevirtual 147, 3) := by decide +kernel
theorem dX10_cranks_56 : decode cX10_cranks 56 = .ok (.ireturn, 1) := by decide +kernel
set_option maxRecDepth 20000 in
set_option maxHeartbeats 2000000 in
theorem V_X10_cranks_0 {X : Ctx} (C : C_X10_cranks X) {k n : Nat} {Q : Pq} {h : Hp} {v0 : Nat} {v1 v2 v3 : Int32}
    (hv : St10 h v0 ∧ S_X10_copies (lX X) (dtX X) 0 0 [.ref v0, .int 0, .int 3] (si h v0 0 0) (QV fun h2 =>
    St10 h2 v0 ∧ S_X10_turnsOne (lX X) (dtX X) 0 0 [.ref v0, .int v1, .int v2, .int v3] h2 (QI fun x5 h4 =>
    ((¬ x5 = 0 → Wj X k n Q 50 [(0, .ref v0), (4, .int x5)] [] h4) ∧
    (x5 = 0 → St10 h4 v0 ∧ S_X10_enters (lX X) (dtX X) 0 0 [.ref v0, .long (gl h4 (v0 + 4) (ix 0))] (si h4 v0 1 0) (QV fun h7 =>
    St10 h7 v0 ∧ S_X10_enters (lX X) (dtX X) 0 0 [.ref v0, .long (gl h7 (v0 + 4) (ix 1))] h7 (QV fun h9 =>
    Wj X k n Q 50 [(0, .ref v0), (4, .int x5)] [] h9))))))) :
    Wj X k n Q 0 [(0, .ref v0), (1, .int v1), (2, .int v2), (3, .int v3)] [] h := by
  refine w_aload_n (pc := 0) C dX10_cranks_0 rfl ?_
  refine w_iconst (pc := 1) C (v := 0) dX10_cranks_1 (by decide) ?_
  obtain ⟨f1, hv⟩ := hv
  refine w_putI (pc := 2) C fl_X10_1 rfl rfl dX10_cranks_2 (St10_k f1) ?_
  refine w_aload_n (pc := 5) C dX10_cranks_5 rfl ?_
  refine w_iconst (pc := 6) C (v := 0) dX10_cranks_6 (by decide) ?_
  refine w_iconst (pc := 7) C (v := 3) dX10_cranks_7 (by decide) ?_
  refine w_cV0_2 (pc := 8) C cl_X10_118 lv_X10_copies (by decide) dX10_cranks_8 (Nat.le_of_ble_eq_true rfl) (c := 10) rfl (St10_k f1) (hv.mono (fun v h2 hp => ?_))
  obtain ⟨rfl, hv⟩ := hp
  refine w_aload_n (pc := 11) C dX10_cranks_11 rfl ?_
  refine w_iload_n (pc := 12) C dX10_cranks_12 rfl ?_
  refine w_iload_n (pc := 13) C dX10_cranks_13 rfl ?_
  refine w_iload_n (pc := 14) C dX10_cranks_14 rfl ?_
  obtain ⟨f3, hv⟩ := hv
  refine w_cV0_3 (pc := 15) C cl_X10_374 lv_X10_turnsOne (by decide) dX10_cranks_15 (Nat.le_of_ble_eq_true rfl) (c := 10) rfl (St10_k f3) (hv.mono (fun v h4 hp => ?_))
  obtain ⟨x5, rfl, hv⟩ := hp
  refine w_istore (pc := 18) C dX10_cranks_18 (by decide) ?_
  refine w_iload (pc := 20) C dX10_cranks_20 rfl ?_
  refine w_if_ne (pc := 22) C (tgt := 50) dX10_cranks_22 (by decide) ?_
  obtain ⟨hv1, hv2⟩ := hv
  refine ⟨fun c10 => ?_, fun c10 => ?_⟩
  · have hv := hv1 c10
    refine w_sub ?_ hv
    exact ⟨rfl, rfl, trivial⟩
  · have hv := hv2 c10
    refine w_aload_n (pc := 25) C dX10_cranks_25 rfl ?_
    refine w_iconst (pc := 26) C (v := 0) dX10_cranks_26 (by decide) ?_
    obtain ⟨f6, hv⟩ := hv
    refine w_putI (pc := 27) C fl_X10_11 rfl rfl dX10_cranks_27 (St10_k f6) ?_
    refine w_aload_n (pc := 30) C dX10_cranks_30 rfl ?_
    refine w_aload_n (pc := 31) C dX10_cranks_31 rfl ?_
    refine w_getR (pc := 32) C fl_X10_71 rfl dX10_cranks_32 (St10_k f6) (St10_r8 f6) ?_
    refine w_iconst (pc := 35) C (v := 0) dX10_cranks_35 (by decide) ?_
    refine w_lald (pc := 36) C dX10_cranks_36 (St10_k8 f6) (inbl (St10_l8 f6) (inbd (by decide))) ?_
    refine w_cV0_1 (pc := 37) C cl_X10_18 lv_X10_enters (by decide) dX10_cranks_37 (Nat.le_of_ble_eq_true rfl) (c := 10) rfl (St10_k f6) (hv.mono (fun v h7 hp => ?_))
    obtain ⟨rfl, hv⟩ := hp
    refine w_aload_n (pc := 40) C dX10_cranks_40 rfl ?_
    refine w_aload_n (pc := 41) C dX10_cranks_41 rfl ?_
    obtain ⟨f8, hv⟩ := hv
    refine w_getR (pc := 42) C fl_X10_71 rfl dX10_cranks_42 (St10_k f8) (St10_r8 f8) ?_
    refine w_iconst (pc := 45) C (v := 1) dX10_cranks_45 (by decide) ?_
    refine w_lald (pc := 46) C dX10_cranks_46 (St10_k8 f8) (inbl (St10_l8 f8) (inbd (by decide))) ?_
    refine w_cV0_1 (pc := 47) C cl_X10_18 lv_X10_enters (by decide) dX10_cranks_47 (Nat.le_of_ble_eq_true rfl) (c := 10) rfl (St10_k f8) (hv.mono (fun v h9 hp => ?_))
    obtain ⟨rfl, hv⟩ := hp
    refine w_sub ?_ hv
    exact ⟨rfl, rfl, trivial⟩
set_option maxRecDepth 20000 in
set_option maxHeartbeats 2000000 in
theorem V_X10_cranks_50 {X : Ctx} (C : C_X10_cranks X) {k n : Nat} {Q : Pq} {h : Hp} {v0 : Nat} {v4 : Int32}
    (hv : St10 h v0 ∧ S_X10_done (lX X) (dtX X) 0 0 [.ref v0, .int v4] h (QI fun x3 h2 =>
    Q (some (.int x3)) h2)) :
    Wj X k n Q 50 [(0, .ref v0), (4, .int v4)] [] h := by
  refine w_aload_n (pc := 50) C dX10_cranks_50 rfl ?_
  refine w_iload (pc := 51) C dX10_cranks_51 rfl ?_
  obtain ⟨f1, hv⟩ := hv
  refine w_cV0_1 (pc := 53) C cl_X10_147 lv_X10_done (by decide) dX10_cranks_53 (Nat.le_of_ble_eq_true rfl) (c := 10) rfl (St10_k f1) (hv.mono (fun v h2 hp => ?_))
  obtain ⟨x3, rfl, hv⟩ := hp
  exact w_iret (pc := 56) C dX10_cranks_56 hv
theorem dX10_cuts_0 : decode cX10_cuts 0 = .ok (.aload_n 0, 1) := by decide +kernel
theorem dX10_cuts_1 : decode cX10_cuts 1 = .ok (.iconst 0, 1) := by decide +kernel
theorem dX10_cuts_2 : decode cX10_cuts 2 = .ok (.putfield 1, 3) := by decide +kernel
theorem dX10_cuts_5 : decode cX10_cuts 5 = .ok (.aload_n 0, 1) := by decide +kernel
theorem dX10_cuts_6 : decode cX10_cuts 6 = .ok (.iconst 0, 1) := by decide +kernel
theorem dX10_cuts_7 : decode cX10_cuts 7 = .ok (.iconst 3, 1) := by decide +kernel
theorem dX10_cuts_8 : decode cX10_cuts 8 = .ok (.invokevirtual 118, 3) := by decide +kernel
theorem dX10_cuts_11 : decode cX10_cuts 11 = .ok (.aload_n 0, 1) := by decide +kernel
theorem dX10_cuts_12 : decode cX10_cuts 12 = .ok (.aload_n 0, 1) := by decide +kernel
theorem dX10_cuts_13 : decode cX10_cuts 13 = .ok (.invokevirtual 392, 3) := by decide +kernel
theorem dX10_cuts_16 : decode cX10_cuts 16 = .ok (.invokevirtual 147, 3) := by decide +kernel
theorem dX10_cuts_19 : decode cX10_cuts 19 = .ok (.ireturn, 1) := by decide +kernel
set_option maxRecDepth 20000 in
set_option maxHeartbeats 2000000 in
theorem V_X10_cuts_0 {X : Ctx} (C : C_X10_cuts X) {k n : Nat} {Q : Pq} {h : Hp} {v0 : Nat}
    (hv : St10 h v0 ∧ S_X10_copies (lX X) (dtX X) 0 0 [.ref v0, .int 0, .int 3] (si h v0 0 0) (QV fun h2 =>
    St10 h2 v0 ∧ S_X10_cutsOne (lX X) (dtX X) 0 0 [.ref v0] h2 (QI fun x5 h4 =>
    St10 h4 v0 ∧ S_X10_done (lX X) (dtX X) 0 0 [.ref v0, .int x5] h4 (QI fun x8 h7 =>
    Q (some (.int x8)) h7)))) :
    Wj X k n Q 0 [(0, .ref v0)] [] h := by
  refine w_aload_n (pc := 0) C dX10_cuts_0 rfl ?_
  refine w_iconst (pc := 1) C (v := 0) dX10_cuts_1 (by decide) ?_
  obtain ⟨f1, hv⟩ := hv
  refine w_putI (pc := 2) C fl_X10_1 rfl rfl dX10_cuts_2 (St10_k f1) ?_
  refine w_aload_n (pc := 5) C dX10_cuts_5 rfl ?_
  refine w_iconst (pc := 6) C (v := 0) dX10_cuts_6 (by decide) ?_
  refine w_iconst (pc := 7) C (v := 3) dX10_cuts_7 (by decide) ?_
  refine w_cV0_2 (pc := 8) C cl_X10_118 lv_X10_copies (by decide) dX10_cuts_8 (Nat.le_of_ble_eq_true rfl) (c := 10) rfl (St10_k f1) (hv.mono (fun v h2 hp => ?_))
  obtain ⟨rfl, hv⟩ := hp
  refine w_aload_n (pc := 11) C dX10_cuts_11 rfl ?_
  refine w_aload_n (pc := 12) C dX10_cuts_12 rfl ?_
  obtain ⟨f3, hv⟩ := hv
  refine w_cV0_0 (pc := 13) C cl_X10_392 lv_X10_cutsOne (by decide) dX10_cuts_13 (Nat.le_of_ble_eq_true rfl) (c := 10) rfl (St10_k f3) (hv.mono (fun v h4 hp => ?_))
  obtain ⟨x5, rfl, hv⟩ := hp
  obtain ⟨f6, hv⟩ := hv
  refine w_cV0_1 (pc := 16) C cl_X10_147 lv_X10_done (by decide) dX10_cuts_16 (Nat.le_of_ble_eq_true rfl) (c := 10) rfl (St10_k f6) (hv.mono (fun v h7 hp => ?_))
  obtain ⟨x8, rfl, hv⟩ := hp
  exact w_iret (pc := 19) C dX10_cuts_19 hv
theorem dX10_wipes_0 : decode cX10_wipes 0 = .ok (.aload_n 0, 1) := by decide +kernel
theorem dX10_wipes_1 : decode cX10_wipes 1 = .ok (.iconst 0, 1) := by decide +kernel
theorem dX10_wipes_2 : decode cX10_wipes 2 = .ok (.putfield 1, 3) := by decide +kernel
theorem dX10_wipes_5 : decode cX10_wipes 5 = .ok (.aload_n 0, 1) := by decide +kernel
theorem dX10_wipes_6 : decode cX10_wipes 6 = .ok (.iconst 0, 1) := by decide +kernel
theorem dX10_wipes_7 : decode cX10_wipes 7 = .ok (.iconst 3, 1) := by decide +kernel
theorem dX10_wipes_8 : decode cX10_wipes 8 = .ok (.invokevirtual 118, 3) := by decide +kernel
theorem dX10_wipes_11 : decode cX10_wipes 11 = .ok (.aload_n 0, 1) := by decide +kernel
theorem dX10_wipes_12 : decode cX10_wipes 12 = .ok (.aload_n 0, 1) := by decide +kernel
theorem dX10_wipes_13 : decode cX10_wipes 13 = .ok (.invokevirtual 395, 3) := by decide +kernel
theorem dX10_wipes_16 : decode cX10_wipes 16 = .ok (.invokevirtual 147, 3) := by decide +kernel
theorem dX10_wipes_19 : decode cX10_wipes 19 = .ok (.ireturn, 1) := by decide +kernel
set_option maxRecDepth 20000 in
set_option maxHeartbeats 2000000 in
theorem V_X10_wipes_0 {X : Ctx} (C : C_X10_wipes X) {k n : Nat} {Q : Pq} {h : Hp} {v0 : Nat}
    (hv : St10 h v0 ∧ S_X10_copies (lX X) (dtX X) 0 0 [.ref v0, .int 0, .int 3] (si h v0 0 0) (QV fun h2 =>
    St10 h2 v0 ∧ S_X10_wipesOne (lX X) (dtX X) 0 0 [.ref v0] h2 (QI fun x5 h4 =>
    St10 h4 v0 ∧ S_X10_done (lX X) (dtX X) 0 0 [.ref v0, .int x5] h4 (QI fun x8 h7 =>
    Q (some (.int x8)) h7)))) :
    Wj X k n Q 0 [(0, .ref v0)] [] h := by
  refine w_aload_n (pc := 0) C dX10_wipes_0 rfl ?_
  refine w_iconst (pc := 1) C (v := 0) dX10_wipes_1 (by decide) ?_
  obtain ⟨f1, hv⟩ := hv
  refine w_putI (pc := 2) C fl_X10_1 rfl rfl dX10_wipes_2 (St10_k f1) ?_
  refine w_aload_n (pc := 5) C dX10_wipes_5 rfl ?_
  refine w_iconst (pc := 6) C (v := 0) dX10_wipes_6 (by decide) ?_
  refine w_iconst (pc := 7) C (v := 3) dX10_wipes_7 (by decide) ?_
  refine w_cV0_2 (pc := 8) C cl_X10_118 lv_X10_copies (by decide) dX10_wipes_8 (Nat.le_of_ble_eq_true rfl) (c := 10) rfl (St10_k f1) (hv.mono (fun v h2 hp => ?_))
  obtain ⟨rfl, hv⟩ := hp
  refine w_aload_n (pc := 11) C dX10_wipes_11 rfl ?_
  refine w_aload_n (pc := 12) C dX10_wipes_12 rfl ?_
  obtain ⟨f3, hv⟩ := hv
  refine w_cV0_0 (pc := 13) C cl_X10_395 lv_X10_wipesOne (by decide) dX10_wipes_13 (Nat.le_of_ble_eq_true rfl) (c := 10) rfl (St10_k f3) (hv.mono (fun v h4 hp => ?_))
  obtain ⟨x5, rfl, hv⟩ := hp
  obtain ⟨f6, hv⟩ := hv
  refine w_cV0_1 (pc := 16) C cl_X10_147 lv_X10_done (by decide) dX10_wipes_16 (Nat.le_of_ble_eq_true rfl) (c := 10) rfl (St10_k f6) (hv.mono (fun v h7 hp => ?_))
  obtain ⟨x8, rfl, hv⟩ := hp
  exact w_iret (pc := 19) C dX10_wipes_19 hv
theorem dX10_sets_0 : decode cX10_sets 0 = .ok (.aload_n 0, 1) := by decide +kernel
theorem dX10_sets_1 : decode cX10_sets 1 = .ok (.iconst 0, 1) := by decide +kernel
theorem dX10_sets_2 : decode cX10_sets 2 = .ok (.putfield 1, 3) := by decide +kernel
theorem dX10_sets_5 : decode cX10_sets 5 = .ok (.iload_n 1, 1) := by decide +kernel
theorem dX10_sets_6 : decode cX10_sets 6 = .ok (.i2l, 1) := by decide +kernel
theorem dX10_sets_7 : decode cX10_sets 7 = .ok (.lconst 0, 1) := by decide +kernel
theorem dX10_sets_8 : decode cX10_sets 8 = .ok (.lconst 1, 1) := by decide +kernel
theorem dX10_sets_9 : decode cX10_sets 9 = .ok (.invokestatic 29, 3) := by decide +kernel
theorem dX10_sets_12 : decode cX10_sets 12 = .ok (.ifCond .eq 35, 3) := by decide +kernel
theorem dX10_sets_15 : decode cX10_sets 15 = .ok (.iload_n 2, 1) := by decide +kernel
theorem dX10_sets_16 : decode cX10_sets 16 = .ok (.i2l, 1) := by decide +kernel
theorem dX10_sets_17 : decode cX10_sets 17 = .ok (.iload_n 1, 1) := by decide +kernel
theorem dX10_sets_18 : decode cX10_sets 18 = .ok (.ifCond .ne 7, 3) := by decide +kernel
theorem dX10_sets_21 : decode cX10_sets 21 = .ok (.lconst 1, 1) := by decide +kernel
theorem dX10_sets_22 : decode cX10_sets 22 = .ok (.goto 6, 3) := by decide +kernel
theorem dX10_sets_25 : decode cX10_sets 25 = .ok (.ldc2_w 125, 3) := by decide +kernel
theorem dX10_sets_28 : decode cX10_sets 28 = .ok (.iload_n 1, 1) := by decide +kernel
theorem dX10_sets_29 : decode cX10_sets 29 = .ok (.ifCond .ne 9, 3) := by decide +kernel
theorem dX10_sets_32 : decode cX10_sets 32 = .ok (.ldc2_w 154, 3) := by decide +kernel
theorem dX10_sets_35 : decode cX10_sets 35 = .ok (.goto 6, 3) := by decide +kernel
theorem dX10_sets_38 : decode cX10_sets 38 = .ok (.ldc2_w 152, 3) := by decide +kernel
theorem dX10_sets_41 : decode cX10_sets 41 = .ok (.invokestatic 29, 3) := by decide +kernel
theorem dX10_sets_44 : decode cX10_sets 44 = .ok (.ifCond .ne 5, 3) := by decide +kernel
theorem dX10_sets_47 : decode cX10_sets 47 = .ok (.iconst (-1), 1) := by decide +kernel
theorem dX10_sets_48 : decode cX10_sets 48 = .ok (.ireturn, 1) := by decide +kernel
theorem dX10_sets_49 : decode cX10_sets 49 = .ok (.aload_n 0, 1) := by decide +kernel
theorem dX10_sets_50 : decode cX10_sets 50 = .ok (.getfield 68, 3) := by decide +kernel
theorem dX10_sets_53 : decode cX10_sets 53 = .ok (.iload_n 1, 1) := by decide +kernel
theorem dX10_sets_54 : decode cX10_sets 54 = .ok (.iaload, 1) := by decide +kernel
theorem dX10_sets_55 : decode cX10_sets 55 = .ok (.istore_n 3, 1) := by decide +kernel
theorem dX10_sets_56 : decode cX10_sets 56 = .ok (.iload_n 3, 1) := by decide +kernel
theorem dX10_sets_57 : decode cX10_sets 57 = .ok (.iload_n 2, 1) := by decide +kernel
theorem dX10_sets_58 : decode cX10_sets 58 = .ok (.if_icmp .ne 6, 3) := by decide +kernel
theorem dX10_sets_61 : decode cX10_sets 61 = .ok (.bipush (-2), 2) := by decide +kernel
theorem dX10_sets_63 : decode cX10_sets 63 = .ok (.ireturn, 1) := by decide +kernel
theorem dX10_sets_64 : decode cX10_sets 64 = .ok (.aload_n 0, 1) := by decide +kernel
theorem dX10_sets_65 : decode cX10_sets 65 = .ok (.iconst 0, 1) := by decide +kernel
theorem dX10_sets_66 : decode cX10_sets 66 = .ok (.iconst 4, 1) := by decide +kernel
theorem dX10_sets_67 : decode cX10_sets 67 = .ok (.invokevirtual 118, 3) := by decide +kernel
theorem dX10_sets_70 : decode cX10_sets 70 = .ok (.aload_n 0, 1) := by decide +kernel
theorem dX10_sets_71 : decode cX10_sets 71 = .ok (.getfield 68, 3) := by decide +kernel
theorem dX10_sets_74 : decode cX10_sets 74 = .ok (.sipush 244, 3) := by decide +kernel
theorem dX10_sets_77 : decode cX10_sets 77 = .ok (.iload_n 1, 1) := by decide +kernel
theorem dX10_sets_78 : decode cX10_sets 78 = .ok (.iadd, 1) := by decide +kernel
theorem dX10_sets_79 : decode cX10_sets 79 = .ok (.iload_n 2, 1) := by decide +kernel
theorem dX10_sets_80 : decode cX10_sets 80 = .ok (.iastore, 1) := by decide +kernel
theorem dX10_sets_81 : decode cX10_sets 81 = .ok (.aload_n 0, 1) := by decide +kernel
theorem dX10_sets_82 : decode cX10_sets 82 = .ok (.iload_n 3, 1) := by decide +kernel
theorem dX10_sets_83 : decode cX10_sets 83 = .ok (.invokevirtual 144, 3) := by decide +kernel
theorem dX10_sets_86 : decode cX10_sets 86 = .ok (.ireturn, 1) := by decide +kernel
set_option maxRecDepth 20000 in
set_option maxHeartbeats 2000000 in
theorem V_X10_sets_0 {X : Ctx} (C : C_X10_sets X) {k n : Nat} {Q : Pq} {h : Hp} {v0 : Nat} {v1 v2 : Int32}
    (hv : St10 h v0 ∧ (((btL (Int32.toInt64 v1) 0 1) = 0 → Q (some (.int (-1))) (si h v0 0 0)) ∧
    (¬ (btL (Int32.toInt64 v1) 0 1) = 0 → ((¬ v1 = 0 → ((¬ v1 = 0 → Wj X k n Q 41 [(0, .ref v0), (1, .int v1), (2, .int v2)] [.long 100, .long 10, .long (Int32.toInt64 v2)] (si h v0 0 0)) ∧
    (v1 = 0 → Wj X k n Q 41 [(0, .ref v0), (1, .int v1), (2, .int v2)] [.long 120, .long 10, .long (Int32.toInt64 v2)] (si h v0 0 0)))) ∧
    (v1 = 0 → ((¬ v1 = 0 → Wj X k n Q 41 [(0, .ref v0), (1, .int v1), (2, .int v2)] [.long 100, .long 1, .long (Int32.toInt64 v2)] (si h v0 0 0)) ∧
    (v1 = 0 → Wj X k n Q 41 [(0, .ref v0), (1, .int v1), (2, .int v2)] [.long 120, .long 1, .long (Int32.toInt64 v2)] (si h v0 0 0)))))))) :
    Wj X k n Q 0 [(0, .ref v0), (1, .int v1), (2, .int v2)] [] h := by
  refine w_aload_n (pc := 0) C dX10_sets_0 rfl ?_
  refine w_iconst (pc := 1) C (v := 0) dX10_sets_1 (by decide) ?_
  obtain ⟨f1, hv⟩ := hv
  refine w_putI (pc := 2) C fl_X10_1 rfl rfl dX10_sets_2 (St10_k f1) ?_
  refine w_iload_n (pc := 5) C dX10_sets_5 rfl ?_
  refine w_i2l (pc := 6) C dX10_sets_6 ?_
  refine w_lconst (pc := 7) C (v := 0) dX10_sets_7 (by decide) ?_
  refine w_lconst (pc := 8) C (v := 1) dX10_sets_8 (by decide) ?_
  refine w_cS0_3 (pc := 9) C cl_X10_29 ls_X10_in (by decide) dX10_sets_9 (Nat.le_of_ble_eq_true rfl) ((sf_X10_in (h := (si h v0 0 0)) ).mono (fun v h9 hp => ?_))
  obtain ⟨e1, e2⟩ := hp
  rw [e1, e2]
  refine w_if_eq (pc := 12) C (tgt := 47) dX10_sets_12 (by decide) ?_
  obtain ⟨hv1, hv2⟩ := hv
  refine ⟨fun c5 => ?_, fun c5 => ?_⟩
  · have hv := hv1 c5
    refine w_iconst (pc := 47) C (v := (-1)) dX10_sets_47 (by decide) ?_
    exact w_iret (pc := 48) C dX10_sets_48 hv
  · have hv := hv2 c5
    refine w_iload_n (pc := 15) C dX10_sets_15 rfl ?_
    refine w_i2l (pc := 16) C dX10_sets_16 ?_
    refine w_iload_n (pc := 17) C dX10_sets_17 rfl ?_
    refine w_if_ne (pc := 18) C (tgt := 25) dX10_sets_18 (by decide) ?_
    obtain ⟨hv1, hv2⟩ := hv
    refine ⟨fun c4 => ?_, fun c4 => ?_⟩
    · have hv := hv1 c4
      refine w_ldc2 (pc := 25) C ctl_X10_125 dX10_sets_25 ?_
      refine w_iload_n (pc := 28) C dX10_sets_28 rfl ?_
      refine w_if_ne (pc := 29) C (tgt := 38) dX10_sets_29 (by decide) ?_
      obtain ⟨hv1, hv2⟩ := hv
      refine ⟨fun c2 => ?_, fun c2 => ?_⟩
      · have hv := hv1 c2
        refine w_ldc2 (pc := 38) C ctl_X10_152 dX10_sets_38 ?_
        refine w_sub ?_ hv
        exact ⟨rfl, rfl, rfl, trivial⟩
      · have hv := hv2 c2
        refine w_ldc2 (pc := 32) C ctl_X10_154 dX10_sets_32 ?_
        refine w_goto (pc := 35) C (tgt := 41) dX10_sets_35 (by decide) ?_
        refine w_sub ?_ hv
        exact ⟨rfl, rfl, rfl, trivial⟩
    · have hv := hv2 c4
      refine w_lconst (pc := 21) C (v := 1) dX10_sets_21 (by decide) ?_
      refine w_goto (pc := 22) C (tgt := 28) dX10_sets_22 (by decide) ?_
      refine w_iload_n (pc := 28) C dX10_sets_28 rfl ?_
      refine w_if_ne (pc := 29) C (tgt := 38) dX10_sets_29 (by decide) ?_
      obtain ⟨hv1, hv2⟩ := hv
      refine ⟨fun c3 => ?_, fun c3 => ?_⟩
      · have hv := hv1 c3
        refine w_ldc2 (pc := 38) C ctl_X10_152 dX10_sets_38 ?_
        refine w_sub ?_ hv
        exact ⟨rfl, rfl, rfl, trivial⟩
      · have hv := hv2 c3
        refine w_ldc2 (pc := 32) C ctl_X10_154 dX10_sets_32 ?_
        refine w_goto (pc := 35) C (tgt := 41) dX10_sets_35 (by decide) ?_
        refine w_sub ?_ hv
        exact ⟨rfl, rfl, rfl, trivial⟩
set_option maxRecDepth 20000 in
set_option maxHeartbeats 2000000 in
theorem V_X10_sets_41 {X : Ctx} (C : C_X10_sets X) {k n : Nat} {Q : Pq} {h : Hp} {v0 : Nat} {v1 v2 : Int32} {s0 s1 s2 : Int64}
    (hv : ((¬ (btL s0 s1 s2) = 0 → St10 h v0 ∧ inb v1 732 ∧ ((¬ (gi h (v0 + 3) (ix v1)) = v2 → S_X10_copies (lX X) (dtX X) 0 0 [.ref v0, .int 0, .int 4] h (QV fun h3 =>
    St10 h3 v0 ∧ inb (244 + v1) 732 ∧ S_X10_putsRead (lX X) (dtX X) 0 0 [.ref v0, .int (gi h (v0 + 3) (ix v1))] (si h3 (v0 + 3) (ix (244 + v1)) v2) (QI fun x7 h6 =>
    Q (some (.int x7)) h6))) ∧
    ((gi h (v0 + 3) (ix v1)) = v2 → Q (some (.int (-2))) h))) ∧
    ((btL s0 s1 s2) = 0 → Q (some (.int (-1))) h))) :
    Wj X k n Q 41 [(0, .ref v0), (1, .int v1), (2, .int v2)] [.long s2, .long s1, .long s0] h := by
  refine w_cS0_3 (pc := 41) C cl_X10_29 ls_X10_in (by decide) dX10_sets_41 (Nat.le_of_ble_eq_true rfl) ((sf_X10_in (h := h) ).mono (fun v h9 hp => ?_))
  obtain ⟨e1, e2⟩ := hp
  rw [e1, e2]
  refine w_if_ne (pc := 44) C (tgt := 49) dX10_sets_44 (by decide) ?_
  obtain ⟨hv1, hv2⟩ := hv
  refine ⟨fun c9 => ?_, fun c9 => ?_⟩
  · have hv := hv1 c9
    refine w_aload_n (pc := 49) C dX10_sets_49 rfl ?_
    obtain ⟨f1, hv⟩ := hv
    refine w_getR (pc := 50) C fl_X10_68 rfl dX10_sets_50 (St10_k f1) (St10_r7 f1) ?_
    refine w_iload_n (pc := 53) C dX10_sets_53 rfl ?_
    obtain ⟨f2, hv⟩ := hv
    refine w_iald (pc := 54) C dX10_sets_54 (St10_k7 f1) (inbl (St10_l7 f1) f2) ?_
    refine w_istore_n (pc := 55) C dX10_sets_55 (by decide) ?_
    refine w_iload_n (pc := 56) C dX10_sets_56 rfl ?_
    refine w_iload_n (pc := 57) C dX10_sets_57 rfl ?_
    refine w_icmp_ne (pc := 58) C (tgt := 64) dX10_sets_58 (by decide) ?_
    obtain ⟨hv1, hv2⟩ := hv
    refine ⟨fun c8 => ?_, fun c8 => ?_⟩
    · have hv := hv1 c8
      refine w_aload_n (pc := 64) C dX10_sets_64 rfl ?_
      refine w_iconst (pc := 65) C (v := 0) dX10_sets_65 (by decide) ?_
      refine w_iconst (pc := 66) C (v := 4) dX10_sets_66 (by decide) ?_
      refine w_cV0_2 (pc := 67) C cl_X10_118 lv_X10_copies (by decide) dX10_sets_67 (Nat.le_of_ble_eq_true rfl) (c := 10) rfl (St10_k f1) (hv.mono (fun v h3 hp => ?_))
      obtain ⟨rfl, hv⟩ := hp
      refine w_aload_n (pc := 70) C dX10_sets_70 rfl ?_
      obtain ⟨f4, hv⟩ := hv
      refine w_getR (pc := 71) C fl_X10_68 rfl dX10_sets_71 (St10_k f4) (St10_r7 f4) ?_
      refine w_sipush (pc := 74) C (v := 244) dX10_sets_74 (by decide) ?_
      refine w_iload_n (pc := 77) C dX10_sets_77 rfl ?_
      refine w_iadd (pc := 78) C dX10_sets_78 ?_
      refine w_iload_n (pc := 79) C dX10_sets_79 rfl ?_
      obtain ⟨f5, hv⟩ := hv
      refine w_iast (pc := 80) C dX10_sets_80 (St10_k7 f4) (inbl (St10_l7 f4) f5) ?_
      refine w_aload_n (pc := 81) C dX10_sets_81 rfl ?_
      refine w_iload_n (pc := 82) C dX10_sets_82 rfl ?_
      refine w_cV0_1 (pc := 83) C cl_X10_144 lv_X10_putsRead (by decide) dX10_sets_83 (Nat.le_of_ble_eq_true rfl) (c := 10) rfl (St10_k f4) (hv.mono (fun v h6 hp => ?_))
      obtain ⟨x7, rfl, hv⟩ := hp
      exact w_iret (pc := 86) C dX10_sets_86 hv
    · have hv := hv2 c8
      refine w_bipush (pc := 61) C (v := (-2)) dX10_sets_61 (by decide) ?_
      exact w_iret (pc := 63) C dX10_sets_63 hv
  · have hv := hv2 c9
    refine w_iconst (pc := 47) C (v := (-1)) dX10_sets_47 (by decide) ?_
    exact w_iret (pc := 48) C dX10_sets_48 hv
theorem dX10_circle_0 : decode cX10_circle 0 = .ok (.aload_n 0, 1) := by decide +kernel
theorem dX10_circle_1 : decode cX10_circle 1 = .ok (.iload_n 1, 1) := by decide +kernel
theorem dX10_circle_2 : decode cX10_circle 2 = .ok (.i2l, 1) := by decide +kernel
theorem dX10_circle_3 : decode cX10_circle 3 = .ok (.lconst 0, 1) := by decide +kernel
theorem dX10_circle_4 : decode cX10_circle 4 = .ok (.aload_n 0, 1) := by decide +kernel
theorem dX10_circle_5 : decode cX10_circle 5 = .ok (.invokevirtual 156, 3) := by decide +kernel
theorem dX10_circle_8 : decode cX10_circle 8 = .ok (.iconst 1, 1) := by decide +kernel
theorem dX10_circle_9 : decode cX10_circle 9 = .ok (.isub, 1) := by decide +kernel
theorem dX10_circle_10 : decode cX10_circle 10 = .ok (.i2l, 1) := by decide +kernel
theorem dX10_circle_11 : decode cX10_circle 11 = .ok (.invokestatic 29, 3) := by decide +kernel
theorem dX10_circle_14 : decode cX10_circle 14 = .ok (.ifCond .ne 7, 3) := by decide +kernel
theorem dX10_circle_17 : decode cX10_circle 17 = .ok (.iconst 1, 1) := by decide +kernel
theorem dX10_circle_18 : decode cX10_circle 18 = .ok (.goto 4, 3) := by decide +kernel
theorem dX10_circle_21 : decode cX10_circle 21 = .ok (.iconst 0, 1) := by decide +kernel
theorem dX10_circle_22 : decode cX10_circle 22 = .ok (.invokestatic 39, 3) := by decide +kernel
theorem dX10_circle_25 : decode cX10_circle 25 = .ok (.putfield 1, 3) := by decide +kernel
theorem dX10_circle_28 : decode cX10_circle 28 = .ok (.aload_n 0, 1) := by decide +kernel
theorem dX10_circle_29 : decode cX10_circle 29 = .ok (.getfield 1, 3) := by decide +kernel
theorem dX10_circle_32 : decode cX10_circle 32 = .ok (.iconst 1, 1) := by decide +kernel
theorem dX10_circle_33 : decode cX10_circle 33 = .ok (.if_icmp .ne 5, 3) := by decide +kernel
theorem dX10_circle_36 : decode cX10_circle 36 = .ok (.iconst 0, 1) := by decide +kernel
theorem dX10_circle_37 : decode cX10_circle 37 = .ok (.ireturn, 1) := by decide +kernel
theorem dX10_circle_38 : decode cX10_circle 38 = .ok (.aload_n 0, 1) := by decide +kernel
theorem dX10_circle_39 : decode cX10_circle 39 = .ok (.iconst 0, 1) := by decide +kernel
theorem dX10_circle_40 : decode cX10_circle 40 = .ok (.putfield 11, 3) := by decide +kernel
theorem dX10_circle_43 : decode cX10_circle 43 = .ok (.aload_n 0, 1) := by decide +kernel
theorem dX10_circle_44 : decode cX10_circle 44 = .ok (.aload_n 0, 1) := by decide +kernel
theorem dX10_circle_45 : decode cX10_circle 45 = .ok (.getfield 68, 3) := by decide +kernel
theorem dX10_circle_48 : decode cX10_circle 48 = .ok (.iconst 5, 1) := by decide +kernel
theorem dX10_circle_49 : decode cX10_circle 49 = .ok (.iload_n 1, 1) := by decide +kernel
theorem dX10_circle_50 : decode cX10_circle 50 = .ok (.iadd, 1) := by decide +kernel
theorem dX10_circle_51 : decode cX10_circle 51 = .ok (.iaload, 1) := by decide +kernel
theorem dX10_circle_52 : decode cX10_circle 52 = .ok (.i2l, 1) := by decide +kernel
theorem dX10_circle_53 : decode cX10_circle 53 = .ok (.invokevirtual 18, 3) := by decide +kernel
theorem dX10_circle_56 : decode cX10_circle 56 = .ok (.aload_n 0, 1) := by decide +kernel
theorem dX10_circle_57 : decode cX10_circle 57 = .ok (.iload_n 1, 1) := by decide +kernel
theorem dX10_circle_58 : decode cX10_circle 58 = .ok (.invokevirtual 159, 3) := by decide +kernel
theorem dX10_circle_61 : decode cX10_circle 61 = .ok (.ireturn, 1) := by decide +kernel
set_option maxRecDepth 20000 in
set_option maxHeartbeats 2000000 in
theorem V_X10_circle_0 {X : Ctx} (C : C_X10_circle X) {k n : Nat} {Q : Pq} {h : Hp} {v0 : Nat} {v1 : Int32}
    (hv : St10 h v0 ∧ ((¬ (btL (Int32.toInt64 v1) 0 (Int32.toInt64 ((gi h (v0 + 3) (ix 3)) - 1))) = 0 → Wj X k n Q 22 [(0, .ref v0), (1, .int v1)] [.int 0, .ref v0] h) ∧
    ((btL (Int32.toInt64 v1) 0 (Int32.toInt64 ((gi h (v0 + 3) (ix 3)) - 1))) = 0 → Wj X k n Q 22 [(0, .ref v0), (1, .int v1)] [.int 1, .ref v0] h))) :
    Wj X k n Q 0 [(0, .ref v0), (1, .int v1)] [] h := by
  refine w_aload_n (pc := 0) C dX10_circle_0 rfl ?_
  refine w_iload_n (pc := 1) C dX10_circle_1 rfl ?_
  refine w_i2l (pc := 2) C dX10_circle_2 ?_
  refine w_lconst (pc := 3) C (v := 0) dX10_circle_3 (by decide) ?_
  refine w_aload_n (pc := 4) C dX10_circle_4 rfl ?_
  obtain ⟨f1, hv⟩ := hv
  refine w_cV0_0 (pc := 5) C cl_X10_156 lv_X10_circles (by decide) dX10_circle_5 (Nat.le_of_ble_eq_true rfl) (c := 10) rfl (St10_k f1) ((sf_X10_circles (h := h) f1).mono (fun v h9 hp => ?_))
  obtain ⟨e1, e2⟩ := hp
  rw [e1, e2]
  refine w_iconst (pc := 8) C (v := 1) dX10_circle_8 (by decide) ?_
  refine w_isub (pc := 9) C dX10_circle_9 ?_
  refine w_i2l (pc := 10) C dX10_circle_10 ?_
  refine w_cS0_3 (pc := 11) C cl_X10_29 ls_X10_in (by decide) dX10_circle_11 (Nat.le_of_ble_eq_true rfl) ((sf_X10_in (h := h) ).mono (fun v h9 hp => ?_))
  obtain ⟨e1, e2⟩ := hp
  rw [e1, e2]
  refine w_if_ne (pc := 14) C (tgt := 21) dX10_circle_14 (by decide) ?_
  obtain ⟨hv1, hv2⟩ := hv
  refine ⟨fun c2 => ?_, fun c2 => ?_⟩
  · have hv := hv1 c2
    refine w_iconst (pc := 21) C (v := 0) dX10_circle_21 (by decide) ?_
    refine w_sub ?_ hv
    exact ⟨rfl, rfl, trivial⟩
  · have hv := hv2 c2
    refine w_iconst (pc := 17) C (v := 1) dX10_circle_17 (by decide) ?_
    refine w_goto (pc := 18) C (tgt := 22) dX10_circle_18 (by decide) ?_
    refine w_sub ?_ hv
    exact ⟨rfl, rfl, trivial⟩
set_option maxRecDepth 20000 in
set_option maxHeartbeats 2000000 in
theorem V_X10_circle_22 {X : Ctx} (C : C_X10_circle X) {k n : Nat} {Q : Pq} {h : Hp} {v0 s0 : Nat} {v1 s1 : Int32}
    (hv : St10 h s0 ∧ St10 h v0 ∧ ((¬ (gi (si h s0 0 (flg s1)) v0 0) = 1 → inb (5 + v1) 732 ∧ S_X10_enters (lX X) (dtX X) 0 0 [.ref v0, .long (Int32.toInt64 (gi (si (si h s0 0 (flg s1)) v0 1 0) (v0 + 3) (ix (5 + v1))))] (si (si h s0 0 (flg s1)) v0 1 0) (QV fun h4 =>
    St10 h4 v0 ∧ inb (23 + v1) 732 ∧ Q (some (.int (gi h4 (v0 + 3) (ix (23 + v1))))) h4)) ∧
    ((gi (si h s0 0 (flg s1)) v0 0) = 1 → Q (some (.int 0)) (si h s0 0 (flg s1))))) :
    Wj X k n Q 22 [(0, .ref v0), (1, .int v1)] [.int s1, .ref s0] h := by
  refine w_cS0_1 (pc := 22) C cl_X10_39 ls_X10_flag (by decide) dX10_circle_22 (Nat.le_of_ble_eq_true rfl) ((sf_X10_flag (h := h) ).mono (fun v h9 hp => ?_))
  obtain ⟨e1, e2⟩ := hp
  rw [e1, e2]
  obtain ⟨f1, hv⟩ := hv
  refine w_putI (pc := 25) C fl_X10_1 rfl rfl dX10_circle_25 (St10_k f1) ?_
  refine w_aload_n (pc := 28) C dX10_circle_28 rfl ?_
  obtain ⟨f2, hv⟩ := hv
  refine w_getI (pc := 29) C fl_X10_1 rfl dX10_circle_29 (St10_k f2) ?_
  refine w_iconst (pc := 32) C (v := 1) dX10_circle_32 (by decide) ?_
  refine w_icmp_ne (pc := 33) C (tgt := 38) dX10_circle_33 (by decide) ?_
  obtain ⟨hv1, hv2⟩ := hv
  refine ⟨fun c7 => ?_, fun c7 => ?_⟩
  · have hv := hv1 c7
    refine w_aload_n (pc := 38) C dX10_circle_38 rfl ?_
    refine w_iconst (pc := 39) C (v := 0) dX10_circle_39 (by decide) ?_
    refine w_putI (pc := 40) C fl_X10_11 rfl rfl dX10_circle_40 (St10_k f2) ?_
    refine w_aload_n (pc := 43) C dX10_circle_43 rfl ?_
    refine w_aload_n (pc := 44) C dX10_circle_44 rfl ?_
    refine w_getR (pc := 45) C fl_X10_68 rfl dX10_circle_45 (St10_k f2) (St10_r7 f2) ?_
    refine w_iconst (pc := 48) C (v := 5) dX10_circle_48 (by decide) ?_
    refine w_iload_n (pc := 49) C dX10_circle_49 rfl ?_
    refine w_iadd (pc := 50) C dX10_circle_50 ?_
    obtain ⟨f3, hv⟩ := hv
    refine w_iald (pc := 51) C dX10_circle_51 (St10_k7 f2) (inbl (St10_l7 f2) f3) ?_
    refine w_i2l (pc := 52) C dX10_circle_52 ?_
    refine w_cV0_1 (pc := 53) C cl_X10_18 lv_X10_enters (by decide) dX10_circle_53 (Nat.le_of_ble_eq_true rfl) (c := 10) rfl (St10_k f2) (hv.mono (fun v h4 hp => ?_))
    obtain ⟨rfl, hv⟩ := hp
    refine w_aload_n (pc := 56) C dX10_circle_56 rfl ?_
    refine w_iload_n (pc := 57) C dX10_circle_57 rfl ?_
    obtain ⟨f5, hv⟩ := hv
    obtain ⟨f6, hv⟩ := hv
    refine w_cV0_1 (pc := 58) C cl_X10_159 lv_X10_holes (by decide) dX10_circle_58 (Nat.le_of_ble_eq_true rfl) (c := 10) rfl (St10_k f5) ((sf_X10_holes (h := h4) f5 f6).mono (fun v h9 hp => ?_))
    obtain ⟨e1, e2⟩ := hp
    rw [e1, e2]
    exact w_iret (pc := 61) C dX10_circle_61 hv
  · have hv := hv2 c7
    refine w_iconst (pc := 36) C (v := 0) dX10_circle_36 (by decide) ?_
    exact w_iret (pc := 37) C dX10_circle_37 hv
theorem dX10_gear_0 : decode cX10_gear 0 = .ok (.aload_n 0, 1) := by decide +kernel
theorem dX10_gear_1 : decode cX10_gear 1 = .ok (.iload_n 1, 1) := by decide +kernel
theorem dX10_gear_2 : decode cX10_gear 2 = .ok (.i2l, 1) := by decide +kernel
theorem dX10_gear_3 : decode cX10_gear 3 = .ok (.lconst 0, 1) := by decide +kernel
theorem dX10_gear_4 : decode cX10_gear 4 = .ok (.aload_n 0, 1) := by decide +kernel
theorem dX10_gear_5 : decode cX10_gear 5 = .ok (.invokevirtual 162, 3) := by decide +kernel
theorem dX10_gear_8 : decode cX10_gear 8 = .ok (.iconst 1, 1) := by decide +kernel
theorem dX10_gear_9 : decode cX10_gear 9 = .ok (.isub, 1) := by decide +kernel
theorem dX10_gear_10 : decode cX10_gear 10 = .ok (.i2l, 1) := by decide +kernel
theorem dX10_gear_11 : decode cX10_gear 11 = .ok (.invokestatic 29, 3) := by decide +kernel
theorem dX10_gear_14 : decode cX10_gear 14 = .ok (.ifCond .ne 7, 3) := by decide +kernel
theorem dX10_gear_17 : decode cX10_gear 17 = .ok (.iconst 1, 1) := by decide +kernel
theorem dX10_gear_18 : decode cX10_gear 18 = .ok (.goto 4, 3) := by decide +kernel
theorem dX10_gear_21 : decode cX10_gear 21 = .ok (.iconst 0, 1) := by decide +kernel
theorem dX10_gear_22 : decode cX10_gear 22 = .ok (.invokestatic 39, 3) := by decide +kernel
theorem dX10_gear_25 : decode cX10_gear 25 = .ok (.putfield 1, 3) := by decide +kernel
theorem dX10_gear_28 : decode cX10_gear 28 = .ok (.aload_n 0, 1) := by decide +kernel
theorem dX10_gear_29 : decode cX10_gear 29 = .ok (.getfield 1, 3) := by decide +kernel
theorem dX10_gear_32 : decode cX10_gear 32 = .ok (.iconst 1, 1) := by decide +kernel
theorem dX10_gear_33 : decode cX10_gear 33 = .ok (.if_icmp .ne 7, 3) := by decide +kernel
theorem dX10_gear_36 : decode cX10_gear 36 = .ok (.iconst 0, 1) := by decide +kernel
theorem dX10_gear_37 : decode cX10_gear 37 = .ok (.goto 8, 3) := by decide +kernel
theorem dX10_gear_40 : decode cX10_gear 40 = .ok (.aload_n 0, 1) := by decide +kernel
theorem dX10_gear_41 : decode cX10_gear 41 = .ok (.iload_n 1, 1) := by decide +kernel
theorem dX10_gear_42 : decode cX10_gear 42 = .ok (.invokevirtual 165, 3) := by decide +kernel
theorem dX10_gear_45 : decode cX10_gear 45 = .ok (.ireturn, 1) := by decide +kernel
set_option maxRecDepth 20000 in
set_option maxHeartbeats 2000000 in
theorem V_X10_gear_0 {X : Ctx} (C : C_X10_gear X) {k n : Nat} {Q : Pq} {h : Hp} {v0 : Nat} {v1 : Int32}
    (hv : St10 h v0 ∧ ((¬ (btL (Int32.toInt64 v1) 0 (Int32.toInt64 ((gi h (v0 + 3) (ix 4)) - 1))) = 0 → Wj X k n Q 22 [(0, .ref v0), (1, .int v1)] [.int 0, .ref v0] h) ∧
    ((btL (Int32.toInt64 v1) 0 (Int32.toInt64 ((gi h (v0 + 3) (ix 4)) - 1))) = 0 → Wj X k n Q 22 [(0, .ref v0), (1, .int v1)] [.int 1, .ref v0] h))) :
    Wj X k n Q 0 [(0, .ref v0), (1, .int v1)] [] h := by
  refine w_aload_n (pc := 0) C dX10_gear_0 rfl ?_
  refine w_iload_n (pc := 1) C dX10_gear_1 rfl ?_
  refine w_i2l (pc := 2) C dX10_gear_2 ?_
  refine w_lconst (pc := 3) C (v := 0) dX10_gear_3 (by decide) ?_
  refine w_aload_n (pc := 4) C dX10_gear_4 rfl ?_
  obtain ⟨f1, hv⟩ := hv
  refine w_cV0_0 (pc := 5) C cl_X10_162 lv_X10_gearMany (by decide) dX10_gear_5 (Nat.le_of_ble_eq_true rfl) (c := 10) rfl (St10_k f1) ((sf_X10_gearMany (h := h) f1).mono (fun v h9 hp => ?_))
  obtain ⟨e1, e2⟩ := hp
  rw [e1, e2]
  refine w_iconst (pc := 8) C (v := 1) dX10_gear_8 (by decide) ?_
  refine w_isub (pc := 9) C dX10_gear_9 ?_
  refine w_i2l (pc := 10) C dX10_gear_10 ?_
  refine w_cS0_3 (pc := 11) C cl_X10_29 ls_X10_in (by decide) dX10_gear_11 (Nat.le_of_ble_eq_true rfl) ((sf_X10_in (h := h) ).mono (fun v h9 hp => ?_))
  obtain ⟨e1, e2⟩ := hp
  rw [e1, e2]
  refine w_if_ne (pc := 14) C (tgt := 21) dX10_gear_14 (by decide) ?_
  obtain ⟨hv1, hv2⟩ := hv
  refine ⟨fun c2 => ?_, fun c2 => ?_⟩
  · have hv := hv1 c2
    refine w_iconst (pc := 21) C (v := 0) dX10_gear_21 (by decide) ?_
    refine w_sub ?_ hv
    exact ⟨rfl, rfl, trivial⟩
  · have hv := hv2 c2
    refine w_iconst (pc := 17) C (v := 1) dX10_gear_17 (by decide) ?_
    refine w_goto (pc := 18) C (tgt := 22) dX10_gear_18 (by decide) ?_
    refine w_sub ?_ hv
    exact ⟨rfl, rfl, trivial⟩
set_option maxRecDepth 20000 in
set_option maxHeartbeats 2000000 in
theorem V_X10_gear_22 {X : Ctx} (C : C_X10_gear X) {k n : Nat} {Q : Pq} {h : Hp} {v0 s0 : Nat} {v1 s1 : Int32}
    (hv : St10 h s0 ∧ St10 h v0 ∧ ((¬ (gi (si h s0 0 (flg s1)) v0 0) = 1 → inb (41 + v1) 732 ∧ Q (some (.int (gi (si h s0 0 (flg s1)) (v0 + 3) (ix (41 + v1))))) (si h s0 0 (flg s1))) ∧
    ((gi (si h s0 0 (flg s1)) v0 0) = 1 → Q (some (.int 0)) (si h s0 0 (flg s1))))) :
    Wj X k n Q 22 [(0, .ref v0), (1, .int v1)] [.int s1, .ref s0] h := by
  refine w_cS0_1 (pc := 22) C cl_X10_39 ls_X10_flag (by decide) dX10_gear_22 (Nat.le_of_ble_eq_true rfl) ((sf_X10_flag (h := h) ).mono (fun v h9 hp => ?_))
  obtain ⟨e1, e2⟩ := hp
  rw [e1, e2]
  obtain ⟨f1, hv⟩ := hv
  refine w_putI (pc := 25) C fl_X10_1 rfl rfl dX10_gear_25 (St10_k f1) ?_
  refine w_aload_n (pc := 28) C dX10_gear_28 rfl ?_
  obtain ⟨f2, hv⟩ := hv
  refine w_getI (pc := 29) C fl_X10_1 rfl dX10_gear_29 (St10_k f2) ?_
  refine w_iconst (pc := 32) C (v := 1) dX10_gear_32 (by decide) ?_
  refine w_icmp_ne (pc := 33) C (tgt := 40) dX10_gear_33 (by decide) ?_
  obtain ⟨hv1, hv2⟩ := hv
  refine ⟨fun c4 => ?_, fun c4 => ?_⟩
  · have hv := hv1 c4
    refine w_aload_n (pc := 40) C dX10_gear_40 rfl ?_
    refine w_iload_n (pc := 41) C dX10_gear_41 rfl ?_
    obtain ⟨f3, hv⟩ := hv
    refine w_cV0_1 (pc := 42) C cl_X10_165 lv_X10_teeth (by decide) dX10_gear_42 (Nat.le_of_ble_eq_true rfl) (c := 10) rfl (St10_k f2) ((sf_X10_teeth (h := (si h s0 0 (flg s1))) f2 f3).mono (fun v h9 hp => ?_))
    obtain ⟨e1, e2⟩ := hp
    rw [e1, e2]
    exact w_iret (pc := 45) C dX10_gear_45 hv
  · have hv := hv2 c4
    refine w_iconst (pc := 36) C (v := 0) dX10_gear_36 (by decide) ?_
    refine w_goto (pc := 37) C (tgt := 45) dX10_gear_37 (by decide) ?_
    exact w_iret (pc := 45) C dX10_gear_45 hv
theorem dX10_count_0 : decode cX10_count 0 = .ok (.aload_n 0, 1) := by decide +kernel
theorem dX10_count_1 : decode cX10_count 1 = .ok (.iconst 0, 1) := by decide +kernel
theorem dX10_count_2 : decode cX10_count 2 = .ok (.putfield 1, 3) := by decide +kernel
theorem dX10_count_5 : decode cX10_count 5 = .ok (.iload_n 1, 1) := by decide +kernel
theorem dX10_count_6 : decode cX10_count 6 = .ok (.tableswitch 123 0 10 #[58, 63, 70, 75, 80, 88, 96, 101, 106, 111, 116], 58) := by decide +kernel
theorem dX10_count_64 : decode cX10_count 64 = .ok (.aload_n 0, 1) := by decide +kernel
theorem dX10_count_65 : decode cX10_count 65 = .ok (.invokevirtual 168, 3) := by decide +kernel
theorem dX10_count_68 : decode cX10_count 68 = .ok (.ireturn, 1) := by decide +kernel
theorem dX10_count_69 : decode cX10_count 69 = .ok (.aload_n 0, 1) := by decide +kernel
theorem dX10_count_70 : decode cX10_count 70 = .ok (.getfield 68, 3) := by decide +kernel
theorem dX10_count_73 : decode cX10_count 73 = .ok (.iconst 1, 1) := by decide +kernel
theorem dX10_count_74 : decode cX10_count 74 = .ok (.iaload, 1) := by decide +kernel
theorem dX10_count_75 : decode cX10_count 75 = .ok (.ireturn, 1) := by decide +kernel
theorem dX10_count_76 : decode cX10_count 76 = .ok (.aload_n 0, 1) := by decide +kernel
theorem dX10_count_77 : decode cX10_count 77 = .ok (.invokevirtual 156, 3) := by decide +kernel
theorem dX10_count_80 : decode cX10_count 80 = .ok (.ireturn, 1) := by decide +kernel
theorem dX10_count_81 : decode cX10_count 81 = .ok (.aload_n 0, 1) := by decide +kernel
theorem dX10_count_82 : decode cX10_count 82 = .ok (.invokevirtual 162, 3) := by decide +kernel
theorem dX10_count_85 : decode cX10_count 85 = .ok (.ireturn, 1) := by decide +kernel
theorem dX10_count_86 : decode cX10_count 86 = .ok (.aload_n 0, 1) := by decide +kernel
theorem dX10_count_87 : decode cX10_count 87 = .ok (.getfield 68, 3) := by decide +kernel
theorem dX10_count_90 : decode cX10_count 90 = .ok (.bipush 53, 2) := by decide +kernel
theorem dX10_count_92 : decode cX10_count 92 = .ok (.iaload, 1) := by decide +kernel
theorem dX10_count_93 : decode cX10_count 93 = .ok (.ireturn, 1) := by decide +kernel
theorem dX10_count_94 : decode cX10_count 94 = .ok (.aload_n 0, 1) := by decide +kernel
theorem dX10_count_95 : decode cX10_count 95 = .ok (.getfield 68, 3) := by decide +kernel
theorem dX10_count_98 : decode cX10_count 98 = .ok (.bipush 54, 2) := by decide +kernel
theorem dX10_count_100 : decode cX10_count 100 = .ok (.iaload, 1) := by decide +kernel
theorem dX10_count_101 : decode cX10_count 101 = .ok (.ireturn, 1) := by decide +kernel
theorem dX10_count_102 : decode cX10_count 102 = .ok (.aload_n 0, 1) := by decide +kernel
theorem dX10_count_103 : decode cX10_count 103 = .ok (.invokevirtual 378, 3) := by decide +kernel
theorem dX10_count_106 : decode cX10_count 106 = .ok (.ireturn, 1) := by decide +kernel
theorem dX10_count_107 : decode cX10_count 107 = .ok (.aload_n 0, 1) := by decide +kernel
theorem dX10_count_108 : decode cX10_count 108 = .ok (.getfield 115, 3) := by decide +kernel
theorem dX10_count_111 : decode cX10_count 111 = .ok (.ireturn, 1) := by decide +kernel
theorem dX10_count_112 : decode cX10_count 112 = .ok (.aload_n 0, 1) := by decide +kernel
theorem dX10_count_113 : decode cX10_count 113 = .ok (.getfield 11, 3) := by decide +kernel
theorem dX10_count_116 : decode cX10_count 116 = .ok (.ireturn, 1) := by decide +kernel
theorem dX10_count_117 : decode cX10_count 117 = .ok (.aload_n 0, 1) := by decide +kernel
theorem dX10_count_118 : decode cX10_count 118 = .ok (.getfield 22, 3) := by decide +kernel
theorem dX10_count_121 : decode cX10_count 121 = .ok (.ireturn, 1) := by decide +kernel
theorem dX10_count_122 : decode cX10_count 122 = .ok (.aload_n 0, 1) := by decide +kernel
theorem dX10_count_123 : decode cX10_count 123 = .ok (.getfield 68, 3) := by decide +kernel
theorem dX10_count_126 : decode cX10_count 126 = .ok (.iconst 2, 1) := by decide +kernel
theorem dX10_count_127 : decode cX10_count 127 = .ok (.iaload, 1) := by decide +kernel
theorem dX10_count_128 : decode cX10_count 128 = .ok (.ireturn, 1) := by decide +kernel
theorem dX10_count_129 : decode cX10_count 129 = .ok (.iconst (-1), 1) := by decide +kernel
theorem dX10_count_130 : decode cX10_count 130 = .ok (.ireturn, 1) := by decide +kernel
set_option maxRecDepth 20000 in
set_option maxHeartbeats 2000000 in
theorem V_X10_count_0 {X : Ctx} (C : C_X10_count X) {k n : Nat} {Q : Pq} {h : Hp} {v0 : Nat} {v1 : Int32}
    (hv : St10 h v0 ∧ 
    ((v1 = 0 → Q (some (.int (gi (si h v0 0 0) (v0 + 3) (ix 0)))) (si h v0 0 0)) ∧
     (v1 = 1 → Q (some (.int (gi (si h v0 0 0) (v0 + 3) (ix 1)))) (si h v0 0 0)) ∧
     (v1 = 2 → Q (some (.int (gi (si h v0 0 0) (v0 + 3) (ix 3)))) (si h v0 0 0)) ∧
     (v1 = 3 → Q (some (.int (gi (si h v0 0 0) (v0 + 3) (ix 4)))) (si h v0 0 0)) ∧
     (v1 = 4 → Q (some (.int (gi (si h v0 0 0) (v0 + 3) (ix 53)))) (si h v0 0 0)) ∧
     (v1 = 5 → Q (some (.int (gi (si h v0 0 0) (v0 + 3) (ix 54)))) (si h v0 0 0)) ∧
     (v1 = 6 → Q (some (.int (gi (si h v0 0 0) (v0 + 3) (ix 60)))) (si h v0 0 0)) ∧
     (v1 = 7 → Q (some (.int (gi (si h v0 0 0) v0 9))) (si h v0 0 0)) ∧
     (v1 = 8 → Q (some (.int (gi (si h v0 0 0) v0 1))) (si h v0 0 0)) ∧
     (v1 = 9 → Q (some (.int (gi (si h v0 0 0) v0 4))) (si h v0 0 0)) ∧
     (v1 = 10 → Q (some (.int (gi (si h v0 0 0) (v0 + 3) (ix 2)))) (si h v0 0 0)) ∧
     (¬ v1 = 0 → ¬ v1 = 1 → ¬ v1 = 2 → ¬ v1 = 3 → ¬ v1 = 4 → ¬ v1 = 5 → ¬ v1 = 6 → ¬ v1 = 7 → ¬ v1 = 8 → ¬ v1 = 9 → ¬ v1 = 10 → Q (some (.int (-1))) (si h v0 0 0)))) :
    Wj X k n Q 0 [(0, .ref v0), (1, .int v1)] [] h := by
  refine w_aload_n (pc := 0) C dX10_count_0 rfl ?_
  refine w_iconst (pc := 1) C (v := 0) dX10_count_1 (by decide) ?_
  obtain ⟨f1, hv⟩ := hv
  refine w_putI (pc := 2) C fl_X10_1 rfl rfl dX10_count_2 (St10_k f1) ?_
  refine w_iload_n (pc := 5) C dX10_count_5 rfl ?_
  by_cases c2 : v1 = 0
  · obtain ⟨hv, -⟩ := hv
    have hv := hv c2
    refine w_tswIn (pc := 6) (tgt := 64) (off := 58) C dX10_count_6 (by rw [c2]; decide) (by rw [c2]; decide) (by rw [c2]; decide) (by decide) ?_
    refine w_aload_n (pc := 64) C dX10_count_64 rfl ?_
    refine w_cV0_0 (pc := 65) C cl_X10_168 lv_X10_worm (by decide) dX10_count_65 (Nat.le_of_ble_eq_true rfl) (c := 10) rfl (St10_k f1) ((sf_X10_worm (h := (si h v0 0 0)) f1).mono (fun v h9 hp => ?_))
    obtain ⟨e1, e2⟩ := hp
    rw [e1, e2]
    exact w_iret (pc := 68) C dX10_count_68 hv
  obtain ⟨-, hv⟩ := hv
  by_cases c3 : v1 = 1
  · obtain ⟨hv, -⟩ := hv
    have hv := hv c3
    refine w_tswIn (pc := 6) (tgt := 69) (off := 63) C dX10_count_6 (by rw [c3]; decide) (by rw [c3]; decide) (by rw [c3]; decide) (by decide) ?_
    refine w_aload_n (pc := 69) C dX10_count_69 rfl ?_
    refine w_getR (pc := 70) C fl_X10_68 rfl dX10_count_70 (St10_k f1) (St10_r7 f1) ?_
    refine w_iconst (pc := 73) C (v := 1) dX10_count_73 (by decide) ?_
    refine w_iald (pc := 74) C dX10_count_74 (St10_k7 f1) (inbl (St10_l7 f1) (inbd (by decide))) ?_
    exact w_iret (pc := 75) C dX10_count_75 hv
  obtain ⟨-, hv⟩ := hv
  by_cases c4 : v1 = 2
  · obtain ⟨hv, -⟩ := hv
    have hv := hv c4
    refine w_tswIn (pc := 6) (tgt := 76) (off := 70) C dX10_count_6 (by rw [c4]; decide) (by rw [c4]; decide) (by rw [c4]; decide) (by decide) ?_
    refine w_aload_n (pc := 76) C dX10_count_76 rfl ?_
    refine w_cV0_0 (pc := 77) C cl_X10_156 lv_X10_circles (by decide) dX10_count_77 (Nat.le_of_ble_eq_true rfl) (c := 10) rfl (St10_k f1) ((sf_X10_circles (h := (si h v0 0 0)) f1).mono (fun v h9 hp => ?_))
    obtain ⟨e1, e2⟩ := hp
    rw [e1, e2]
    exact w_iret (pc := 80) C dX10_count_80 hv
  obtain ⟨-, hv⟩ := hv
  by_cases c5 : v1 = 3
  · obtain ⟨hv, -⟩ := hv
    have hv := hv c5
    refine w_tswIn (pc := 6) (tgt := 81) (off := 75) C dX10_count_6 (by rw [c5]; decide) (by rw [c5]; decide) (by rw [c5]; decide) (by decide) ?_
    refine w_aload_n (pc := 81) C dX10_count_81 rfl ?_
    refine w_cV0_0 (pc := 82) C cl_X10_162 lv_X10_gearMany (by decide) dX10_count_82 (Nat.le_of_ble_eq_true rfl) (c := 10) rfl (St10_k f1) ((sf_X10_gearMany (h := (si h v0 0 0)) f1).mono (fun v h9 hp => ?_))
    obtain ⟨e1, e2⟩ := hp
    rw [e1, e2]
    exact w_iret (pc := 85) C dX10_count_85 hv
  obtain ⟨-, hv⟩ := hv
  by_cases c6 : v1 = 4
  · obtain ⟨hv, -⟩ := hv
    have hv := hv c6
    refine w_tswIn (pc := 6) (tgt := 86) (off := 80) C dX10_count_6 (by rw [c6]; decide) (by rw [c6]; decide) (by rw [c6]; decide) (by decide) ?_
    refine w_aload_n (pc := 86) C dX10_count_86 rfl ?_
    refine w_getR (pc := 87) C fl_X10_68 rfl dX10_count_87 (St10_k f1) (St10_r7 f1) ?_
    refine w_bipush (pc := 90) C (v := 53) dX10_count_90 (by decide) ?_
    refine w_iald (pc := 92) C dX10_count_92 (St10_k7 f1) (inbl (St10_l7 f1) (inbd (by decide))) ?_
    exact w_iret (pc := 93) C dX10_count_93 hv
  obtain ⟨-, hv⟩ := hv
  by_cases c7 : v1 = 5
  · obtain ⟨hv, -⟩ := hv
    have hv := hv c7
    refine w_tswIn (pc := 6) (tgt := 94) (off := 88) C dX10_count_6 (by rw [c7]; decide) (by rw [c7]; decide) (by rw [c7]; decide) (by decide) ?_
    refine w_aload_n (pc := 94) C dX10_count_94 rfl ?_
    refine w_getR (pc := 95) C fl_X10_68 rfl dX10_count_95 (St10_k f1) (St10_r7 f1) ?_
    refine w_bipush (pc := 98) C (v := 54) dX10_count_98 (by decide) ?_
    refine w_iald (pc := 100) C dX10_count_100 (St10_k7 f1) (inbl (St10_l7 f1) (inbd (by decide))) ?_
    exact w_iret (pc := 101) C dX10_count_101 hv
  obtain ⟨-, hv⟩ := hv
  by_cases c8 : v1 = 6
  · obtain ⟨hv, -⟩ := hv
    have hv := hv c8
    refine w_tswIn (pc := 6) (tgt := 102) (off := 96) C dX10_count_6 (by rw [c8]; decide) (by rw [c8]; decide) (by rw [c8]; decide) (by decide) ?_
    refine w_aload_n (pc := 102) C dX10_count_102 rfl ?_
    refine w_cV0_0 (pc := 103) C cl_X10_378 lv_X10_marks (by decide) dX10_count_103 (Nat.le_of_ble_eq_true rfl) (c := 10) rfl (St10_k f1) ((sf_X10_marks (h := (si h v0 0 0)) f1).mono (fun v h9 hp => ?_))
    obtain ⟨e1, e2⟩ := hp
    rw [e1, e2]
    exact w_iret (pc := 106) C dX10_count_106 hv
  obtain ⟨-, hv⟩ := hv
  by_cases c9 : v1 = 7
  · obtain ⟨hv, -⟩ := hv
    have hv := hv c9
    refine w_tswIn (pc := 6) (tgt := 107) (off := 101) C dX10_count_6 (by rw [c9]; decide) (by rw [c9]; decide) (by rw [c9]; decide) (by decide) ?_
    refine w_aload_n (pc := 107) C dX10_count_107 rfl ?_
    refine w_getI (pc := 108) C fl_X10_115 rfl dX10_count_108 (St10_k f1) ?_
    exact w_iret (pc := 111) C dX10_count_111 hv
  obtain ⟨-, hv⟩ := hv
  by_cases c10 : v1 = 8
  · obtain ⟨hv, -⟩ := hv
    have hv := hv c10
    refine w_tswIn (pc := 6) (tgt := 112) (off := 106) C dX10_count_6 (by rw [c10]; decide) (by rw [c10]; decide) (by rw [c10]; decide) (by decide) ?_
    refine w_aload_n (pc := 112) C dX10_count_112 rfl ?_
    refine w_getI (pc := 113) C fl_X10_11 rfl dX10_count_113 (St10_k f1) ?_
    exact w_iret (pc := 116) C dX10_count_116 hv
  obtain ⟨-, hv⟩ := hv
  by_cases c11 : v1 = 9
  · obtain ⟨hv, -⟩ := hv
    have hv := hv c11
    refine w_tswIn (pc := 6) (tgt := 117) (off := 111) C dX10_count_6 (by rw [c11]; decide) (by rw [c11]; decide) (by rw [c11]; decide) (by decide) ?_
    refine w_aload_n (pc := 117) C dX10_count_117 rfl ?_
    refine w_getI (pc := 118) C fl_X10_22 rfl dX10_count_118 (St10_k f1) ?_
    exact w_iret (pc := 121) C dX10_count_121 hv
  obtain ⟨-, hv⟩ := hv
  by_cases c12 : v1 = 10
  · obtain ⟨hv, -⟩ := hv
    have hv := hv c12
    refine w_tswIn (pc := 6) (tgt := 122) (off := 116) C dX10_count_6 (by rw [c12]; decide) (by rw [c12]; decide) (by rw [c12]; decide) (by decide) ?_
    refine w_aload_n (pc := 122) C dX10_count_122 rfl ?_
    refine w_getR (pc := 123) C fl_X10_68 rfl dX10_count_123 (St10_k f1) (St10_r7 f1) ?_
    refine w_iconst (pc := 126) C (v := 2) dX10_count_126 (by decide) ?_
    refine w_iald (pc := 127) C dX10_count_127 (St10_k7 f1) (inbl (St10_l7 f1) (inbd (by decide))) ?_
    exact w_iret (pc := 128) C dX10_count_128 hv
  obtain ⟨-, hv⟩ := hv
  have hv := hv c2 c3 c4 c5 c6 c7 c8 c9 c10 c11 c12
  refine w_tswOut (pc := 6) (tgt := 129) C dX10_count_6 ?_ (by decide) ?_
  · have e0 := lv_neT (a := 0) c2 rfl; have e1 := lv_neT (a := 1) c3 rfl; have e2 := lv_neT (a := 2) c4 rfl; have e3 := lv_neT (a := 3) c5 rfl; have e4 := lv_neT (a := 4) c6 rfl; have e5 := lv_neT (a := 5) c7 rfl; have e6 := lv_neT (a := 6) c8 rfl; have e7 := lv_neT (a := 7) c9 rfl; have e8 := lv_neT (a := 8) c10 rfl; have e9 := lv_neT (a := 9) c11 rfl; have e10 := lv_neT (a := 10) c12 rfl; omega
  refine w_iconst (pc := 129) C (v := (-1)) dX10_count_129 (by decide) ?_
  exact w_iret (pc := 130) C dX10_count_130 hv
theorem dX10_row_0 : decode cX10_row 0 = .ok (.aload_n 0, 1) := by decide +kernel
theorem dX10_row_1 : decode cX10_row 1 = .ok (.iload_n 1, 1) := by decide +kernel
theorem dX10_row_2 : decode cX10_row 2 = .ok (.i2l, 1) := by decide +kernel
theorem dX10_row_3 : decode cX10_row 3 = .ok (.lconst 0, 1) := by decide +kernel
theorem dX10_row_4 : decode cX10_row 4 = .ok (.aload_n 0, 1) := by decide +kernel
theorem dX10_row_5 : decode cX10_row 5 = .ok (.getfield 11, 3) := by decide +kernel
theorem dX10_row_8 : decode cX10_row 8 = .ok (.iconst 1, 1) := by decide +kernel
theorem dX10_row_9 : decode cX10_row 9 = .ok (.isub, 1) := by decide +kernel
theorem dX10_row_10 : decode cX10_row 10 = .ok (.i2l, 1) := by decide +kernel
theorem dX10_row_11 : decode cX10_row 11 = .ok (.invokestatic 29, 3) := by decide +kernel
theorem dX10_row_14 : decode cX10_row 14 = .ok (.ifCond .ne 7, 3) := by decide +kernel
theorem dX10_row_17 : decode cX10_row 17 = .ok (.iconst 1, 1) := by decide +kernel
theorem dX10_row_18 : decode cX10_row 18 = .ok (.goto 4, 3) := by decide +kernel
theorem dX10_row_21 : decode cX10_row 21 = .ok (.iconst 0, 1) := by decide +kernel
theorem dX10_row_22 : decode cX10_row 22 = .ok (.invokestatic 39, 3) := by decide +kernel
theorem dX10_row_25 : decode cX10_row 25 = .ok (.putfield 1, 3) := by decide +kernel
theorem dX10_row_28 : decode cX10_row 28 = .ok (.aload_n 0, 1) := by decide +kernel
theorem dX10_row_29 : decode cX10_row 29 = .ok (.getfield 1, 3) := by decide +kernel
theorem dX10_row_32 : decode cX10_row 32 = .ok (.iconst 1, 1) := by decide +kernel
theorem dX10_row_33 : decode cX10_row 33 = .ok (.if_icmp .ne 7, 3) := by decide +kernel
theorem dX10_row_36 : decode cX10_row 36 = .ok (.lconst 0, 1) := by decide +kernel
theorem dX10_row_37 : decode cX10_row 37 = .ok (.goto 9, 3) := by decide +kernel
theorem dX10_row_40 : decode cX10_row 40 = .ok (.aload_n 0, 1) := by decide +kernel
theorem dX10_row_41 : decode cX10_row 41 = .ok (.getfield 7, 3) := by decide +kernel
theorem dX10_row_44 : decode cX10_row 44 = .ok (.iload_n 1, 1) := by decide +kernel
theorem dX10_row_45 : decode cX10_row 45 = .ok (.laload, 1) := by decide +kernel
theorem dX10_row_46 : decode cX10_row 46 = .ok (.lreturn, 1) := by decide +kernel
set_option maxRecDepth 20000 in
set_option maxHeartbeats 2000000 in
theorem V_X10_row_0 {X : Ctx} (C : C_X10_row X) {k n : Nat} {Q : Pq} {h : Hp} {v0 : Nat} {v1 : Int32}
    (hv : St10 h v0 ∧ ((¬ (btL (Int32.toInt64 v1) 0 (Int32.toInt64 ((gi h v0 1) - 1))) = 0 → Wj X k n Q 22 [(0, .ref v0), (1, .int v1)] [.int 0, .ref v0] h) ∧
    ((btL (Int32.toInt64 v1) 0 (Int32.toInt64 ((gi h v0 1) - 1))) = 0 → Wj X k n Q 22 [(0, .ref v0), (1, .int v1)] [.int 1, .ref v0] h))) :
    Wj X k n Q 0 [(0, .ref v0), (1, .int v1)] [] h := by
  refine w_aload_n (pc := 0) C dX10_row_0 rfl ?_
  refine w_iload_n (pc := 1) C dX10_row_1 rfl ?_
  refine w_i2l (pc := 2) C dX10_row_2 ?_
  refine w_lconst (pc := 3) C (v := 0) dX10_row_3 (by decide) ?_
  refine w_aload_n (pc := 4) C dX10_row_4 rfl ?_
  obtain ⟨f1, hv⟩ := hv
  refine w_getI (pc := 5) C fl_X10_11 rfl dX10_row_5 (St10_k f1) ?_
  refine w_iconst (pc := 8) C (v := 1) dX10_row_8 (by decide) ?_
  refine w_isub (pc := 9) C dX10_row_9 ?_
  refine w_i2l (pc := 10) C dX10_row_10 ?_
  refine w_cS0_3 (pc := 11) C cl_X10_29 ls_X10_in (by decide) dX10_row_11 (Nat.le_of_ble_eq_true rfl) ((sf_X10_in (h := h) ).mono (fun v h9 hp => ?_))
  obtain ⟨e1, e2⟩ := hp
  rw [e1, e2]
  refine w_if_ne (pc := 14) C (tgt := 21) dX10_row_14 (by decide) ?_
  obtain ⟨hv1, hv2⟩ := hv
  refine ⟨fun c2 => ?_, fun c2 => ?_⟩
  · have hv := hv1 c2
    refine w_iconst (pc := 21) C (v := 0) dX10_row_21 (by decide) ?_
    refine w_sub ?_ hv
    exact ⟨rfl, rfl, trivial⟩
  · have hv := hv2 c2
    refine w_iconst (pc := 17) C (v := 1) dX10_row_17 (by decide) ?_
    refine w_goto (pc := 18) C (tgt := 22) dX10_row_18 (by decide) ?_
    refine w_sub ?_ hv
    exact ⟨rfl, rfl, trivial⟩
set_option maxRecDepth 20000 in
set_option maxHeartbeats 2000000 in
theorem V_X10_row_22 {X : Ctx} (C : C_X10_row X) {k n : Nat} {Q : Pq} {h : Hp} {v0 s0 : Nat} {v1 s1 : Int32}
    (hv : St10 h s0 ∧ St10 h v0 ∧ ((¬ (gi (si h s0 0 (flg s1)) v0 0) = 1 → inb v1 64 ∧ Q (some (.long (gl h (v0 + 1) (ix v1)))) (si h s0 0 (flg s1))) ∧
    ((gi (si h s0 0 (flg s1)) v0 0) = 1 → Q (some (.long 0)) (si h s0 0 (flg s1))))) :
    Wj X k n Q 22 [(0, .ref v0), (1, .int v1)] [.int s1, .ref s0] h := by
  refine w_cS0_1 (pc := 22) C cl_X10_39 ls_X10_flag (by decide) dX10_row_22 (Nat.le_of_ble_eq_true rfl) ((sf_X10_flag (h := h) ).mono (fun v h9 hp => ?_))
  obtain ⟨e1, e2⟩ := hp
  rw [e1, e2]
  obtain ⟨f1, hv⟩ := hv
  refine w_putI (pc := 25) C fl_X10_1 rfl rfl dX10_row_25 (St10_k f1) ?_
  refine w_aload_n (pc := 28) C dX10_row_28 rfl ?_
  obtain ⟨f2, hv⟩ := hv
  refine w_getI (pc := 29) C fl_X10_1 rfl dX10_row_29 (St10_k f2) ?_
  refine w_iconst (pc := 32) C (v := 1) dX10_row_32 (by decide) ?_
  refine w_icmp_ne (pc := 33) C (tgt := 40) dX10_row_33 (by decide) ?_
  obtain ⟨hv1, hv2⟩ := hv
  refine ⟨fun c4 => ?_, fun c4 => ?_⟩
  · have hv := hv1 c4
    refine w_aload_n (pc := 40) C dX10_row_40 rfl ?_
    refine w_getR (pc := 41) C fl_X10_7 rfl dX10_row_41 (St10_k f2) (St10_r2 f2) ?_
    refine w_iload_n (pc := 44) C dX10_row_44 rfl ?_
    obtain ⟨f3, hv⟩ := hv
    refine w_lald (pc := 45) C dX10_row_45 (St10_k2 f2) (inbl (St10_l2 f2) f3) ?_
    exact w_lret (pc := 46) C dX10_row_46 hv
  · have hv := hv2 c4
    refine w_lconst (pc := 36) C (v := 0) dX10_row_36 (by decide) ?_
    refine w_goto (pc := 37) C (tgt := 46) dX10_row_37 (by decide) ?_
    exact w_lret (pc := 46) C dX10_row_46 hv
theorem dX10_mark_0 : decode cX10_mark 0 = .ok (.aload_n 0, 1) := by decide +kernel
theorem dX10_mark_1 : decode cX10_mark 1 = .ok (.iconst 0, 1) := by decide +kernel
theorem dX10_mark_2 : decode cX10_mark 2 = .ok (.putfield 1, 3) := by decide +kernel
theorem dX10_mark_5 : decode cX10_mark 5 = .ok (.iload_n 1, 1) := by decide +kernel
theorem dX10_mark_6 : decode cX10_mark 6 = .ok (.i2l, 1) := by decide +kernel
theorem dX10_mark_7 : decode cX10_mark 7 = .ok (.lconst 0, 1) := by decide +kernel
theorem dX10_mark_8 : decode cX10_mark 8 = .ok (.aload_n 0, 1) := by decide +kernel
theorem dX10_mark_9 : decode cX10_mark 9 = .ok (.invokevirtual 378, 3) := by decide +kernel
theorem dX10_mark_12 : decode cX10_mark 12 = .ok (.iconst 1, 1) := by decide +kernel
theorem dX10_mark_13 : decode cX10_mark 13 = .ok (.isub, 1) := by decide +kernel
theorem dX10_mark_14 : decode cX10_mark 14 = .ok (.i2l, 1) := by decide +kernel
theorem dX10_mark_15 : decode cX10_mark 15 = .ok (.invokestatic 29, 3) := by decide +kernel
theorem dX10_mark_18 : decode cX10_mark 18 = .ok (.ifCond .ne 5, 3) := by decide +kernel
theorem dX10_mark_21 : decode cX10_mark 21 = .ok (.iconst (-1), 1) := by decide +kernel
theorem dX10_mark_22 : decode cX10_mark 22 = .ok (.ireturn, 1) := by decide +kernel
theorem dX10_mark_23 : decode cX10_mark 23 = .ok (.aload_n 0, 1) := by decide +kernel
theorem dX10_mark_24 : decode cX10_mark 24 = .ok (.iload_n 1, 1) := by decide +kernel
theorem dX10_mark_25 : decode cX10_mark 25 = .ok (.invokevirtual 415, 3) := by decide +kernel
theorem dX10_mark_28 : decode cX10_mark 28 = .ok (.aload_n 0, 1) := by decide +kernel
theorem dX10_mark_29 : decode cX10_mark 29 = .ok (.iconst 0, 1) := by decide +kernel
theorem dX10_mark_30 : decode cX10_mark 30 = .ok (.putfield 11, 3) := by decide +kernel
theorem dX10_mark_33 : decode cX10_mark 33 = .ok (.aload_n 0, 1) := by decide +kernel
theorem dX10_mark_34 : decode cX10_mark 34 = .ok (.aload_n 0, 1) := by decide +kernel
theorem dX10_mark_35 : decode cX10_mark 35 = .ok (.iload_n 1, 1) := by decide +kernel
theorem dX10_mark_36 : decode cX10_mark 36 = .ok (.invokevirtual 381, 3) := by decide +kernel
theorem dX10_mark_39 : decode cX10_mark 39 = .ok (.invokevirtual 18, 3) := by decide +kernel
theorem dX10_mark_42 : decode cX10_mark 42 = .ok (.aload_n 0, 1) := by decide +kernel
theorem dX10_mark_43 : decode cX10_mark 43 = .ok (.aload_n 0, 1) := by decide +kernel
theorem dX10_mark_44 : decode cX10_mark 44 = .ok (.iload_n 1, 1) := by decide +kernel
theorem dX10_mark_45 : decode cX10_mark 45 = .ok (.invokevirtual 385, 3) := by decide +kernel
theorem dX10_mark_48 : decode cX10_mark 48 = .ok (.invokevirtual 18, 3) := by decide +kernel
theorem dX10_mark_51 : decode cX10_mark 51 = .ok (.aload_n 0, 1) := by decide +kernel
theorem dX10_mark_52 : decode cX10_mark 52 = .ok (.aload_n 0, 1) := by decide +kernel
theorem dX10_mark_53 : decode cX10_mark 53 = .ok (.getfield 409, 3) := by decide +kernel
theorem dX10_mark_56 : decode cX10_mark 56 = .ok (.invokevirtual 18, 3) := by decide +kernel
theorem dX10_mark_59 : decode cX10_mark 59 = .ok (.aload_n 0, 1) := by decide +kernel
theorem dX10_mark_60 : decode cX10_mark 60 = .ok (.aload_n 0, 1) := by decide +kernel
theorem dX10_mark_61 : decode cX10_mark 61 = .ok (.getfield 412, 3) := by decide +kernel
theorem dX10_mark_64 : decode cX10_mark 64 = .ok (.invokevirtual 18, 3) := by decide +kernel
theorem dX10_mark_67 : decode cX10_mark 67 = .ok (.iconst 0, 1) := by decide +kernel
theorem dX10_mark_68 : decode cX10_mark 68 = .ok (.ireturn, 1) := by decide +kernel
set_option maxRecDepth 20000 in
set_option maxHeartbeats 2000000 in
theorem V_X10_mark_0 {X : Ctx} (C : C_X10_mark X) {k n : Nat} {Q : Pq} {h : Hp} {v0 : Nat} {v1 : Int32}
    (hv : St10 h v0 ∧ ((¬ (btL (Int32.toInt64 v1) 0 (Int32.toInt64 ((gi (si h v0 0 0) (v0 + 3) (ix 60)) - 1))) = 0 → S_X10_laysGap (lX X) (dtX X) 0 0 [.ref v0, .int v1] (si h v0 0 0) (QV fun h2 =>
    St10 h2 v0 ∧ inb (2 + 2 * v1) 1464 ∧ S_X10_enters (lX X) (dtX X) 0 0 [.ref v0, .long (gl h2 (v0 + 4) (ix (2 + 2 * v1)))] (si h2 v0 1 0) (QV fun h5 =>
    St10 h5 v0 ∧ inb (2 + 2 * v1 + 1) 1464 ∧ S_X10_enters (lX X) (dtX X) 0 0 [.ref v0, .long (gl h5 (v0 + 4) (ix (2 + 2 * v1 + 1)))] h5 (QV fun h8 =>
    St10 h8 v0 ∧ S_X10_enters (lX X) (dtX X) 0 0 [.ref v0, .long (gl h8 v0 33)] h8 (QV fun h10 =>
    St10 h10 v0 ∧ S_X10_enters (lX X) (dtX X) 0 0 [.ref v0, .long (gl h10 v0 34)] h10 (QV fun h12 =>
    Q (some (.int 0)) h12)))))) ∧
    ((btL (Int32.toInt64 v1) 0 (Int32.toInt64 ((gi (si h v0 0 0) (v0 + 3) (ix 60)) - 1))) = 0 → Q (some (.int (-1))) (si h v0 0 0)))) :
    Wj X k n Q 0 [(0, .ref v0), (1, .int v1)] [] h := by
  refine w_aload_n (pc := 0) C dX10_mark_0 rfl ?_
  refine w_iconst (pc := 1) C (v := 0) dX10_mark_1 (by decide) ?_
  obtain ⟨f1, hv⟩ := hv
  refine w_putI (pc := 2) C fl_X10_1 rfl rfl dX10_mark_2 (St10_k f1) ?_
  refine w_iload_n (pc := 5) C dX10_mark_5 rfl ?_
  refine w_i2l (pc := 6) C dX10_mark_6 ?_
  refine w_lconst (pc := 7) C (v := 0) dX10_mark_7 (by decide) ?_
  refine w_aload_n (pc := 8) C dX10_mark_8 rfl ?_
  refine w_cV0_0 (pc := 9) C cl_X10_378 lv_X10_marks (by decide) dX10_mark_9 (Nat.le_of_ble_eq_true rfl) (c := 10) rfl (St10_k f1) ((sf_X10_marks (h := (si h v0 0 0)) f1).mono (fun v h9 hp => ?_))
  obtain ⟨e1, e2⟩ := hp
  rw [e1, e2]
  refine w_iconst (pc := 12) C (v := 1) dX10_mark_12 (by decide) ?_
  refine w_isub (pc := 13) C dX10_mark_13 ?_
  refine w_i2l (pc := 14) C dX10_mark_14 ?_
  refine w_cS0_3 (pc := 15) C cl_X10_29 ls_X10_in (by decide) dX10_mark_15 (Nat.le_of_ble_eq_true rfl) ((sf_X10_in (h := (si h v0 0 0)) ).mono (fun v h9 hp => ?_))
  obtain ⟨e1, e2⟩ := hp
  rw [e1, e2]
  refine w_if_ne (pc := 18) C (tgt := 23) dX10_mark_18 (by decide) ?_
  obtain ⟨hv1, hv2⟩ := hv
  refine ⟨fun c13 => ?_, fun c13 => ?_⟩
  · have hv := hv1 c13
    refine w_aload_n (pc := 23) C dX10_mark_23 rfl ?_
    refine w_iload_n (pc := 24) C dX10_mark_24 rfl ?_
    refine w_cV0_1 (pc := 25) C cl_X10_415 lv_X10_laysGap (by decide) dX10_mark_25 (Nat.le_of_ble_eq_true rfl) (c := 10) rfl (St10_k f1) (hv.mono (fun v h2 hp => ?_))
    obtain ⟨rfl, hv⟩ := hp
    refine w_aload_n (pc := 28) C dX10_mark_28 rfl ?_
    refine w_iconst (pc := 29) C (v := 0) dX10_mark_29 (by decide) ?_
    obtain ⟨f3, hv⟩ := hv
    refine w_putI (pc := 30) C fl_X10_11 rfl rfl dX10_mark_30 (St10_k f3) ?_
    refine w_aload_n (pc := 33) C dX10_mark_33 rfl ?_
    refine w_aload_n (pc := 34) C dX10_mark_34 rfl ?_
    refine w_iload_n (pc := 35) C dX10_mark_35 rfl ?_
    obtain ⟨f4, hv⟩ := hv
    refine w_cV0_1 (pc := 36) C cl_X10_381 lv_X10_markUp (by decide) dX10_mark_36 (Nat.le_of_ble_eq_true rfl) (c := 10) rfl (St10_k f3) ((sf_X10_markUp (h := (si h2 v0 1 0)) f3 f4).mono (fun v h9 hp => ?_))
    obtain ⟨e1, e2⟩ := hp
    rw [e1, e2]
    refine w_cV0_1 (pc := 39) C cl_X10_18 lv_X10_enters (by decide) dX10_mark_39 (Nat.le_of_ble_eq_true rfl) (c := 10) rfl (St10_k f3) (hv.mono (fun v h5 hp => ?_))
    obtain ⟨rfl, hv⟩ := hp
    refine w_aload_n (pc := 42) C dX10_mark_42 rfl ?_
    refine w_aload_n (pc := 43) C dX10_mark_43 rfl ?_
    refine w_iload_n (pc := 44) C dX10_mark_44 rfl ?_
    obtain ⟨f6, hv⟩ := hv
    obtain ⟨f7, hv⟩ := hv
    refine w_cV0_1 (pc := 45) C cl_X10_385 lv_X10_markLow (by decide) dX10_mark_45 (Nat.le_of_ble_eq_true rfl) (c := 10) rfl (St10_k f6) ((sf_X10_markLow (h := h5) f6 f7).mono (fun v h9 hp => ?_))
    obtain ⟨e1, e2⟩ := hp
    rw [e1, e2]
    refine w_cV0_1 (pc := 48) C cl_X10_18 lv_X10_enters (by decide) dX10_mark_48 (Nat.le_of_ble_eq_true rfl) (c := 10) rfl (St10_k f6) (hv.mono (fun v h8 hp => ?_))
    obtain ⟨rfl, hv⟩ := hp
    refine w_aload_n (pc := 51) C dX10_mark_51 rfl ?_
    refine w_aload_n (pc := 52) C dX10_mark_52 rfl ?_
    obtain ⟨f9, hv⟩ := hv
    refine w_getL (pc := 53) C fl_X10_409 rfl dX10_mark_53 (St10_k f9) ?_
    refine w_cV0_1 (pc := 56) C cl_X10_18 lv_X10_enters (by decide) dX10_mark_56 (Nat.le_of_ble_eq_true rfl) (c := 10) rfl (St10_k f9) (hv.mono (fun v h10 hp => ?_))
    obtain ⟨rfl, hv⟩ := hp
    refine w_aload_n (pc := 59) C dX10_mark_59 rfl ?_
    refine w_aload_n (pc := 60) C dX10_mark_60 rfl ?_
    obtain ⟨f11, hv⟩ := hv
    refine w_getL (pc := 61) C fl_X10_412 rfl dX10_mark_61 (St10_k f11) ?_
    refine w_cV0_1 (pc := 64) C cl_X10_18 lv_X10_enters (by decide) dX10_mark_64 (Nat.le_of_ble_eq_true rfl) (c := 10) rfl (St10_k f11) (hv.mono (fun v h12 hp => ?_))
    obtain ⟨rfl, hv⟩ := hp
    refine w_iconst (pc := 67) C (v := 0) dX10_mark_67 (by decide) ?_
    exact w_iret (pc := 68) C dX10_mark_68 hv
  · have hv := hv2 c13
    refine w_iconst (pc := 21) C (v := (-1)) dX10_mark_21 (by decide) ?_
    exact w_iret (pc := 22) C dX10_mark_22 hv
theorem dX10_sign_0 : decode cX10_sign 0 = .ok (.aload_n 0, 1) := by decide +kernel
theorem dX10_sign_1 : decode cX10_sign 1 = .ok (.iconst 0, 1) := by decide +kernel
theorem dX10_sign_2 : decode cX10_sign 2 = .ok (.putfield 1, 3) := by decide +kernel
theorem dX10_sign_5 : decode cX10_sign 5 = .ok (.aload_n 0, 1) := by decide +kernel
theorem dX10_sign_6 : decode cX10_sign 6 = .ok (.getfield 22, 3) := by decide +kernel
theorem dX10_sign_9 : decode cX10_sign 9 = .ok (.bipush 76, 2) := by decide +kernel
theorem dX10_sign_11 : decode cX10_sign 11 = .ok (.if_icmp .le 5, 3) := by decide +kernel
theorem dX10_sign_14 : decode cX10_sign 14 = .ok (.iconst (-1), 1) := by decide +kernel
theorem dX10_sign_15 : decode cX10_sign 15 = .ok (.ireturn, 1) := by decide +kernel
theorem dX10_sign_16 : decode cX10_sign 16 = .ok (.iconst 0, 1) := by decide +kernel
theorem dX10_sign_17 : decode cX10_sign 17 = .ok (.istore_n 2, 1) := by decide +kernel
theorem dX10_sign_18 : decode cX10_sign 18 = .ok (.iload_n 2, 1) := by decide +kernel
theorem dX10_sign_19 : decode cX10_sign 19 = .ok (.iconst 4, 1) := by decide +kernel
theorem dX10_sign_20 : decode cX10_sign 20 = .ok (.if_icmp .ge 33, 3) := by decide +kernel
theorem dX10_sign_23 : decode cX10_sign 23 = .ok (.aload_n 0, 1) := by decide +kernel
theorem dX10_sign_24 : decode cX10_sign 24 = .ok (.getfield 25, 3) := by decide +kernel
theorem dX10_sign_27 : decode cX10_sign 27 = .ok (.aload_n 0, 1) := by decide +kernel
theorem dX10_sign_28 : decode cX10_sign 28 = .ok (.getfield 22, 3) := by decide +kernel
theorem dX10_sign_31 : decode cX10_sign 31 = .ok (.iload_n 2, 1) := by decide +kernel
theorem dX10_sign_32 : decode cX10_sign 32 = .ok (.iadd, 1) := by decide +kernel
theorem dX10_sign_33 : decode cX10_sign 33 = .ok (.iload_n 1, 1) := by decide +kernel
theorem dX10_sign_34 : decode cX10_sign 34 = .ok (.bipush 24, 2) := by decide +kernel
theorem dX10_sign_36 : decode cX10_sign 36 = .ok (.bipush 8, 2) := by decide +kernel
theorem dX10_sign_38 : decode cX10_sign 38 = .ok (.iload_n 2, 1) := by decide +kernel
theorem dX10_sign_39 : decode cX10_sign 39 = .ok (.imul, 1) := by decide +kernel
theorem dX10_sign_40 : decode cX10_sign 40 = .ok (.isub, 1) := by decide +kernel
theorem dX10_sign_41 : decode cX10_sign 41 = .ok (.ishr, 1) := by decide +kernel
theorem dX10_sign_42 : decode cX10_sign 42 = .ok (.sipush 255, 3) := by decide +kernel
theorem dX10_sign_45 : decode cX10_sign 45 = .ok (.iand, 1) := by decide +kernel
theorem dX10_sign_46 : decode cX10_sign 46 = .ok (.iastore, 1) := by decide +kernel
theorem dX10_sign_47 : decode cX10_sign 47 = .ok (.iinc 2 1, 3) := by decide +kernel
theorem dX10_sign_50 : decode cX10_sign 50 = .ok (.goto (-32), 3) := by decide +kernel
theorem dX10_sign_53 : decode cX10_sign 53 = .ok (.aload_n 0, 1) := by decide +kernel
theorem dX10_sign_54 : decode cX10_sign 54 = .ok (.dup, 1) := by decide +kernel
theorem dX10_sign_55 : decode cX10_sign 55 = .ok (.getfield 22, 3) := by decide +kernel
theorem dX10_sign_58 : decode cX10_sign 58 = .ok (.iconst 4, 1) := by decide +kernel
theorem dX10_sign_59 : decode cX10_sign 59 = .ok (.iadd, 1) := by decide +kernel
theorem dX10_sign_60 : decode cX10_sign 60 = .ok (.putfield 22, 3) := by decide +kernel
theorem dX10_sign_63 : decode cX10_sign 63 = .ok (.aload_n 0, 1) := by decide +kernel
theorem dX10_sign_64 : decode cX10_sign 64 = .ok (.getfield 22, 3) := by decide +kernel
theorem dX10_sign_67 : decode cX10_sign 67 = .ok (.ireturn, 1) := by decide +kernel
set_option maxRecDepth 20000 in
set_option maxHeartbeats 2000000 in
theorem V_X10_sign_0 {X : Ctx} (C : C_X10_sign X) {k n : Nat} {Q : Pq} {h : Hp} {v0 : Nat} {v1 : Int32}
    (hv : St10 h v0 ∧ (((gi (si h v0 0 0) v0 4) ≤ 76 → Wj X k n Q 18 [(0, .ref v0), (1, .int v1), (2, .int 0)] [] (si h v0 0 0)) ∧
    (¬ (gi (si h v0 0 0) v0 4) ≤ 76 → Q (some (.int (-1))) (si h v0 0 0)))) :
    Wj X k n Q 0 [(0, .ref v0), (1, .int v1)] [] h := by
  refine w_aload_n (pc := 0) C dX10_sign_0 rfl ?_
  refine w_iconst (pc := 1) C (v := 0) dX10_sign_1 (by decide) ?_
  obtain ⟨f1, hv⟩ := hv
  refine w_putI (pc := 2) C fl_X10_1 rfl rfl dX10_sign_2 (St10_k f1) ?_
  refine w_aload_n (pc := 5) C dX10_sign_5 rfl ?_
  refine w_getI (pc := 6) C fl_X10_22 rfl dX10_sign_6 (St10_k f1) ?_
  refine w_bipush (pc := 9) C (v := 76) dX10_sign_9 (by decide) ?_
  refine w_icmp_le (pc := 11) C (tgt := 16) dX10_sign_11 (by decide) ?_
  obtain ⟨hv1, hv2⟩ := hv
  refine ⟨fun c2 => ?_, fun c2 => ?_⟩
  · have hv := hv1 c2
    refine w_iconst (pc := 16) C (v := 0) dX10_sign_16 (by decide) ?_
    refine w_istore_n (pc := 17) C dX10_sign_17 (by decide) ?_
    refine w_sub ?_ hv
    exact ⟨rfl, rfl, rfl, trivial⟩
  · have hv := hv2 c2
    refine w_iconst (pc := 14) C (v := (-1)) dX10_sign_14 (by decide) ?_
    exact w_iret (pc := 15) C dX10_sign_15 hv
set_option maxRecDepth 20000 in
set_option maxHeartbeats 2000000 in
theorem V_X10_sign_18 {X : Ctx} (C : C_X10_sign X) {k n : Nat} {Q : Pq} {h : Hp} {v0 : Nat} {v1 v2 : Int32}
    (hv : ((4 ≤ v2 → St10 h v0 ∧ Q (some (.int (gi (si h v0 4 ((gi h v0 4) + 4)) v0 4))) (si h v0 4 ((gi h v0 4) + 4))) ∧
    (¬ 4 ≤ v2 → St10 h v0 ∧ inb ((gi h v0 4) + v2) 80 ∧ Wj X k n Q 18 [(0, .ref v0), (1, .int v1), (2, .int (v2 + Int32.ofInt 1))] [] (si h (v0 + 2) (ix ((gi h v0 4) + v2)) ((v1 >>> ((24 - (8 * v2)) &&& 31)) &&& 255))))) :
    Wj X k n Q 18 [(0, .ref v0), (1, .int v1), (2, .int v2)] [] h := by
  refine w_iload_n (pc := 18) C dX10_sign_18 rfl ?_
  refine w_iconst (pc := 19) C (v := 4) dX10_sign_19 (by decide) ?_
  refine w_icmp_ge (pc := 20) C (tgt := 53) dX10_sign_20 (by decide) ?_
  obtain ⟨hv1, hv2⟩ := hv
  refine ⟨fun c4 => ?_, fun c4 => ?_⟩
  · have hv := hv1 c4
    refine w_aload_n (pc := 53) C dX10_sign_53 rfl ?_
    refine w_dup (pc := 54) C dX10_sign_54 rfl ?_
    obtain ⟨f1, hv⟩ := hv
    refine w_getI (pc := 55) C fl_X10_22 rfl dX10_sign_55 (St10_k f1) ?_
    refine w_iconst (pc := 58) C (v := 4) dX10_sign_58 (by decide) ?_
    refine w_iadd (pc := 59) C dX10_sign_59 ?_
    refine w_putI (pc := 60) C fl_X10_22 rfl rfl dX10_sign_60 (St10_k f1) ?_
    refine w_aload_n (pc := 63) C dX10_sign_63 rfl ?_
    refine w_getI (pc := 64) C fl_X10_22 rfl dX10_sign_64 (St10_k f1) ?_
    exact w_iret (pc := 67) C dX10_sign_67 hv
  · have hv := hv2 c4
    refine w_aload_n (pc := 23) C dX10_sign_23 rfl ?_
    obtain ⟨f2, hv⟩ := hv
    refine w_getR (pc := 24) C fl_X10_25 rfl dX10_sign_24 (St10_k f2) (St10_r3 f2) ?_
    refine w_aload_n (pc := 27) C dX10_sign_27 rfl ?_
    refine w_getI (pc := 28) C fl_X10_22 rfl dX10_sign_28 (St10_k f2) ?_
    refine w_iload_n (pc := 31) C dX10_sign_31 rfl ?_
    refine w_iadd (pc := 32) C dX10_sign_32 ?_
    refine w_iload_n (pc := 33) C dX10_sign_33 rfl ?_
    refine w_bipush (pc := 34) C (v := 24) dX10_sign_34 (by decide) ?_
    refine w_bipush (pc := 36) C (v := 8) dX10_sign_36 (by decide) ?_
    refine w_iload_n (pc := 38) C dX10_sign_38 rfl ?_
    refine w_imul (pc := 39) C dX10_sign_39 ?_
    refine w_isub (pc := 40) C dX10_sign_40 ?_
    refine w_ishr (pc := 41) C dX10_sign_41 ?_
    refine w_sipush (pc := 42) C (v := 255) dX10_sign_42 (by decide) ?_
    refine w_iand (pc := 45) C dX10_sign_45 ?_
    obtain ⟨f3, hv⟩ := hv
    refine w_iast (pc := 46) C dX10_sign_46 (St10_k3 f2) (inbl (St10_l3 f2) f3) ?_
    refine w_iinc (pc := 47) C dX10_sign_47 rfl (by decide) ?_
    refine w_goto (pc := 50) C (tgt := 18) dX10_sign_50 (by decide) ?_
    refine w_sub ?_ hv
    exact ⟨rfl, rfl, rfl, trivial⟩
theorem dX10_end_0 : decode cX10_end 0 = .ok (.aload_n 0, 1) := by decide +kernel
theorem dX10_end_1 : decode cX10_end 1 = .ok (.iconst 0, 1) := by decide +kernel
theorem dX10_end_2 : decode cX10_end 2 = .ok (.putfield 1, 3) := by decide +kernel
theorem dX10_end_5 : decode cX10_end 5 = .ok (.iload_n 1, 1) := by decide +kernel
theorem dX10_end_6 : decode cX10_end 6 = .ok (.i2l, 1) := by decide +kernel
theorem dX10_end_7 : decode cX10_end 7 = .ok (.lconst 0, 1) := by decide +kernel
theorem dX10_end_8 : decode cX10_end 8 = .ok (.aload_n 0, 1) := by decide +kernel
theorem dX10_end_9 : decode cX10_end 9 = .ok (.getfield 22, 3) := by decide +kernel
theorem dX10_end_12 : decode cX10_end 12 = .ok (.i2l, 1) := by decide +kernel
theorem dX10_end_13 : decode cX10_end 13 = .ok (.invokestatic 29, 3) := by decide +kernel
theorem dX10_end_16 : decode cX10_end 16 = .ok (.ifCond .ne 5, 3) := by decide +kernel
theorem dX10_end_19 : decode cX10_end 19 = .ok (.iconst 0, 1) := by decide +kernel
theorem dX10_end_20 : decode cX10_end 20 = .ok (.ireturn, 1) := by decide +kernel
theorem dX10_end_21 : decode cX10_end 21 = .ok (.aload_n 0, 1) := by decide +kernel
theorem dX10_end_22 : decode cX10_end 22 = .ok (.iload_n 1, 1) := by decide +kernel
theorem dX10_end_23 : decode cX10_end 23 = .ok (.putfield 22, 3) := by decide +kernel
theorem dX10_end_26 : decode cX10_end 26 = .ok (.iconst 1, 1) := by decide +kernel
theorem dX10_end_27 : decode cX10_end 27 = .ok (.ireturn, 1) := by decide +kernel
set_option maxRecDepth 20000 in
set_option maxHeartbeats 2000000 in
theorem V_X10_end_0 {X : Ctx} (C : C_X10_end X) {k n : Nat} {Q : Pq} {h : Hp} {v0 : Nat} {v1 : Int32}
    (hv : St10 h v0 ∧ ((¬ (btL (Int32.toInt64 v1) 0 (Int32.toInt64 (gi (si h v0 0 0) v0 4))) = 0 → Q (some (.int 1)) (si (si h v0 0 0) v0 4 v1)) ∧
    ((btL (Int32.toInt64 v1) 0 (Int32.toInt64 (gi (si h v0 0 0) v0 4))) = 0 → Q (some (.int 0)) (si h v0 0 0)))) :
    Wj X k n Q 0 [(0, .ref v0), (1, .int v1)] [] h := by
  refine w_aload_n (pc := 0) C dX10_end_0 rfl ?_
  refine w_iconst (pc := 1) C (v := 0) dX10_end_1 (by decide) ?_
  obtain ⟨f1, hv⟩ := hv
  refine w_putI (pc := 2) C fl_X10_1 rfl rfl dX10_end_2 (St10_k f1) ?_
  refine w_iload_n (pc := 5) C dX10_end_5 rfl ?_
  refine w_i2l (pc := 6) C dX10_end_6 ?_
  refine w_lconst (pc := 7) C (v := 0) dX10_end_7 (by decide) ?_
  refine w_aload_n (pc := 8) C dX10_end_8 rfl ?_
  refine w_getI (pc := 9) C fl_X10_22 rfl dX10_end_9 (St10_k f1) ?_
  refine w_i2l (pc := 12) C dX10_end_12 ?_
  refine w_cS0_3 (pc := 13) C cl_X10_29 ls_X10_in (by decide) dX10_end_13 (Nat.le_of_ble_eq_true rfl) ((sf_X10_in (h := (si h v0 0 0)) ).mono (fun v h9 hp => ?_))
  obtain ⟨e1, e2⟩ := hp
  rw [e1, e2]
  refine w_if_ne (pc := 16) C (tgt := 21) dX10_end_16 (by decide) ?_
  obtain ⟨hv1, hv2⟩ := hv
  refine ⟨fun c2 => ?_, fun c2 => ?_⟩
  · have hv := hv1 c2
    refine w_aload_n (pc := 21) C dX10_end_21 rfl ?_
    refine w_iload_n (pc := 22) C dX10_end_22 rfl ?_
    refine w_putI (pc := 23) C fl_X10_22 rfl rfl dX10_end_23 (St10_k f1) ?_
    refine w_iconst (pc := 26) C (v := 1) dX10_end_26 (by decide) ?_
    exact w_zret (pc := 27) C dX10_end_27 (by decide) hv
  · have hv := hv2 c2
    refine w_iconst (pc := 19) C (v := 0) dX10_end_19 (by decide) ?_
    exact w_zret (pc := 20) C dX10_end_20 (by decide) hv
