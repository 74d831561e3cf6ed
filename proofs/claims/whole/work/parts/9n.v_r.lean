-- the rest (by program: gen_parts.py)
theorem dX3_init_0 : decode cX3_init 0 = .ok (.aload_n 0, 1) := by decide +kernel
theorem dX3_init_1 : decode cX3_init 1 = .ok (.invokespecial 3, 3) := by decide +kernel
theorem dX3_init_4 : decode cX3_init 4 = .ok (.aload_n 0, 1) := by decide +kernel
theorem dX3_init_5 : decode cX3_init 5 = .ok (.iconst 0, 1) := by decide +kernel
theorem dX3_init_6 : decode cX3_init 6 = .ok (.putfield 9, 3) := by decide +kernel
theorem dX3_init_9 : decode cX3_init 9 = .ok (.aload_n 0, 1) := by decide +kernel
theorem dX3_init_10 : decode cX3_init 10 = .ok (.new 15, 3) := by decide +kernel
theorem dX3_init_13 : decode cX3_init 13 = .ok (.dup, 1) := by decide +kernel
theorem dX3_init_14 : decode cX3_init 14 = .ok (.invokespecial 17, 3) := by decide +kernel
theorem dX3_init_17 : decode cX3_init 17 = .ok (.putfield 18, 3) := by decide +kernel
theorem dX3_init_20 : decode cX3_init 20 = .ok (.aload_n 0, 1) := by decide +kernel
theorem dX3_init_21 : decode cX3_init 21 = .ok (.bipush 60, 2) := by decide +kernel
theorem dX3_init_23 : decode cX3_init 23 = .ok (.newarray .long, 2) := by decide +kernel
theorem dX3_init_25 : decode cX3_init 25 = .ok (.putfield 22, 3) := by decide +kernel
theorem dX3_init_28 : decode cX3_init 28 = .ok (.aload_n 0, 1) := by decide +kernel
theorem dX3_init_29 : decode cX3_init 29 = .ok (.bipush 60, 2) := by decide +kernel
theorem dX3_init_31 : decode cX3_init 31 = .ok (.newarray .long, 2) := by decide +kernel
theorem dX3_init_33 : decode cX3_init 33 = .ok (.putfield 26, 3) := by decide +kernel
theorem dX3_init_36 : decode cX3_init 36 = .ok (.return_, 1) := by decide +kernel
set_option maxRecDepth 20000 in
set_option maxHeartbeats 2000000 in
theorem V_X3_init_0 {X : Ctx} (C : C_X3_init X) {k n : Nat} {Q : Pq} {h : Hp} {v0 : Nat}
    (hv : kd h v0 = 4 ∧ k + 1 ≤ mcX X ∧ n + 2 ≤ msX X ∧ S_X2_init (lX X) (dtX X) 0 0 [.ref (hn h)] (nw (si h v0 0 0) 3 0) (QV fun h4 =>
    kd h4 v0 = 4 ∧ k + 1 + 1 ≤ mcX X ∧ n + 2 + 60 ≤ msX X ∧ kd (nw h4 21 60) v0 = 4 ∧ k + 1 + 1 + 1 ≤ mcX X ∧ n + 2 + 60 + 60 ≤ msX X ∧ kd (nw (nw h4 21 60) 21 60) v0 = 4 ∧ Q none (sr (nw (sr (nw (sr h4 v0 1 (some (hn h))) 21 60) v0 2 (some (hn h4))) 21 60) v0 3 (some (hn (nw h4 21 60)))))) :
    Wj X k n Q 0 [(0, .ref v0)] [] h := by
  refine w_aload_n (pc := 0) C dX3_init_0 rfl ?_
  refine w_objInit (pc := 1) C oi_X3_3 ow_1 ow_2 dX3_init_1 (by decide) (Nat.le_of_ble_eq_true rfl) ?_
  refine w_aload_n (pc := 4) C dX3_init_4 rfl ?_
  refine w_iconst (pc := 5) C (v := 0) dX3_init_5 (by decide) ?_
  obtain ⟨f1, hv⟩ := hv
  refine w_putI (pc := 6) C fl_X3_9 rfl rfl dX3_init_6 f1 ?_
  refine w_aload_n (pc := 9) C dX3_init_9 rfl ?_
  obtain ⟨f2, hv⟩ := hv
  obtain ⟨f3, hv⟩ := hv
  refine w_new (pc := 10) C nl_X3_15 (N := 2) rfl dX3_init_10 f2 f3 ?_
  refine w_dup (pc := 13) C dX3_init_13 rfl ?_
  refine w_cIN0_0 (pc := 14) C cl_X3_17 li_X2_init (by decide) dX3_init_14 (Nat.le_of_ble_eq_true rfl) (hv.mono (fun v h4 hp => ?_))
  obtain ⟨rfl, hv⟩ := hp
  obtain ⟨f5, hv⟩ := hv
  refine w_putRF (pc := 17) C fl_X3_18 rfl rfl rfl dX3_init_17 f5 ?_
  refine w_aload_n (pc := 20) C dX3_init_20 rfl ?_
  refine w_bipush (pc := 21) C (v := 60) dX3_init_21 (by decide) ?_
  obtain ⟨f6, hv⟩ := hv
  obtain ⟨f7, hv⟩ := hv
  refine w_newa (pc := 23) (atype := .long) 1 (N := 60) C ac_long rfl rfl (by decide) dX3_init_23 (by decide) (by decide) (Nat.le_of_ble_eq_true rfl) f6 f7 ?_
  obtain ⟨f8, hv⟩ := hv
  refine w_putRF (pc := 25) C fl_X3_22 rfl rfl rfl dX3_init_25 f8 ?_
  refine w_aload_n (pc := 28) C dX3_init_28 rfl ?_
  refine w_bipush (pc := 29) C (v := 60) dX3_init_29 (by decide) ?_
  obtain ⟨f9, hv⟩ := hv
  obtain ⟨f10, hv⟩ := hv
  refine w_newa (pc := 31) (atype := .long) 1 (N := 60) C ac_long rfl rfl (by decide) dX3_init_31 (by decide) (by decide) (Nat.le_of_ble_eq_true rfl) f9 f10 ?_
  obtain ⟨f11, hv⟩ := hv
  refine w_putRF (pc := 33) C fl_X3_26 rfl rfl rfl dX3_init_33 f11 ?_
  exact w_vret (pc := 36) C dX3_init_36 hv
theorem dX4_fillAtFirst_0 : decode cX4_fillAtFirst 0 = .ok (.aload_n 0, 1) := by decide +kernel
theorem dX4_fillAtFirst_1 : decode cX4_fillAtFirst 1 = .ok (.invokevirtual 69, 3) := by decide +kernel
theorem dX4_fillAtFirst_4 : decode cX4_fillAtFirst 4 = .ok (.iconst 0, 1) := by decide +kernel
theorem dX4_fillAtFirst_5 : decode cX4_fillAtFirst 5 = .ok (.istore_n 1, 1) := by decide +kernel
theorem dX4_fillAtFirst_6 : decode cX4_fillAtFirst 6 = .ok (.iload_n 1, 1) := by decide +kernel
theorem dX4_fillAtFirst_7 : decode cX4_fillAtFirst 7 = .ok (.getstatic 72, 3) := by decide +kernel
theorem dX4_fillAtFirst_10 : decode cX4_fillAtFirst 10 = .ok (.arraylength, 1) := by decide +kernel
theorem dX4_fillAtFirst_11 : decode cX4_fillAtFirst 11 = .ok (.if_icmp .ge 28, 3) := by decide +kernel
theorem dX4_fillAtFirst_14 : decode cX4_fillAtFirst 14 = .ok (.aload_n 0, 1) := by decide +kernel
theorem dX4_fillAtFirst_15 : decode cX4_fillAtFirst 15 = .ok (.iconst 1, 1) := by decide +kernel
theorem dX4_fillAtFirst_16 : decode cX4_fillAtFirst 16 = .ok (.iload_n 1, 1) := by decide +kernel
theorem dX4_fillAtFirst_17 : decode cX4_fillAtFirst 17 = .ok (.bipush 6, 2) := by decide +kernel
theorem dX4_fillAtFirst_19 : decode cX4_fillAtFirst 19 = .ok (.idiv, 1) := by decide +kernel
theorem dX4_fillAtFirst_20 : decode cX4_fillAtFirst 20 = .ok (.iadd, 1) := by decide +kernel
theorem dX4_fillAtFirst_21 : decode cX4_fillAtFirst 21 = .ok (.putfield 18, 3) := by decide +kernel
theorem dX4_fillAtFirst_24 : decode cX4_fillAtFirst 24 = .ok (.aload_n 0, 1) := by decide +kernel
theorem dX4_fillAtFirst_25 : decode cX4_fillAtFirst 25 = .ok (.getstatic 72, 3) := by decide +kernel
theorem dX4_fillAtFirst_28 : decode cX4_fillAtFirst 28 = .ok (.iload_n 1, 1) := by decide +kernel
theorem dX4_fillAtFirst_29 : decode cX4_fillAtFirst 29 = .ok (.iaload, 1) := by decide +kernel
theorem dX4_fillAtFirst_30 : decode cX4_fillAtFirst 30 = .ok (.invokevirtual 75, 3) := by decide +kernel
theorem dX4_fillAtFirst_33 : decode cX4_fillAtFirst 33 = .ok (.iinc 1 1, 3) := by decide +kernel
theorem dX4_fillAtFirst_36 : decode cX4_fillAtFirst 36 = .ok (.goto (-30), 3) := by decide +kernel
theorem dX4_fillAtFirst_39 : decode cX4_fillAtFirst 39 = .ok (.iconst 0, 1) := by decide +kernel
theorem dX4_fillAtFirst_40 : decode cX4_fillAtFirst 40 = .ok (.istore_n 1, 1) := by decide +kernel
theorem dX4_fillAtFirst_41 : decode cX4_fillAtFirst 41 = .ok (.iload_n 1, 1) := by decide +kernel
theorem dX4_fillAtFirst_42 : decode cX4_fillAtFirst 42 = .ok (.getstatic 79, 3) := by decide +kernel
theorem dX4_fillAtFirst_45 : decode cX4_fillAtFirst 45 = .ok (.arraylength, 1) := by decide +kernel
theorem dX4_fillAtFirst_46 : decode cX4_fillAtFirst 46 = .ok (.if_icmp .ge 18, 3) := by decide +kernel
theorem dX4_fillAtFirst_49 : decode cX4_fillAtFirst 49 = .ok (.aload_n 0, 1) := by decide +kernel
theorem dX4_fillAtFirst_50 : decode cX4_fillAtFirst 50 = .ok (.getstatic 79, 3) := by decide +kernel
theorem dX4_fillAtFirst_53 : decode cX4_fillAtFirst 53 = .ok (.iload_n 1, 1) := by decide +kernel
theorem dX4_fillAtFirst_54 : decode cX4_fillAtFirst 54 = .ok (.iaload, 1) := by decide +kernel
theorem dX4_fillAtFirst_55 : decode cX4_fillAtFirst 55 = .ok (.invokevirtual 82, 3) := by decide +kernel
theorem dX4_fillAtFirst_58 : decode cX4_fillAtFirst 58 = .ok (.iinc 1 1, 3) := by decide +kernel
theorem dX4_fillAtFirst_61 : decode cX4_fillAtFirst 61 = .ok (.goto (-20), 3) := by decide +kernel
theorem dX4_fillAtFirst_64 : decode cX4_fillAtFirst 64 = .ok (.return_, 1) := by decide +kernel
theorem dX9_init_0 : decode cX9_init 0 = .ok (.aload_n 0, 1) := by decide +kernel
theorem dX9_init_1 : decode cX9_init 1 = .ok (.invokespecial 1, 3) := by decide +kernel
theorem dX9_init_4 : decode cX9_init 4 = .ok (.aload_n 0, 1) := by decide +kernel
theorem dX9_init_5 : decode cX9_init 5 = .ok (.new 7, 3) := by decide +kernel
theorem dX9_init_8 : decode cX9_init 8 = .ok (.dup, 1) := by decide +kernel
theorem dX9_init_9 : decode cX9_init 9 = .ok (.invokespecial 9, 3) := by decide +kernel
theorem dX9_init_12 : decode cX9_init 12 = .ok (.putfield 10, 3) := by decide +kernel
theorem dX9_init_15 : decode cX9_init 15 = .ok (.aload_n 0, 1) := by decide +kernel
theorem dX9_init_16 : decode cX9_init 16 = .ok (.new 16, 3) := by decide +kernel
theorem dX9_init_19 : decode cX9_init 19 = .ok (.dup, 1) := by decide +kernel
theorem dX9_init_20 : decode cX9_init 20 = .ok (.invokespecial 18, 3) := by decide +kernel
theorem dX9_init_23 : decode cX9_init 23 = .ok (.putfield 19, 3) := by decide +kernel
theorem dX9_init_26 : decode cX9_init 26 = .ok (.aload_n 0, 1) := by decide +kernel
theorem dX9_init_27 : decode cX9_init 27 = .ok (.new 23, 3) := by decide +kernel
theorem dX9_init_30 : decode cX9_init 30 = .ok (.dup, 1) := by decide +kernel
theorem dX9_init_31 : decode cX9_init 31 = .ok (.invokespecial 25, 3) := by decide +kernel
theorem dX9_init_34 : decode cX9_init 34 = .ok (.putfield 26, 3) := by decide +kernel
theorem dX9_init_37 : decode cX9_init 37 = .ok (.aload_n 0, 1) := by decide +kernel
theorem dX9_init_38 : decode cX9_init 38 = .ok (.new 30, 3) := by decide +kernel
theorem dX9_init_41 : decode cX9_init 41 = .ok (.dup, 1) := by decide +kernel
theorem dX9_init_42 : decode cX9_init 42 = .ok (.invokespecial 32, 3) := by decide +kernel
theorem dX9_init_45 : decode cX9_init 45 = .ok (.putfield 33, 3) := by decide +kernel
theorem dX9_init_48 : decode cX9_init 48 = .ok (.aload_n 0, 1) := by decide +kernel
theorem dX9_init_49 : decode cX9_init 49 = .ok (.new 37, 3) := by decide +kernel
theorem dX9_init_52 : decode cX9_init 52 = .ok (.dup, 1) := by decide +kernel
theorem dX9_init_53 : decode cX9_init 53 = .ok (.invokespecial 39, 3) := by decide +kernel
theorem dX9_init_56 : decode cX9_init 56 = .ok (.putfield 40, 3) := by decide +kernel
theorem dX9_init_59 : decode cX9_init 59 = .ok (.aload_n 0, 1) := by decide +kernel
theorem dX9_init_60 : decode cX9_init 60 = .ok (.new 44, 3) := by decide +kernel
theorem dX9_init_63 : decode cX9_init 63 = .ok (.dup, 1) := by decide +kernel
theorem dX9_init_64 : decode cX9_init 64 = .ok (.invokespecial 46, 3) := by decide +kernel
theorem dX9_init_67 : decode cX9_init 67 = .ok (.putfield 47, 3) := by decide +kernel
theorem dX9_init_70 : decode cX9_init 70 = .ok (.aload_n 0, 1) := by decide +kernel
theorem dX9_init_71 : decode cX9_init 71 = .ok (.new 51, 3) := by decide +kernel
theorem dX9_init_74 : decode cX9_init 74 = .ok (.dup, 1) := by decide +kernel
theorem dX9_init_75 : decode cX9_init 75 = .ok (.invokespecial 53, 3) := by decide +kernel
theorem dX9_init_78 : decode cX9_init 78 = .ok (.putfield 54, 3) := by decide +kernel
theorem dX9_init_81 : decode cX9_init 81 = .ok (.aload_n 0, 1) := by decide +kernel
theorem dX9_init_82 : decode cX9_init 82 = .ok (.new 51, 3) := by decide +kernel
theorem dX9_init_85 : decode cX9_init 85 = .ok (.dup, 1) := by decide +kernel
theorem dX9_init_86 : decode cX9_init 86 = .ok (.invokespecial 53, 3) := by decide +kernel
theorem dX9_init_89 : decode cX9_init 89 = .ok (.putfield 58, 3) := by decide +kernel
theorem dX9_init_92 : decode cX9_init 92 = .ok (.aload_n 0, 1) := by decide +kernel
theorem dX9_init_93 : decode cX9_init 93 = .ok (.bipush 7, 2) := by decide +kernel
theorem dX9_init_95 : decode cX9_init 95 = .ok (.anewarray 61, 3) := by decide +kernel
theorem dX9_init_98 : decode cX9_init 98 = .ok (.putfield 63, 3) := by decide +kernel
theorem dX9_init_101 : decode cX9_init 101 = .ok (.aload_n 0, 1) := by decide +kernel
theorem dX9_init_102 : decode cX9_init 102 = .ok (.iconst 2, 1) := by decide +kernel
theorem dX9_init_103 : decode cX9_init 103 = .ok (.anewarray 61, 3) := by decide +kernel
theorem dX9_init_106 : decode cX9_init 106 = .ok (.putfield 67, 3) := by decide +kernel
theorem dX9_init_109 : decode cX9_init 109 = .ok (.aload_n 0, 1) := by decide +kernel
theorem dX9_init_110 : decode cX9_init 110 = .ok (.iconst 0, 1) := by decide +kernel
theorem dX9_init_111 : decode cX9_init 111 = .ok (.putfield 70, 3) := by decide +kernel
theorem dX9_init_114 : decode cX9_init 114 = .ok (.aload_n 0, 1) := by decide +kernel
theorem dX9_init_115 : decode cX9_init 115 = .ok (.iconst 0, 1) := by decide +kernel
theorem dX9_init_116 : decode cX9_init 116 = .ok (.putfield 74, 3) := by decide +kernel
theorem dX9_init_119 : decode cX9_init 119 = .ok (.aload_n 0, 1) := by decide +kernel
theorem dX9_init_120 : decode cX9_init 120 = .ok (.new 61, 3) := by decide +kernel
theorem dX9_init_123 : decode cX9_init 123 = .ok (.dup, 1) := by decide +kernel
theorem dX9_init_124 : decode cX9_init 124 = .ok (.invokespecial 77, 3) := by decide +kernel
theorem dX9_init_127 : decode cX9_init 127 = .ok (.putfield 78, 3) := by decide +kernel
theorem dX9_init_130 : decode cX9_init 130 = .ok (.aload_n 0, 1) := by decide +kernel
theorem dX9_init_131 : decode cX9_init 131 = .ok (.new 61, 3) := by decide +kernel
theorem dX9_init_134 : decode cX9_init 134 = .ok (.dup, 1) := by decide +kernel
theorem dX9_init_135 : decode cX9_init 135 = .ok (.invokespecial 77, 3) := by decide +kernel
theorem dX9_init_138 : decode cX9_init 138 = .ok (.putfield 82, 3) := by decide +kernel
theorem dX9_init_141 : decode cX9_init 141 = .ok (.aload_n 0, 1) := by decide +kernel
theorem dX9_init_142 : decode cX9_init 142 = .ok (.aconst_null, 1) := by decide +kernel
theorem dX9_init_143 : decode cX9_init 143 = .ok (.putfield 85, 3) := by decide +kernel
theorem dX9_init_146 : decode cX9_init 146 = .ok (.aload_n 0, 1) := by decide +kernel
theorem dX9_init_147 : decode cX9_init 147 = .ok (.getfield 78, 3) := by decide +kernel
theorem dX9_init_150 : decode cX9_init 150 = .ok (.invokevirtual 89, 3) := by decide +kernel
theorem dX9_init_153 : decode cX9_init 153 = .ok (.return_, 1) := by decide +kernel
set_option maxRecDepth 20000 in
set_option maxHeartbeats 2000000 in
theorem V_X9_init_0 {X : Ctx} (C : C_X9_init X) {k n : Nat} {Q : Pq} {h : Hp} {v0 : Nat}
    (hv : k + 1 ≤ mcX X ∧ n + 2 ≤ msX X ∧ (∃ k4 n5, k + 1 + k4 ≤ mcX X ∧ n + 2 + n5 ≤ msX X ∧ S_X7_init (lX X) (dtX X) k4 n5 [.ref (hn h)] (nw h 8 0) (QV fun h3 =>
    kd h3 v0 = 10 ∧ k + 1 + k4 + 1 ≤ mcX X ∧ n + 2 + n5 + 2 ≤ msX X ∧ (∃ k10 n11, k + 1 + k4 + 1 + k10 ≤ mcX X ∧ n + 2 + n5 + 2 + n11 ≤ msX X ∧ S_X8_init (lX X) (dtX X) k10 n11 [.ref (hn h3)] (nw (sr h3 v0 0 (some (hn h))) 9 0) (QV fun h9 =>
    kd h9 v0 = 10 ∧ k + 1 + k4 + 1 + k10 + 1 ≤ mcX X ∧ n + 2 + n5 + 2 + n11 + 4 ≤ msX X ∧ S_X6_init (lX X) (dtX X) 0 0 [.ref (hn h9)] (nw (sr h9 v0 1 (some (hn h3))) 7 0) (QV fun h15 =>
    kd h15 v0 = 10 ∧ Wj X (k + 1 + k4 + 1 + k10 + 1) (n + 2 + n5 + 2 + n11 + 4) Q 37 [(0, .ref v0)] [] (sr h15 v0 2 (some (hn h9))))))))) :
    Wj X k n Q 0 [(0, .ref v0)] [] h := by
  refine w_aload_n (pc := 0) C dX9_init_0 rfl ?_
  refine w_objInit (pc := 1) C oi_X9_1 ow_1 ow_2 dX9_init_1 (by decide) (Nat.le_of_ble_eq_true rfl) ?_
  refine w_aload_n (pc := 4) C dX9_init_4 rfl ?_
  obtain ⟨f1, hv⟩ := hv
  obtain ⟨f2, hv⟩ := hv
  refine w_new (pc := 5) C nl_X9_7 (N := 2) rfl dX9_init_5 f1 f2 ?_
  refine w_dup (pc := 8) C dX9_init_8 rfl ?_
  obtain ⟨k4, n5, hm1, hm2, hv⟩ := hv
  refine w_cIN1_0 (pc := 9) C cl_X9_9 li_X7_init (by decide) dX9_init_9 (Nat.le_of_ble_eq_true rfl) hm1 hm2 (hv.mono (fun v h3 hp => ?_))
  obtain ⟨rfl, hv⟩ := hp
  obtain ⟨f6, hv⟩ := hv
  refine w_putRF (pc := 12) C fl_X9_10 rfl rfl rfl dX9_init_12 f6 ?_
  refine w_aload_n (pc := 15) C dX9_init_15 rfl ?_
  obtain ⟨f7, hv⟩ := hv
  obtain ⟨f8, hv⟩ := hv
  refine w_new (pc := 16) C nl_X9_16 (N := 2) rfl dX9_init_16 f7 f8 ?_
  refine w_dup (pc := 19) C dX9_init_19 rfl ?_
  obtain ⟨k10, n11, hm1, hm2, hv⟩ := hv
  refine w_cIN1_0 (pc := 20) C cl_X9_18 li_X8_init (by decide) dX9_init_20 (Nat.le_of_ble_eq_true rfl) hm1 hm2 (hv.mono (fun v h9 hp => ?_))
  obtain ⟨rfl, hv⟩ := hp
  obtain ⟨f12, hv⟩ := hv
  refine w_putRF (pc := 23) C fl_X9_19 rfl rfl rfl dX9_init_23 f12 ?_
  refine w_aload_n (pc := 26) C dX9_init_26 rfl ?_
  obtain ⟨f13, hv⟩ := hv
  obtain ⟨f14, hv⟩ := hv
  refine w_new (pc := 27) C nl_X9_23 (N := 4) rfl dX9_init_27 f13 f14 ?_
  refine w_dup (pc := 30) C dX9_init_30 rfl ?_
  refine w_cIN0_0 (pc := 31) C cl_X9_25 li_X6_init (by decide) dX9_init_31 (Nat.le_of_ble_eq_true rfl) (hv.mono (fun v h15 hp => ?_))
  obtain ⟨rfl, hv⟩ := hp
  obtain ⟨f16, hv⟩ := hv
  refine w_putRF (pc := 34) C fl_X9_26 rfl rfl rfl dX9_init_34 f16 ?_
  refine w_sub ?_ hv
  exact ⟨rfl, trivial⟩
set_option maxRecDepth 20000 in
set_option maxHeartbeats 2000000 in
theorem V_X9_init_37 {X : Ctx} (C : C_X9_init X) {k n : Nat} {Q : Pq} {h : Hp} {v0 : Nat}
    (hv : k + 1 ≤ mcX X ∧ n + 6 ≤ msX X ∧ S_X0_init (lX X) (dtX X) 0 0 [.ref (hn h)] (nw h 1 0) (QV fun h3 =>
    kd h3 v0 = 10 ∧ k + 1 + 1 ≤ mcX X ∧ n + 6 + 4 ≤ msX X ∧ (∃ k8 n9, k + 1 + 1 + k8 ≤ mcX X ∧ n + 6 + 4 + n9 ≤ msX X ∧ S_X1_init (lX X) (dtX X) k8 n9 [.ref (hn h3)] (nw (sr h3 v0 3 (some (hn h))) 2 0) (QV fun h7 =>
    kd h7 v0 = 10 ∧ k + 1 + 1 + k8 + 1 ≤ mcX X ∧ n + 6 + 4 + n9 + 4 ≤ msX X ∧ (∃ k14 n15, k + 1 + 1 + k8 + 1 + k14 ≤ mcX X ∧ n + 6 + 4 + n9 + 4 + n15 ≤ msX X ∧ S_X3_init (lX X) (dtX X) k14 n15 [.ref (hn h7)] (nw (sr h7 v0 4 (some (hn h3))) 4 0) (QV fun h13 =>
    kd h13 v0 = 10 ∧ Wj X (k + 1 + 1 + k8 + 1 + k14) (n + 6 + 4 + n9 + 4 + n15) Q 70 [(0, .ref v0)] [] (sr h13 v0 5 (some (hn h7))))))))) :
    Wj X k n Q 37 [(0, .ref v0)] [] h := by
  refine w_aload_n (pc := 37) C dX9_init_37 rfl ?_
  obtain ⟨f1, hv⟩ := hv
  obtain ⟨f2, hv⟩ := hv
  refine w_new (pc := 38) C nl_X9_30 (N := 6) rfl dX9_init_38 f1 f2 ?_
  refine w_dup (pc := 41) C dX9_init_41 rfl ?_
  refine w_cIN0_0 (pc := 42) C cl_X9_32 li_X0_init (by decide) dX9_init_42 (Nat.le_of_ble_eq_true rfl) (hv.mono (fun v h3 hp => ?_))
  obtain ⟨rfl, hv⟩ := hp
  obtain ⟨f4, hv⟩ := hv
  refine w_putRF (pc := 45) C fl_X9_33 rfl rfl rfl dX9_init_45 f4 ?_
  refine w_aload_n (pc := 48) C dX9_init_48 rfl ?_
  obtain ⟨f5, hv⟩ := hv
  obtain ⟨f6, hv⟩ := hv
  refine w_new (pc := 49) C nl_X9_37 (N := 4) rfl dX9_init_49 f5 f6 ?_
  refine w_dup (pc := 52) C dX9_init_52 rfl ?_
  obtain ⟨k8, n9, hm1, hm2, hv⟩ := hv
  refine w_cIN1_0 (pc := 53) C cl_X9_39 li_X1_init (by decide) dX9_init_53 (Nat.le_of_ble_eq_true rfl) hm1 hm2 (hv.mono (fun v h7 hp => ?_))
  obtain ⟨rfl, hv⟩ := hp
  obtain ⟨f10, hv⟩ := hv
  refine w_putRF (pc := 56) C fl_X9_40 rfl rfl rfl dX9_init_56 f10 ?_
  refine w_aload_n (pc := 59) C dX9_init_59 rfl ?_
  obtain ⟨f11, hv⟩ := hv
  obtain ⟨f12, hv⟩ := hv
  refine w_new (pc := 60) C nl_X9_44 (N := 4) rfl dX9_init_60 f11 f12 ?_
  refine w_dup (pc := 63) C dX9_init_63 rfl ?_
  obtain ⟨k14, n15, hm1, hm2, hv⟩ := hv
  refine w_cIN1_0 (pc := 64) C cl_X9_46 li_X3_init (by decide) dX9_init_64 (Nat.le_of_ble_eq_true rfl) hm1 hm2 (hv.mono (fun v h13 hp => ?_))
  obtain ⟨rfl, hv⟩ := hp
  obtain ⟨f16, hv⟩ := hv
  refine w_putRF (pc := 67) C fl_X9_47 rfl rfl rfl dX9_init_67 f16 ?_
  refine w_sub ?_ hv
  exact ⟨rfl, trivial⟩
set_option maxRecDepth 20000 in
set_option maxHeartbeats 2000000 in
theorem V_X9_init_70 {X : Ctx} (C : C_X9_init X) {k n : Nat} {Q : Pq} {h : Hp} {v0 : Nat}
    (hv : k + 1 ≤ mcX X ∧ n + 2 ≤ msX X ∧ S_X2_init (lX X) (dtX X) 0 0 [.ref (hn h)] (nw h 3 0) (QV fun h3 =>
    kd h3 v0 = 10 ∧ k + 1 + 1 ≤ mcX X ∧ n + 2 + 2 ≤ msX X ∧ S_X2_init (lX X) (dtX X) 0 0 [.ref (hn h3)] (nw (sr h3 v0 6 (some (hn h))) 3 0) (QV fun h7 =>
    kd h7 v0 = 10 ∧ k + 1 + 1 + 1 ≤ mcX X ∧ n + 2 + 2 + 7 ≤ msX X ∧ kd (nw h7 24 7) v0 = 10 ∧ Wj X (k + 1 + 1 + 1) (n + 2 + 2 + 7) Q 101 [(0, .ref v0)] [] (sr (nw (sr h7 v0 7 (some (hn h3))) 24 7) v0 8 (some (hn h7)))))) :
    Wj X k n Q 70 [(0, .ref v0)] [] h := by
  refine w_aload_n (pc := 70) C dX9_init_70 rfl ?_
  obtain ⟨f1, hv⟩ := hv
  obtain ⟨f2, hv⟩ := hv
  refine w_new (pc := 71) C nl_X9_51 (N := 2) rfl dX9_init_71 f1 f2 ?_
  refine w_dup (pc := 74) C dX9_init_74 rfl ?_
  refine w_cIN0_0 (pc := 75) C cl_X9_53 li_X2_init (by decide) dX9_init_75 (Nat.le_of_ble_eq_true rfl) (hv.mono (fun v h3 hp => ?_))
  obtain ⟨rfl, hv⟩ := hp
  obtain ⟨f4, hv⟩ := hv
  refine w_putRF (pc := 78) C fl_X9_54 rfl rfl rfl dX9_init_78 f4 ?_
  refine w_aload_n (pc := 81) C dX9_init_81 rfl ?_
  obtain ⟨f5, hv⟩ := hv
  obtain ⟨f6, hv⟩ := hv
  refine w_new (pc := 82) C nl_X9_51 (N := 2) rfl dX9_init_82 f5 f6 ?_
  refine w_dup (pc := 85) C dX9_init_85 rfl ?_
  refine w_cIN0_0 (pc := 86) C cl_X9_53 li_X2_init (by decide) dX9_init_86 (Nat.le_of_ble_eq_true rfl) (hv.mono (fun v h7 hp => ?_))
  obtain ⟨rfl, hv⟩ := hp
  obtain ⟨f8, hv⟩ := hv
  refine w_putRF (pc := 89) C fl_X9_58 rfl rfl rfl dX9_init_89 f8 ?_
  refine w_aload_n (pc := 92) C dX9_init_92 rfl ?_
  refine w_bipush (pc := 93) C (v := 7) dX9_init_93 (by decide) ?_
  obtain ⟨f9, hv⟩ := hv
  obtain ⟨f10, hv⟩ := hv
  refine w_anew (pc := 95) (N := 7) C cw_Head61 dX9_init_95 (by decide) (by decide) (Nat.le_of_ble_eq_true rfl) f9 f10 ?_
  obtain ⟨f11, hv⟩ := hv
  refine w_putRF (pc := 98) C fl_X9_63 rfl rfl rfl dX9_init_98 f11 ?_
  refine w_sub ?_ hv
  exact ⟨rfl, trivial⟩
set_option maxRecDepth 20000 in
set_option maxHeartbeats 2000000 in
theorem V_X9_init_101 {X : Ctx} (C : C_X9_init X) {k n : Nat} {Q : Pq} {h : Hp} {v0 : Nat}
    (hv : k + 1 ≤ mcX X ∧ n + 2 ≤ msX X ∧ kd (nw h 24 2) v0 = 10 ∧ Wj X (k + 1) (n + 2) Q 119 [(0, .ref v0)] [] (si (si (sr (nw h 24 2) v0 9 (some (hn h))) v0 10 0) v0 11 0)) :
    Wj X k n Q 101 [(0, .ref v0)] [] h := by
  refine w_aload_n (pc := 101) C dX9_init_101 rfl ?_
  refine w_iconst (pc := 102) C (v := 2) dX9_init_102 (by decide) ?_
  obtain ⟨f1, hv⟩ := hv
  obtain ⟨f2, hv⟩ := hv
  refine w_anew (pc := 103) (N := 2) C cw_Head61 dX9_init_103 (by decide) (by decide) (Nat.le_of_ble_eq_true rfl) f1 f2 ?_
  obtain ⟨f3, hv⟩ := hv
  refine w_putRF (pc := 106) C fl_X9_67 rfl rfl rfl dX9_init_106 f3 ?_
  refine w_aload_n (pc := 109) C dX9_init_109 rfl ?_
  refine w_iconst (pc := 110) C (v := 0) dX9_init_110 (by decide) ?_
  refine w_putI (pc := 111) C fl_X9_70 rfl rfl dX9_init_111 f3 ?_
  refine w_aload_n (pc := 114) C dX9_init_114 rfl ?_
  refine w_iconst (pc := 115) C (v := 0) dX9_init_115 (by decide) ?_
  refine w_putI (pc := 116) C fl_X9_74 rfl rfl dX9_init_116 f3 ?_
  refine w_sub ?_ hv
  exact ⟨rfl, trivial⟩
set_option maxRecDepth 20000 in
set_option maxHeartbeats 2000000 in
theorem V_X9_init_119 {X : Ctx} (C : C_X9_init X) {k n : Nat} {Q : Pq} {h : Hp} {v0 : Nat}
    (hv : k + 1 ≤ mcX X ∧ n + 17 ≤ msX X ∧ (∃ k4 n5, k + 1 + k4 ≤ mcX X ∧ n + 17 + n5 ≤ msX X ∧ S_X4_init (lX X) (dtX X) k4 n5 [.ref (hn h)] (nw h 5 0) (QV fun h3 =>
    kd h3 v0 = 10 ∧ k + 1 + k4 + 1 ≤ mcX X ∧ n + 17 + n5 + 17 ≤ msX X ∧ (∃ k10 n11, k + 1 + k4 + 1 + k10 ≤ mcX X ∧ n + 17 + n5 + 17 + n11 ≤ msX X ∧ S_X4_init (lX X) (dtX X) k10 n11 [.ref (hn h3)] (nw (sr h3 v0 12 (some (hn h))) 5 0) (QV fun h9 =>
    kd h9 v0 = 10 ∧ Wj X (k + 1 + k4 + 1 + k10) (n + 17 + n5 + 17 + n11) Q 146 [(0, .ref v0)] [] (sr (sr h9 v0 13 (some (hn h3))) v0 14 none)))))) :
    Wj X k n Q 119 [(0, .ref v0)] [] h := by
  refine w_aload_n (pc := 119) C dX9_init_119 rfl ?_
  obtain ⟨f1, hv⟩ := hv
  obtain ⟨f2, hv⟩ := hv
  refine w_new (pc := 120) C nl_X9_61 (N := 17) rfl dX9_init_120 f1 f2 ?_
  refine w_dup (pc := 123) C dX9_init_123 rfl ?_
  obtain ⟨k4, n5, hm1, hm2, hv⟩ := hv
  refine w_cIN1_0 (pc := 124) C cl_X9_77 li_X4_init (by decide) dX9_init_124 (Nat.le_of_ble_eq_true rfl) hm1 hm2 (hv.mono (fun v h3 hp => ?_))
  obtain ⟨rfl, hv⟩ := hp
  obtain ⟨f6, hv⟩ := hv
  refine w_putR (pc := 127) C fl_X9_78 rfl rfl dX9_init_127 f6 ?_
  refine w_aload_n (pc := 130) C dX9_init_130 rfl ?_
  obtain ⟨f7, hv⟩ := hv
  obtain ⟨f8, hv⟩ := hv
  refine w_new (pc := 131) C nl_X9_61 (N := 17) rfl dX9_init_131 f7 f8 ?_
  refine w_dup (pc := 134) C dX9_init_134 rfl ?_
  obtain ⟨k10, n11, hm1, hm2, hv⟩ := hv
  refine w_cIN1_0 (pc := 135) C cl_X9_77 li_X4_init (by decide) dX9_init_135 (Nat.le_of_ble_eq_true rfl) hm1 hm2 (hv.mono (fun v h9 hp => ?_))
  obtain ⟨rfl, hv⟩ := hp
  obtain ⟨f12, hv⟩ := hv
  refine w_putR (pc := 138) C fl_X9_82 rfl rfl dX9_init_138 f12 ?_
  refine w_aload_n (pc := 141) C dX9_init_141 rfl ?_
  refine w_null (pc := 142) C dX9_init_142 ?_
  refine w_putN (pc := 143) C fl_X9_85 rfl rfl dX9_init_143 f12 ?_
  refine w_sub ?_ hv
  exact ⟨rfl, trivial⟩
set_option maxRecDepth 20000 in
set_option maxHeartbeats 2000000 in
theorem V_X9_init_146 {X : Ctx} (C : C_X9_init X) {k n : Nat} {Q : Pq} {h : Hp} {v0 : Nat}
    (hv : kd h v0 = 10 ∧ nn h v0 12 ∧ kd h (gp h v0 12) = 5 ∧ S_X4_fillAtFirst (lX X) (dtX X) 0 0 [.ref (gp h v0 12)] h (QV fun h4 =>
    Q none h4)) :
    Wj X k n Q 146 [(0, .ref v0)] [] h := by
  refine w_aload_n (pc := 146) C dX9_init_146 rfl ?_
  obtain ⟨f1, hv⟩ := hv
  obtain ⟨f2, hv⟩ := hv
  refine w_getR (pc := 147) C fl_X9_78 rfl dX9_init_147 f1 f2 ?_
  obtain ⟨f3, hv⟩ := hv
  refine w_cV0_0 (pc := 150) C cl_X9_89 lv_X4_fillAtFirst (by decide) dX9_init_150 (Nat.le_of_ble_eq_true rfl) (c := 4) rfl f3 (hv.mono (fun v h4 hp => ?_))
  obtain ⟨rfl, hv⟩ := hp
  exact w_vret (pc := 153) C dX9_init_153 hv
theorem dX10_init_0 : decode cX10_init 0 = .ok (.aload_n 0, 1) := by decide +kernel
theorem dX10_init_1 : decode cX10_init 1 = .ok (.invokespecial 62, 3) := by decide +kernel
theorem dX10_init_4 : decode cX10_init 4 = .ok (.aload_n 0, 1) := by decide +kernel
theorem dX10_init_5 : decode cX10_init 5 = .ok (.bipush 64, 2) := by decide +kernel
theorem dX10_init_7 : decode cX10_init 7 = .ok (.newarray .long, 2) := by decide +kernel
theorem dX10_init_9 : decode cX10_init 9 = .ok (.putfield 7, 3) := by decide +kernel
theorem dX10_init_12 : decode cX10_init 12 = .ok (.aload_n 0, 1) := by decide +kernel
theorem dX10_init_13 : decode cX10_init 13 = .ok (.bipush 80, 2) := by decide +kernel
theorem dX10_init_15 : decode cX10_init 15 = .ok (.newarray .int, 2) := by decide +kernel
theorem dX10_init_17 : decode cX10_init 17 = .ok (.putfield 25, 3) := by decide +kernel
theorem dX10_init_20 : decode cX10_init 20 = .ok (.aload_n 0, 1) := by decide +kernel
theorem dX10_init_21 : decode cX10_init 21 = .ok (.sipush 732, 3) := by decide +kernel
theorem dX10_init_24 : decode cX10_init 24 = .ok (.newarray .int, 2) := by decide +kernel
theorem dX10_init_26 : decode cX10_init 26 = .ok (.putfield 68, 3) := by decide +kernel
theorem dX10_init_29 : decode cX10_init 29 = .ok (.aload_n 0, 1) := by decide +kernel
theorem dX10_init_30 : decode cX10_init 30 = .ok (.sipush 1464, 3) := by decide +kernel
theorem dX10_init_33 : decode cX10_init 33 = .ok (.newarray .long, 2) := by decide +kernel
theorem dX10_init_35 : decode cX10_init 35 = .ok (.putfield 71, 3) := by decide +kernel
theorem dX10_init_38 : decode cX10_init 38 = .ok (.aload_n 0, 1) := by decide +kernel
theorem dX10_init_39 : decode cX10_init 39 = .ok (.bipush 18, 2) := by decide +kernel
theorem dX10_init_41 : decode cX10_init 41 = .ok (.newarray .int, 2) := by decide +kernel
theorem dX10_init_43 : decode cX10_init 43 = .ok (.dup, 1) := by decide +kernel
theorem dX10_init_44 : decode cX10_init 44 = .ok (.iconst 0, 1) := by decide +kernel
theorem dX10_init_45 : decode cX10_init 45 = .ok (.bipush 15, 2) := by decide +kernel
theorem dX10_init_47 : decode cX10_init 47 = .ok (.iastore, 1) := by decide +kernel
theorem dX10_init_48 : decode cX10_init 48 = .ok (.dup, 1) := by decide +kernel
theorem dX10_init_49 : decode cX10_init 49 = .ok (.iconst 1, 1) := by decide +kernel
theorem dX10_init_50 : decode cX10_init 50 = .ok (.bipush 16, 2) := by decide +kernel
theorem dX10_init_52 : decode cX10_init 52 = .ok (.iastore, 1) := by decide +kernel
theorem dX10_init_53 : decode cX10_init 53 = .ok (.dup, 1) := by decide +kernel
theorem dX10_init_54 : decode cX10_init 54 = .ok (.iconst 2, 1) := by decide +kernel
theorem dX10_init_55 : decode cX10_init 55 = .ok (.bipush 17, 2) := by decide +kernel
theorem dX10_init_57 : decode cX10_init 57 = .ok (.iastore, 1) := by decide +kernel
theorem dX10_init_58 : decode cX10_init 58 = .ok (.dup, 1) := by decide +kernel
theorem dX10_init_59 : decode cX10_init 59 = .ok (.iconst 3, 1) := by decide +kernel
theorem dX10_init_60 : decode cX10_init 60 = .ok (.bipush 18, 2) := by decide +kernel
theorem dX10_init_62 : decode cX10_init 62 = .ok (.iastore, 1) := by decide +kernel
theorem dX10_init_63 : decode cX10_init 63 = .ok (.dup, 1) := by decide +kernel
theorem dX10_init_64 : decode cX10_init 64 = .ok (.iconst 4, 1) := by decide +kernel
theorem dX10_init_65 : decode cX10_init 65 = .ok (.bipush 19, 2) := by decide +kernel
theorem dX10_init_67 : decode cX10_init 67 = .ok (.iastore, 1) := by decide +kernel
theorem dX10_init_68 : decode cX10_init 68 = .ok (.dup, 1) := by decide +kernel
theorem dX10_init_69 : decode cX10_init 69 = .ok (.iconst 5, 1) := by decide +kernel
theorem dX10_init_70 : decode cX10_init 70 = .ok (.bipush 20, 2) := by decide +kernel
theorem dX10_init_72 : decode cX10_init 72 = .ok (.iastore, 1) := by decide +kernel
theorem dX10_init_73 : decode cX10_init 73 = .ok (.dup, 1) := by decide +kernel
theorem dX10_init_74 : decode cX10_init 74 = .ok (.bipush 6, 2) := by decide +kernel
theorem dX10_init_76 : decode cX10_init 76 = .ok (.bipush 21, 2) := by decide +kernel
theorem dX10_init_78 : decode cX10_init 78 = .ok (.iastore, 1) := by decide +kernel
theorem dX10_init_79 : decode cX10_init 79 = .ok (.dup, 1) := by decide +kernel
theorem dX10_init_80 : decode cX10_init 80 = .ok (.bipush 7, 2) := by decide +kernel
theorem dX10_init_82 : decode cX10_init 82 = .ok (.bipush 23, 2) := by decide +kernel
theorem dX10_init_84 : decode cX10_init 84 = .ok (.iastore, 1) := by decide +kernel
theorem dX10_init_85 : decode cX10_init 85 = .ok (.dup, 1) := by decide +kernel
theorem dX10_init_86 : decode cX10_init 86 = .ok (.bipush 8, 2) := by decide +kernel
theorem dX10_init_88 : decode cX10_init 88 = .ok (.bipush 27, 2) := by decide +kernel
theorem dX10_init_90 : decode cX10_init 90 = .ok (.iastore, 1) := by decide +kernel
theorem dX10_init_91 : decode cX10_init 91 = .ok (.dup, 1) := by decide +kernel
theorem dX10_init_92 : decode cX10_init 92 = .ok (.bipush 9, 2) := by decide +kernel
theorem dX10_init_94 : decode cX10_init 94 = .ok (.bipush 29, 2) := by decide +kernel
theorem dX10_init_96 : decode cX10_init 96 = .ok (.iastore, 1) := by decide +kernel
theorem dX10_init_97 : decode cX10_init 97 = .ok (.dup, 1) := by decide +kernel
theorem dX10_init_98 : decode cX10_init 98 = .ok (.bipush 10, 2) := by decide +kernel
theorem dX10_init_100 : decode cX10_init 100 = .ok (.bipush 31, 2) := by decide +kernel
theorem dX10_init_102 : decode cX10_init 102 = .ok (.iastore, 1) := by decide +kernel
theorem dX10_init_103 : decode cX10_init 103 = .ok (.dup, 1) := by decide +kernel
theorem dX10_init_104 : decode cX10_init 104 = .ok (.bipush 11, 2) := by decide +kernel
theorem dX10_init_106 : decode cX10_init 106 = .ok (.bipush 33, 2) := by decide +kernel
theorem dX10_init_108 : decode cX10_init 108 = .ok (.iastore, 1) := by decide +kernel
theorem dX10_init_109 : decode cX10_init 109 = .ok (.dup, 1) := by decide +kernel
theorem dX10_init_110 : decode cX10_init 110 = .ok (.bipush 12, 2) := by decide +kernel
theorem dX10_init_112 : decode cX10_init 112 = .ok (.bipush 37, 2) := by decide +kernel
theorem dX10_init_114 : decode cX10_init 114 = .ok (.iastore, 1) := by decide +kernel
theorem dX10_init_115 : decode cX10_init 115 = .ok (.dup, 1) := by decide +kernel
theorem dX10_init_116 : decode cX10_init 116 = .ok (.bipush 13, 2) := by decide +kernel
theorem dX10_init_118 : decode cX10_init 118 = .ok (.bipush 39, 2) := by decide +kernel
theorem dX10_init_120 : decode cX10_init 120 = .ok (.iastore, 1) := by decide +kernel
theorem dX10_init_121 : decode cX10_init 121 = .ok (.dup, 1) := by decide +kernel
theorem dX10_init_122 : decode cX10_init 122 = .ok (.bipush 14, 2) := by decide +kernel
theorem dX10_init_124 : decode cX10_init 124 = .ok (.bipush 41, 2) := by decide +kernel
theorem dX10_init_126 : decode cX10_init 126 = .ok (.iastore, 1) := by decide +kernel
theorem dX10_init_127 : decode cX10_init 127 = .ok (.dup, 1) := by decide +kernel
theorem dX10_init_128 : decode cX10_init 128 = .ok (.bipush 15, 2) := by decide +kernel
theorem dX10_init_130 : decode cX10_init 130 = .ok (.bipush 43, 2) := by decide +kernel
theorem dX10_init_132 : decode cX10_init 132 = .ok (.iastore, 1) := by decide +kernel
theorem dX10_init_133 : decode cX10_init 133 = .ok (.dup, 1) := by decide +kernel
theorem dX10_init_134 : decode cX10_init 134 = .ok (.bipush 16, 2) := by decide +kernel
theorem dX10_init_136 : decode cX10_init 136 = .ok (.bipush 47, 2) := by decide +kernel
theorem dX10_init_138 : decode cX10_init 138 = .ok (.iastore, 1) := by decide +kernel
theorem dX10_init_139 : decode cX10_init 139 = .ok (.dup, 1) := by decide +kernel
theorem dX10_init_140 : decode cX10_init 140 = .ok (.bipush 17, 2) := by decide +kernel
theorem dX10_init_142 : decode cX10_init 142 = .ok (.bipush 49, 2) := by decide +kernel
theorem dX10_init_144 : decode cX10_init 144 = .ok (.iastore, 1) := by decide +kernel
theorem dX10_init_145 : decode cX10_init 145 = .ok (.putfield 74, 3) := by decide +kernel
theorem dX10_init_148 : decode cX10_init 148 = .ok (.aload_n 0, 1) := by decide +kernel
theorem dX10_init_149 : decode cX10_init 149 = .ok (.bipush 12, 2) := by decide +kernel
theorem dX10_init_151 : decode cX10_init 151 = .ok (.newarray .int, 2) := by decide +kernel
theorem dX10_init_153 : decode cX10_init 153 = .ok (.dup, 1) := by decide +kernel
theorem dX10_init_154 : decode cX10_init 154 = .ok (.iconst 0, 1) := by decide +kernel
theorem dX10_init_155 : decode cX10_init 155 = .ok (.bipush 24, 2) := by decide +kernel
theorem dX10_init_157 : decode cX10_init 157 = .ok (.iastore, 1) := by decide +kernel
theorem dX10_init_158 : decode cX10_init 158 = .ok (.dup, 1) := by decide +kernel
theorem dX10_init_159 : decode cX10_init 159 = .ok (.iconst 1, 1) := by decide +kernel
theorem dX10_init_160 : decode cX10_init 160 = .ok (.bipush 24, 2) := by decide +kernel
theorem dX10_init_162 : decode cX10_init 162 = .ok (.iastore, 1) := by decide +kernel
theorem dX10_init_163 : decode cX10_init 163 = .ok (.dup, 1) := by decide +kernel
theorem dX10_init_164 : decode cX10_init 164 = .ok (.iconst 2, 1) := by decide +kernel
theorem dX10_init_165 : decode cX10_init 165 = .ok (.bipush 28, 2) := by decide +kernel
theorem dX10_init_167 : decode cX10_init 167 = .ok (.iastore, 1) := by decide +kernel
theorem dX10_init_168 : decode cX10_init 168 = .ok (.dup, 1) := by decide +kernel
theorem dX10_init_169 : decode cX10_init 169 = .ok (.iconst 3, 1) := by decide +kernel
theorem dX10_init_170 : decode cX10_init 170 = .ok (.bipush 32, 2) := by decide +kernel
theorem dX10_init_172 : decode cX10_init 172 = .ok (.iastore, 1) := by decide +kernel
theorem dX10_init_173 : decode cX10_init 173 = .ok (.dup, 1) := by decide +kernel
theorem dX10_init_174 : decode cX10_init 174 = .ok (.iconst 4, 1) := by decide +kernel
theorem dX10_init_175 : decode cX10_init 175 = .ok (.bipush 40, 2) := by decide +kernel
theorem dX10_init_177 : decode cX10_init 177 = .ok (.iastore, 1) := by decide +kernel
theorem dX10_init_178 : decode cX10_init 178 = .ok (.dup, 1) := by decide +kernel
theorem dX10_init_179 : decode cX10_init 179 = .ok (.iconst 5, 1) := by decide +kernel
theorem dX10_init_180 : decode cX10_init 180 = .ok (.bipush 44, 2) := by decide +kernel
theorem dX10_init_182 : decode cX10_init 182 = .ok (.iastore, 1) := by decide +kernel
theorem dX10_init_183 : decode cX10_init 183 = .ok (.dup, 1) := by decide +kernel
theorem dX10_init_184 : decode cX10_init 184 = .ok (.bipush 6, 2) := by decide +kernel
theorem dX10_init_186 : decode cX10_init 186 = .ok (.bipush 48, 2) := by decide +kernel
theorem dX10_init_188 : decode cX10_init 188 = .ok (.iastore, 1) := by decide +kernel
theorem dX10_init_189 : decode cX10_init 189 = .ok (.dup, 1) := by decide +kernel
theorem dX10_init_190 : decode cX10_init 190 = .ok (.bipush 7, 2) := by decide +kernel
theorem dX10_init_192 : decode cX10_init 192 = .ok (.bipush 56, 2) := by decide +kernel
theorem dX10_init_194 : decode cX10_init 194 = .ok (.iastore, 1) := by decide +kernel
theorem dX10_init_195 : decode cX10_init 195 = .ok (.dup, 1) := by decide +kernel
theorem dX10_init_196 : decode cX10_init 196 = .ok (.bipush 8, 2) := by decide +kernel
theorem dX10_init_198 : decode cX10_init 198 = .ok (.bipush 64, 2) := by decide +kernel
theorem dX10_init_200 : decode cX10_init 200 = .ok (.iastore, 1) := by decide +kernel
theorem dX10_init_201 : decode cX10_init 201 = .ok (.dup, 1) := by decide +kernel
theorem dX10_init_202 : decode cX10_init 202 = .ok (.bipush 9, 2) := by decide +kernel
theorem dX10_init_204 : decode cX10_init 204 = .ok (.bipush 72, 2) := by decide +kernel
theorem dX10_init_206 : decode cX10_init 206 = .ok (.iastore, 1) := by decide +kernel
theorem dX10_init_207 : decode cX10_init 207 = .ok (.dup, 1) := by decide +kernel
theorem dX10_init_208 : decode cX10_init 208 = .ok (.bipush 10, 2) := by decide +kernel
theorem dX10_init_210 : decode cX10_init 210 = .ok (.bipush 86, 2) := by decide +kernel
theorem dX10_init_212 : decode cX10_init 212 = .ok (.iastore, 1) := by decide +kernel
theorem dX10_init_213 : decode cX10_init 213 = .ok (.dup, 1) := by decide +kernel
theorem dX10_init_214 : decode cX10_init 214 = .ok (.bipush 11, 2) := by decide +kernel
theorem dX10_init_216 : decode cX10_init 216 = .ok (.bipush 100, 2) := by decide +kernel
theorem dX10_init_218 : decode cX10_init 218 = .ok (.iastore, 1) := by decide +kernel
theorem dX10_init_219 : decode cX10_init 219 = .ok (.putfield 77, 3) := by decide +kernel
theorem dX10_init_222 : decode cX10_init 222 = .ok (.aload_n 0, 1) := by decide +kernel
theorem dX10_init_223 : decode cX10_init 223 = .ok (.iconst 4, 1) := by decide +kernel
theorem dX10_init_224 : decode cX10_init 224 = .ok (.newarray .int, 2) := by decide +kernel
theorem dX10_init_226 : decode cX10_init 226 = .ok (.putfield 80, 3) := by decide +kernel
theorem dX10_init_229 : decode cX10_init 229 = .ok (.aload_n 0, 1) := by decide +kernel
theorem dX10_init_230 : decode cX10_init 230 = .ok (.iconst 4, 1) := by decide +kernel
theorem dX10_init_231 : decode cX10_init 231 = .ok (.newarray .int, 2) := by decide +kernel
theorem dX10_init_233 : decode cX10_init 233 = .ok (.putfield 83, 3) := by decide +kernel
theorem dX10_init_236 : decode cX10_init 236 = .ok (.aload_n 0, 1) := by decide +kernel
theorem dX10_init_237 : decode cX10_init 237 = .ok (.sipush 12100, 3) := by decide +kernel
theorem dX10_init_240 : decode cX10_init 240 = .ok (.newarray .long, 2) := by decide +kernel
theorem dX10_init_242 : decode cX10_init 242 = .ok (.putfield 86, 3) := by decide +kernel
theorem dX10_init_245 : decode cX10_init 245 = .ok (.aload_n 0, 1) := by decide +kernel
theorem dX10_init_246 : decode cX10_init 246 = .ok (.bipush 120, 2) := by decide +kernel
theorem dX10_init_248 : decode cX10_init 248 = .ok (.newarray .long, 2) := by decide +kernel
theorem dX10_init_250 : decode cX10_init 250 = .ok (.putfield 89, 3) := by decide +kernel
theorem dX10_init_253 : decode cX10_init 253 = .ok (.aload_n 0, 1) := by decide +kernel
theorem dX10_init_254 : decode cX10_init 254 = .ok (.bipush 60, 2) := by decide +kernel
theorem dX10_init_256 : decode cX10_init 256 = .ok (.newarray .long, 2) := by decide +kernel
theorem dX10_init_258 : decode cX10_init 258 = .ok (.putfield 92, 3) := by decide +kernel
theorem dX10_init_261 : decode cX10_init 261 = .ok (.aload_n 0, 1) := by decide +kernel
theorem dX10_init_262 : decode cX10_init 262 = .ok (.bipush 80, 2) := by decide +kernel
theorem dX10_init_264 : decode cX10_init 264 = .ok (.newarray .int, 2) := by decide +kernel
theorem dX10_init_266 : decode cX10_init 266 = .ok (.putfield 95, 3) := by decide +kernel
theorem dX10_init_269 : decode cX10_init 269 = .ok (.aload_n 0, 1) := by decide +kernel
theorem dX10_init_270 : decode cX10_init 270 = .ok (.bipush 80, 2) := by decide +kernel
theorem dX10_init_272 : decode cX10_init 272 = .ok (.newarray .int, 2) := by decide +kernel
theorem dX10_init_274 : decode cX10_init 274 = .ok (.putfield 98, 3) := by decide +kernel
theorem dX10_init_277 : decode cX10_init 277 = .ok (.aload_n 0, 1) := by decide +kernel
theorem dX10_init_278 : decode cX10_init 278 = .ok (.bipush 80, 2) := by decide +kernel
theorem dX10_init_280 : decode cX10_init 280 = .ok (.newarray .int, 2) := by decide +kernel
theorem dX10_init_282 : decode cX10_init 282 = .ok (.putfield 101, 3) := by decide +kernel
theorem dX10_init_285 : decode cX10_init 285 = .ok (.aload_n 0, 1) := by decide +kernel
theorem dX10_init_286 : decode cX10_init 286 = .ok (.bipush 80, 2) := by decide +kernel
theorem dX10_init_288 : decode cX10_init 288 = .ok (.newarray .int, 2) := by decide +kernel
theorem dX10_init_290 : decode cX10_init 290 = .ok (.putfield 104, 3) := by decide +kernel
theorem dX10_init_293 : decode cX10_init 293 = .ok (.aload_n 0, 1) := by decide +kernel
theorem dX10_init_294 : decode cX10_init 294 = .ok (.iconst 2, 1) := by decide +kernel
theorem dX10_init_295 : decode cX10_init 295 = .ok (.newarray .boolean, 2) := by decide +kernel
theorem dX10_init_297 : decode cX10_init 297 = .ok (.putfield 107, 3) := by decide +kernel
theorem dX10_init_300 : decode cX10_init 300 = .ok (.aload_n 0, 1) := by decide +kernel
theorem dX10_init_301 : decode cX10_init 301 = .ok (.getfield 68, 3) := by decide +kernel
theorem dX10_init_304 : decode cX10_init 304 = .ok (.iconst 0, 1) := by decide +kernel
theorem dX10_init_305 : decode cX10_init 305 = .ok (.bipush 40, 2) := by decide +kernel
theorem dX10_init_307 : decode cX10_init 307 = .ok (.iastore, 1) := by decide +kernel
theorem dX10_init_308 : decode cX10_init 308 = .ok (.aload_n 0, 1) := by decide +kernel
theorem dX10_init_309 : decode cX10_init 309 = .ok (.getfield 68, 3) := by decide +kernel
theorem dX10_init_312 : decode cX10_init 312 = .ok (.iconst 1, 1) := by decide +kernel
theorem dX10_init_313 : decode cX10_init 313 = .ok (.bipush 50, 2) := by decide +kernel
theorem dX10_init_315 : decode cX10_init 315 = .ok (.iastore, 1) := by decide +kernel
theorem dX10_init_316 : decode cX10_init 316 = .ok (.aload_n 0, 1) := by decide +kernel
theorem dX10_init_317 : decode cX10_init 317 = .ok (.getfield 68, 3) := by decide +kernel
theorem dX10_init_320 : decode cX10_init 320 = .ok (.iconst 2, 1) := by decide +kernel
theorem dX10_init_321 : decode cX10_init 321 = .ok (.iconst 3, 1) := by decide +kernel
theorem dX10_init_322 : decode cX10_init 322 = .ok (.iastore, 1) := by decide +kernel
theorem dX10_init_323 : decode cX10_init 323 = .ok (.aload_n 0, 1) := by decide +kernel
theorem dX10_init_324 : decode cX10_init 324 = .ok (.getfield 68, 3) := by decide +kernel
theorem dX10_init_327 : decode cX10_init 327 = .ok (.iconst 3, 1) := by decide +kernel
theorem dX10_init_328 : decode cX10_init 328 = .ok (.bipush 18, 2) := by decide +kernel
theorem dX10_init_330 : decode cX10_init 330 = .ok (.iastore, 1) := by decide +kernel
theorem dX10_init_331 : decode cX10_init 331 = .ok (.aload_n 0, 1) := by decide +kernel
theorem dX10_init_332 : decode cX10_init 332 = .ok (.getfield 68, 3) := by decide +kernel
theorem dX10_init_335 : decode cX10_init 335 = .ok (.iconst 4, 1) := by decide +kernel
theorem dX10_init_336 : decode cX10_init 336 = .ok (.bipush 12, 2) := by decide +kernel
theorem dX10_init_338 : decode cX10_init 338 = .ok (.iastore, 1) := by decide +kernel
theorem dX10_init_339 : decode cX10_init 339 = .ok (.iconst 0, 1) := by decide +kernel
theorem dX10_init_340 : decode cX10_init 340 = .ok (.istore_n 1, 1) := by decide +kernel
theorem dX10_init_341 : decode cX10_init 341 = .ok (.iload_n 1, 1) := by decide +kernel
theorem dX10_init_342 : decode cX10_init 342 = .ok (.bipush 18, 2) := by decide +kernel
theorem dX10_init_344 : decode cX10_init 344 = .ok (.if_icmp .ge 36, 3) := by decide +kernel
theorem dX10_init_347 : decode cX10_init 347 = .ok (.aload_n 0, 1) := by decide +kernel
theorem dX10_init_348 : decode cX10_init 348 = .ok (.getfield 68, 3) := by decide +kernel
theorem dX10_init_351 : decode cX10_init 351 = .ok (.iconst 5, 1) := by decide +kernel
theorem dX10_init_352 : decode cX10_init 352 = .ok (.iload_n 1, 1) := by decide +kernel
theorem dX10_init_353 : decode cX10_init 353 = .ok (.iadd, 1) := by decide +kernel
theorem dX10_init_354 : decode cX10_init 354 = .ok (.iload_n 1, 1) := by decide +kernel
theorem dX10_init_355 : decode cX10_init 355 = .ok (.bipush 6, 2) := by decide +kernel
theorem dX10_init_357 : decode cX10_init 357 = .ok (.idiv, 1) := by decide +kernel
theorem dX10_init_358 : decode cX10_init 358 = .ok (.iastore, 1) := by decide +kernel
theorem dX10_init_359 : decode cX10_init 359 = .ok (.aload_n 0, 1) := by decide +kernel
theorem dX10_init_360 : decode cX10_init 360 = .ok (.getfield 68, 3) := by decide +kernel
theorem dX10_init_363 : decode cX10_init 363 = .ok (.bipush 23, 2) := by decide +kernel
theorem dX10_init_365 : decode cX10_init 365 = .ok (.iload_n 1, 1) := by decide +kernel
theorem dX10_init_366 : decode cX10_init 366 = .ok (.iadd, 1) := by decide +kernel
theorem dX10_init_367 : decode cX10_init 367 = .ok (.aload_n 0, 1) := by decide +kernel
theorem dX10_init_368 : decode cX10_init 368 = .ok (.getfield 74, 3) := by decide +kernel
theorem dX10_init_371 : decode cX10_init 371 = .ok (.iload_n 1, 1) := by decide +kernel
theorem dX10_init_372 : decode cX10_init 372 = .ok (.iaload, 1) := by decide +kernel
theorem dX10_init_373 : decode cX10_init 373 = .ok (.iastore, 1) := by decide +kernel
theorem dX10_init_374 : decode cX10_init 374 = .ok (.iinc 1 1, 3) := by decide +kernel
theorem dX10_init_377 : decode cX10_init 377 = .ok (.goto (-36), 3) := by decide +kernel
theorem dX10_init_380 : decode cX10_init 380 = .ok (.iconst 0, 1) := by decide +kernel
theorem dX10_init_381 : decode cX10_init 381 = .ok (.istore_n 1, 1) := by decide +kernel
theorem dX10_init_382 : decode cX10_init 382 = .ok (.iload_n 1, 1) := by decide +kernel
theorem dX10_init_383 : decode cX10_init 383 = .ok (.bipush 12, 2) := by decide +kernel
theorem dX10_init_385 : decode cX10_init 385 = .ok (.if_icmp .ge 24, 3) := by decide +kernel
theorem dX10_init_388 : decode cX10_init 388 = .ok (.aload_n 0, 1) := by decide +kernel
theorem dX10_init_389 : decode cX10_init 389 = .ok (.getfield 68, 3) := by decide +kernel
theorem dX10_init_392 : decode cX10_init 392 = .ok (.bipush 41, 2) := by decide +kernel
theorem dX10_init_394 : decode cX10_init 394 = .ok (.iload_n 1, 1) := by decide +kernel
theorem dX10_init_395 : decode cX10_init 395 = .ok (.iadd, 1) := by decide +kernel
theorem dX10_init_396 : decode cX10_init 396 = .ok (.aload_n 0, 1) := by decide +kernel
theorem dX10_init_397 : decode cX10_init 397 = .ok (.getfield 77, 3) := by decide +kernel
theorem dX10_init_400 : decode cX10_init 400 = .ok (.iload_n 1, 1) := by decide +kernel
theorem dX10_init_401 : decode cX10_init 401 = .ok (.iaload, 1) := by decide +kernel
theorem dX10_init_402 : decode cX10_init 402 = .ok (.iastore, 1) := by decide +kernel
theorem dX10_init_403 : decode cX10_init 403 = .ok (.iinc 1 1, 3) := by decide +kernel
theorem dX10_init_406 : decode cX10_init 406 = .ok (.goto (-24), 3) := by decide +kernel
theorem dX10_init_409 : decode cX10_init 409 = .ok (.aload_n 0, 1) := by decide +kernel
theorem dX10_init_410 : decode cX10_init 410 = .ok (.iconst 0, 1) := by decide +kernel
theorem dX10_init_411 : decode cX10_init 411 = .ok (.invokevirtual 111, 3) := by decide +kernel
theorem dX10_init_414 : decode cX10_init 414 = .ok (.return_, 1) := by decide +kernel
set_option maxRecDepth 20000 in
set_option maxHeartbeats 2000000 in
theorem V_X10_init_0 {X : Ctx} (C : C_X10_init X) {k n : Nat} {Q : Pq} {h : Hp} {v0 : Nat}
    (hv : k + 1 ≤ mcX X ∧ n + 64 ≤ msX X ∧ kd (nw h 21 64) v0 = 11 ∧ k + 1 + 1 ≤ mcX X ∧ n + 64 + 80 ≤ msX X ∧ kd (nw (nw h 21 64) 20 80) v0 = 11 ∧ k + 1 + 1 + 1 ≤ mcX X ∧ n + 64 + 80 + 732 ≤ msX X ∧ kd (nw (nw (nw h 21 64) 20 80) 20 732) v0 = 11 ∧ Wj X (k + 1 + 1 + 1) (n + 64 + 80 + 732) Q 29 [(0, .ref v0)] [] (sr (nw (sr (nw (sr (nw h 21 64) v0 2 (some (hn h))) 20 80) v0 3 (some (hn (nw h 21 64)))) 20 732) v0 7 (some (hn (nw (nw h 21 64) 20 80))))) :
    Wj X k n Q 0 [(0, .ref v0)] [] h := by
  refine w_aload_n (pc := 0) C dX10_init_0 rfl ?_
  refine w_objInit (pc := 1) C oi_X10_62 ow_1 ow_2 dX10_init_1 (by decide) (Nat.le_of_ble_eq_true rfl) ?_
  refine w_aload_n (pc := 4) C dX10_init_4 rfl ?_
  refine w_bipush (pc := 5) C (v := 64) dX10_init_5 (by decide) ?_
  obtain ⟨f1, hv⟩ := hv
  obtain ⟨f2, hv⟩ := hv
  refine w_newa (pc := 7) (atype := .long) 1 (N := 64) C ac_long rfl rfl (by decide) dX10_init_7 (by decide) (by decide) (Nat.le_of_ble_eq_true rfl) f1 f2 ?_
  obtain ⟨f3, hv⟩ := hv
  refine w_putRF (pc := 9) C fl_X10_7 rfl rfl rfl dX10_init_9 f3 ?_
  refine w_aload_n (pc := 12) C dX10_init_12 rfl ?_
  refine w_bipush (pc := 13) C (v := 80) dX10_init_13 (by decide) ?_
  obtain ⟨f4, hv⟩ := hv
  obtain ⟨f5, hv⟩ := hv
  refine w_newa (pc := 15) (atype := .int) 0 (N := 80) C ac_int rfl rfl (by decide) dX10_init_15 (by decide) (by decide) (Nat.le_of_ble_eq_true rfl) f4 f5 ?_
  obtain ⟨f6, hv⟩ := hv
  refine w_putRF (pc := 17) C fl_X10_25 rfl rfl rfl dX10_init_17 f6 ?_
  refine w_aload_n (pc := 20) C dX10_init_20 rfl ?_
  refine w_sipush (pc := 21) C (v := 732) dX10_init_21 (by decide) ?_
  obtain ⟨f7, hv⟩ := hv
  obtain ⟨f8, hv⟩ := hv
  refine w_newa (pc := 24) (atype := .int) 0 (N := 732) C ac_int rfl rfl (by decide) dX10_init_24 (by decide) (by decide) (Nat.le_of_ble_eq_true rfl) f7 f8 ?_
  obtain ⟨f9, hv⟩ := hv
  refine w_putRF (pc := 26) C fl_X10_68 rfl rfl rfl dX10_init_26 f9 ?_
  refine w_sub ?_ hv
  exact ⟨rfl, trivial⟩
set_option maxRecDepth 20000 in
set_option maxHeartbeats 2000000 in
theorem V_X10_init_29 {X : Ctx} (C : C_X10_init X) {k n : Nat} {Q : Pq} {h : Hp} {v0 : Nat}
    (hv : k + 1 ≤ mcX X ∧ n + 1464 ≤ msX X ∧ kd (nw h 21 1464) v0 = 11 ∧ k + 1 + 1 ≤ mcX X ∧ n + 1464 + 18 ≤ msX X ∧ kd (nw (nw h 21 1464) 20 18) (hn (nw h 21 1464)) = 20 ∧ inb 0 (ln (nw (nw h 21 1464) 20 18) (hn (nw h 21 1464))) ∧ inb 1 (ln (nw (nw h 21 1464) 20 18) (hn (nw h 21 1464))) ∧ Wj X (k + 1 + 1) (n + 1464 + 18) Q 53 [(0, .ref v0)] [.ref (hn (nw h 21 1464)), .ref v0] (si (si (nw (sr (nw h 21 1464) v0 8 (some (hn h))) 20 18) (hn (nw h 21 1464)) (ix 0) 15) (hn (nw h 21 1464)) (ix 1) 16)) :
    Wj X k n Q 29 [(0, .ref v0)] [] h := by
  refine w_aload_n (pc := 29) C dX10_init_29 rfl ?_
  refine w_sipush (pc := 30) C (v := 1464) dX10_init_30 (by decide) ?_
  obtain ⟨f1, hv⟩ := hv
  obtain ⟨f2, hv⟩ := hv
  refine w_newa (pc := 33) (atype := .long) 1 (N := 1464) C ac_long rfl rfl (by decide) dX10_init_33 (by decide) (by decide) (Nat.le_of_ble_eq_true rfl) f1 f2 ?_
  obtain ⟨f3, hv⟩ := hv
  refine w_putRF (pc := 35) C fl_X10_71 rfl rfl rfl dX10_init_35 f3 ?_
  refine w_aload_n (pc := 38) C dX10_init_38 rfl ?_
  refine w_bipush (pc := 39) C (v := 18) dX10_init_39 (by decide) ?_
  obtain ⟨f4, hv⟩ := hv
  obtain ⟨f5, hv⟩ := hv
  refine w_newa (pc := 41) (atype := .int) 0 (N := 18) C ac_int rfl rfl (by decide) dX10_init_41 (by decide) (by decide) (Nat.le_of_ble_eq_true rfl) f4 f5 ?_
  refine w_dup (pc := 43) C dX10_init_43 rfl ?_
  refine w_iconst (pc := 44) C (v := 0) dX10_init_44 (by decide) ?_
  refine w_bipush (pc := 45) C (v := 15) dX10_init_45 (by decide) ?_
  obtain ⟨f6, hv⟩ := hv
  obtain ⟨f7, hv⟩ := hv
  refine w_iast (pc := 47) C dX10_init_47 f6 f7 ?_
  refine w_dup (pc := 48) C dX10_init_48 rfl ?_
  refine w_iconst (pc := 49) C (v := 1) dX10_init_49 (by decide) ?_
  refine w_bipush (pc := 50) C (v := 16) dX10_init_50 (by decide) ?_
  obtain ⟨f8, hv⟩ := hv
  refine w_iast (pc := 52) C dX10_init_52 f6 f8 ?_
  refine w_sub ?_ hv
  exact ⟨rfl, trivial⟩
set_option maxRecDepth 20000 in
set_option maxHeartbeats 2000000 in
theorem V_X10_init_53 {X : Ctx} (C : C_X10_init X) {k n : Nat} {Q : Pq} {h : Hp} {v0 s0 s1 : Nat}
    (hv : kd h s1 = 20 ∧ inb 2 (ln h s1) ∧ inb 3 (ln h s1) ∧ inb 4 (ln h s1) ∧ Wj X k n Q 68 [(0, .ref v0)] [.ref s1, .ref s0] (si (si (si h s1 (ix 2) 17) s1 (ix 3) 18) s1 (ix 4) 19)) :
    Wj X k n Q 53 [(0, .ref v0)] [.ref s1, .ref s0] h := by
  refine w_dup (pc := 53) C dX10_init_53 rfl ?_
  refine w_iconst (pc := 54) C (v := 2) dX10_init_54 (by decide) ?_
  refine w_bipush (pc := 55) C (v := 17) dX10_init_55 (by decide) ?_
  obtain ⟨f1, hv⟩ := hv
  obtain ⟨f2, hv⟩ := hv
  refine w_iast (pc := 57) C dX10_init_57 f1 f2 ?_
  refine w_dup (pc := 58) C dX10_init_58 rfl ?_
  refine w_iconst (pc := 59) C (v := 3) dX10_init_59 (by decide) ?_
  refine w_bipush (pc := 60) C (v := 18) dX10_init_60 (by decide) ?_
  obtain ⟨f3, hv⟩ := hv
  refine w_iast (pc := 62) C dX10_init_62 f1 f3 ?_
  refine w_dup (pc := 63) C dX10_init_63 rfl ?_
  refine w_iconst (pc := 64) C (v := 4) dX10_init_64 (by decide) ?_
  refine w_bipush (pc := 65) C (v := 19) dX10_init_65 (by decide) ?_
  obtain ⟨f4, hv⟩ := hv
  refine w_iast (pc := 67) C dX10_init_67 f1 f4 ?_
  refine w_sub ?_ hv
  exact ⟨rfl, trivial⟩
set_option maxRecDepth 20000 in
set_option maxHeartbeats 2000000 in
theorem V_X10_init_68 {X : Ctx} (C : C_X10_init X) {k n : Nat} {Q : Pq} {h : Hp} {v0 s0 s1 : Nat}
    (hv : kd h s1 = 20 ∧ inb 5 (ln h s1) ∧ inb 6 (ln h s1) ∧ inb 7 (ln h s1) ∧ Wj X k n Q 85 [(0, .ref v0)] [.ref s1, .ref s0] (si (si (si h s1 (ix 5) 20) s1 (ix 6) 21) s1 (ix 7) 23)) :
    Wj X k n Q 68 [(0, .ref v0)] [.ref s1, .ref s0] h := by
  refine w_dup (pc := 68) C dX10_init_68 rfl ?_
  refine w_iconst (pc := 69) C (v := 5) dX10_init_69 (by decide) ?_
  refine w_bipush (pc := 70) C (v := 20) dX10_init_70 (by decide) ?_
  obtain ⟨f1, hv⟩ := hv
  obtain ⟨f2, hv⟩ := hv
  refine w_iast (pc := 72) C dX10_init_72 f1 f2 ?_
  refine w_dup (pc := 73) C dX10_init_73 rfl ?_
  refine w_bipush (pc := 74) C (v := 6) dX10_init_74 (by decide) ?_
  refine w_bipush (pc := 76) C (v := 21) dX10_init_76 (by decide) ?_
  obtain ⟨f3, hv⟩ := hv
  refine w_iast (pc := 78) C dX10_init_78 f1 f3 ?_
  refine w_dup (pc := 79) C dX10_init_79 rfl ?_
  refine w_bipush (pc := 80) C (v := 7) dX10_init_80 (by decide) ?_
  refine w_bipush (pc := 82) C (v := 23) dX10_init_82 (by decide) ?_
  obtain ⟨f4, hv⟩ := hv
  refine w_iast (pc := 84) C dX10_init_84 f1 f4 ?_
  refine w_sub ?_ hv
  exact ⟨rfl, trivial⟩
set_option maxRecDepth 20000 in
set_option maxHeartbeats 2000000 in
theorem V_X10_init_85 {X : Ctx} (C : C_X10_init X) {k n : Nat} {Q : Pq} {h : Hp} {v0 s0 s1 : Nat}
    (hv : kd h s1 = 20 ∧ inb 8 (ln h s1) ∧ inb 9 (ln h s1) ∧ inb 10 (ln h s1) ∧ Wj X k n Q 103 [(0, .ref v0)] [.ref s1, .ref s0] (si (si (si h s1 (ix 8) 27) s1 (ix 9) 29) s1 (ix 10) 31)) :
    Wj X k n Q 85 [(0, .ref v0)] [.ref s1, .ref s0] h := by
  refine w_dup (pc := 85) C dX10_init_85 rfl ?_
  refine w_bipush (pc := 86) C (v := 8) dX10_init_86 (by decide) ?_
  refine w_bipush (pc := 88) C (v := 27) dX10_init_88 (by decide) ?_
  obtain ⟨f1, hv⟩ := hv
  obtain ⟨f2, hv⟩ := hv
  refine w_iast (pc := 90) C dX10_init_90 f1 f2 ?_
  refine w_dup (pc := 91) C dX10_init_91 rfl ?_
  refine w_bipush (pc := 92) C (v := 9) dX10_init_92 (by decide) ?_
  refine w_bipush (pc := 94) C (v := 29) dX10_init_94 (by decide) ?_
  obtain ⟨f3, hv⟩ := hv
  refine w_iast (pc := 96) C dX10_init_96 f1 f3 ?_
  refine w_dup (pc := 97) C dX10_init_97 rfl ?_
  refine w_bipush (pc := 98) C (v := 10) dX10_init_98 (by decide) ?_
  refine w_bipush (pc := 100) C (v := 31) dX10_init_100 (by decide) ?_
  obtain ⟨f4, hv⟩ := hv
  refine w_iast (pc := 102) C dX10_init_102 f1 f4 ?_
  refine w_sub ?_ hv
  exact ⟨rfl, trivial⟩
set_option maxRecDepth 20000 in
set_option maxHeartbeats 2000000 in
theorem V_X10_init_103 {X : Ctx} (C : C_X10_init X) {k n : Nat} {Q : Pq} {h : Hp} {v0 s0 s1 : Nat}
    (hv : kd h s1 = 20 ∧ inb 11 (ln h s1) ∧ inb 12 (ln h s1) ∧ inb 13 (ln h s1) ∧ Wj X k n Q 121 [(0, .ref v0)] [.ref s1, .ref s0] (si (si (si h s1 (ix 11) 33) s1 (ix 12) 37) s1 (ix 13) 39)) :
    Wj X k n Q 103 [(0, .ref v0)] [.ref s1, .ref s0] h := by
  refine w_dup (pc := 103) C dX10_init_103 rfl ?_
  refine w_bipush (pc := 104) C (v := 11) dX10_init_104 (by decide) ?_
  refine w_bipush (pc := 106) C (v := 33) dX10_init_106 (by decide) ?_
  obtain ⟨f1, hv⟩ := hv
  obtain ⟨f2, hv⟩ := hv
  refine w_iast (pc := 108) C dX10_init_108 f1 f2 ?_
  refine w_dup (pc := 109) C dX10_init_109 rfl ?_
  refine w_bipush (pc := 110) C (v := 12) dX10_init_110 (by decide) ?_
  refine w_bipush (pc := 112) C (v := 37) dX10_init_112 (by decide) ?_
  obtain ⟨f3, hv⟩ := hv
  refine w_iast (pc := 114) C dX10_init_114 f1 f3 ?_
  refine w_dup (pc := 115) C dX10_init_115 rfl ?_
  refine w_bipush (pc := 116) C (v := 13) dX10_init_116 (by decide) ?_
  refine w_bipush (pc := 118) C (v := 39) dX10_init_118 (by decide) ?_
  obtain ⟨f4, hv⟩ := hv
  refine w_iast (pc := 120) C dX10_init_120 f1 f4 ?_
  refine w_sub ?_ hv
  exact ⟨rfl, trivial⟩
set_option maxRecDepth 20000 in
set_option maxHeartbeats 2000000 in
theorem V_X10_init_121 {X : Ctx} (C : C_X10_init X) {k n : Nat} {Q : Pq} {h : Hp} {v0 s0 s1 : Nat}
    (hv : kd h s1 = 20 ∧ inb 14 (ln h s1) ∧ inb 15 (ln h s1) ∧ inb 16 (ln h s1) ∧ Wj X k n Q 139 [(0, .ref v0)] [.ref s1, .ref s0] (si (si (si h s1 (ix 14) 41) s1 (ix 15) 43) s1 (ix 16) 47)) :
    Wj X k n Q 121 [(0, .ref v0)] [.ref s1, .ref s0] h := by
  refine w_dup (pc := 121) C dX10_init_121 rfl ?_
  refine w_bipush (pc := 122) C (v := 14) dX10_init_122 (by decide) ?_
  refine w_bipush (pc := 124) C (v := 41) dX10_init_124 (by decide) ?_
  obtain ⟨f1, hv⟩ := hv
  obtain ⟨f2, hv⟩ := hv
  refine w_iast (pc := 126) C dX10_init_126 f1 f2 ?_
  refine w_dup (pc := 127) C dX10_init_127 rfl ?_
  refine w_bipush (pc := 128) C (v := 15) dX10_init_128 (by decide) ?_
  refine w_bipush (pc := 130) C (v := 43) dX10_init_130 (by decide) ?_
  obtain ⟨f3, hv⟩ := hv
  refine w_iast (pc := 132) C dX10_init_132 f1 f3 ?_
  refine w_dup (pc := 133) C dX10_init_133 rfl ?_
  refine w_bipush (pc := 134) C (v := 16) dX10_init_134 (by decide) ?_
  refine w_bipush (pc := 136) C (v := 47) dX10_init_136 (by decide) ?_
  obtain ⟨f4, hv⟩ := hv
  refine w_iast (pc := 138) C dX10_init_138 f1 f4 ?_
  refine w_sub ?_ hv
  exact ⟨rfl, trivial⟩
set_option maxRecDepth 20000 in
set_option maxHeartbeats 2000000 in
theorem V_X10_init_139 {X : Ctx} (C : C_X10_init X) {k n : Nat} {Q : Pq} {h : Hp} {v0 s0 s1 : Nat}
    (hv : kd h s1 = 20 ∧ inb 17 (ln h s1) ∧ kd h s0 = 11 ∧ k + 1 ≤ mcX X ∧ n + 12 ≤ msX X ∧ kd (nw h 20 12) (hn h) = 20 ∧ inb 0 (ln (nw h 20 12) (hn h)) ∧ Wj X (k + 1) (n + 12) Q 158 [(0, .ref v0)] [.ref (hn h), .ref v0] (si (nw (sr (si h s1 (ix 17) 49) s0 10 (some s1)) 20 12) (hn h) (ix 0) 24)) :
    Wj X k n Q 139 [(0, .ref v0)] [.ref s1, .ref s0] h := by
  refine w_dup (pc := 139) C dX10_init_139 rfl ?_
  refine w_bipush (pc := 140) C (v := 17) dX10_init_140 (by decide) ?_
  refine w_bipush (pc := 142) C (v := 49) dX10_init_142 (by decide) ?_
  obtain ⟨f1, hv⟩ := hv
  obtain ⟨f2, hv⟩ := hv
  refine w_iast (pc := 144) C dX10_init_144 f1 f2 ?_
  obtain ⟨f3, hv⟩ := hv
  refine w_putRF (pc := 145) C fl_X10_74 rfl rfl rfl dX10_init_145 f3 ?_
  refine w_aload_n (pc := 148) C dX10_init_148 rfl ?_
  refine w_bipush (pc := 149) C (v := 12) dX10_init_149 (by decide) ?_
  obtain ⟨f4, hv⟩ := hv
  obtain ⟨f5, hv⟩ := hv
  refine w_newa (pc := 151) (atype := .int) 0 (N := 12) C ac_int rfl rfl (by decide) dX10_init_151 (by decide) (by decide) (Nat.le_of_ble_eq_true rfl) f4 f5 ?_
  refine w_dup (pc := 153) C dX10_init_153 rfl ?_
  refine w_iconst (pc := 154) C (v := 0) dX10_init_154 (by decide) ?_
  refine w_bipush (pc := 155) C (v := 24) dX10_init_155 (by decide) ?_
  obtain ⟨f6, hv⟩ := hv
  obtain ⟨f7, hv⟩ := hv
  refine w_iast (pc := 157) C dX10_init_157 f6 f7 ?_
  refine w_sub ?_ hv
  exact ⟨rfl, trivial⟩
set_option maxRecDepth 20000 in
set_option maxHeartbeats 2000000 in
theorem V_X10_init_158 {X : Ctx} (C : C_X10_init X) {k n : Nat} {Q : Pq} {h : Hp} {v0 s0 s1 : Nat}
    (hv : kd h s1 = 20 ∧ inb 1 (ln h s1) ∧ inb 2 (ln h s1) ∧ inb 3 (ln h s1) ∧ Wj X k n Q 173 [(0, .ref v0)] [.ref s1, .ref s0] (si (si (si h s1 (ix 1) 24) s1 (ix 2) 28) s1 (ix 3) 32)) :
    Wj X k n Q 158 [(0, .ref v0)] [.ref s1, .ref s0] h := by
  refine w_dup (pc := 158) C dX10_init_158 rfl ?_
  refine w_iconst (pc := 159) C (v := 1) dX10_init_159 (by decide) ?_
  refine w_bipush (pc := 160) C (v := 24) dX10_init_160 (by decide) ?_
  obtain ⟨f1, hv⟩ := hv
  obtain ⟨f2, hv⟩ := hv
  refine w_iast (pc := 162) C dX10_init_162 f1 f2 ?_
  refine w_dup (pc := 163) C dX10_init_163 rfl ?_
  refine w_iconst (pc := 164) C (v := 2) dX10_init_164 (by decide) ?_
  refine w_bipush (pc := 165) C (v := 28) dX10_init_165 (by decide) ?_
  obtain ⟨f3, hv⟩ := hv
  refine w_iast (pc := 167) C dX10_init_167 f1 f3 ?_
  refine w_dup (pc := 168) C dX10_init_168 rfl ?_
  refine w_iconst (pc := 169) C (v := 3) dX10_init_169 (by decide) ?_
  refine w_bipush (pc := 170) C (v := 32) dX10_init_170 (by decide) ?_
  obtain ⟨f4, hv⟩ := hv
  refine w_iast (pc := 172) C dX10_init_172 f1 f4 ?_
  refine w_sub ?_ hv
  exact ⟨rfl, trivial⟩
set_option maxRecDepth 20000 in
set_option maxHeartbeats 2000000 in
theorem V_X10_init_173 {X : Ctx} (C : C_X10_init X) {k n : Nat} {Q : Pq} {h : Hp} {v0 s0 s1 : Nat}
    (hv : kd h s1 = 20 ∧ inb 4 (ln h s1) ∧ inb 5 (ln h s1) ∧ inb 6 (ln h s1) ∧ Wj X k n Q 189 [(0, .ref v0)] [.ref s1, .ref s0] (si (si (si h s1 (ix 4) 40) s1 (ix 5) 44) s1 (ix 6) 48)) :
    Wj X k n Q 173 [(0, .ref v0)] [.ref s1, .ref s0] h := by
  refine w_dup (pc := 173) C dX10_init_173 rfl ?_
  refine w_iconst (pc := 174) C (v := 4) dX10_init_174 (by decide) ?_
  refine w_bipush (pc := 175) C (v := 40) dX10_init_175 (by decide) ?_
  obtain ⟨f1, hv⟩ := hv
  obtain ⟨f2, hv⟩ := hv
  refine w_iast (pc := 177) C dX10_init_177 f1 f2 ?_
  refine w_dup (pc := 178) C dX10_init_178 rfl ?_
  refine w_iconst (pc := 179) C (v := 5) dX10_init_179 (by decide) ?_
  refine w_bipush (pc := 180) C (v := 44) dX10_init_180 (by decide) ?_
  obtain ⟨f3, hv⟩ := hv
  refine w_iast (pc := 182) C dX10_init_182 f1 f3 ?_
  refine w_dup (pc := 183) C dX10_init_183 rfl ?_
  refine w_bipush (pc := 184) C (v := 6) dX10_init_184 (by decide) ?_
  refine w_bipush (pc := 186) C (v := 48) dX10_init_186 (by decide) ?_
  obtain ⟨f4, hv⟩ := hv
  refine w_iast (pc := 188) C dX10_init_188 f1 f4 ?_
  refine w_sub ?_ hv
  exact ⟨rfl, trivial⟩
set_option maxRecDepth 20000 in
set_option maxHeartbeats 2000000 in
theorem V_X10_init_189 {X : Ctx} (C : C_X10_init X) {k n : Nat} {Q : Pq} {h : Hp} {v0 s0 s1 : Nat}
    (hv : kd h s1 = 20 ∧ inb 7 (ln h s1) ∧ inb 8 (ln h s1) ∧ inb 9 (ln h s1) ∧ Wj X k n Q 207 [(0, .ref v0)] [.ref s1, .ref s0] (si (si (si h s1 (ix 7) 56) s1 (ix 8) 64) s1 (ix 9) 72)) :
    Wj X k n Q 189 [(0, .ref v0)] [.ref s1, .ref s0] h := by
  refine w_dup (pc := 189) C dX10_init_189 rfl ?_
  refine w_bipush (pc := 190) C (v := 7) dX10_init_190 (by decide) ?_
  refine w_bipush (pc := 192) C (v := 56) dX10_init_192 (by decide) ?_
  obtain ⟨f1, hv⟩ := hv
  obtain ⟨f2, hv⟩ := hv
  refine w_iast (pc := 194) C dX10_init_194 f1 f2 ?_
  refine w_dup (pc := 195) C dX10_init_195 rfl ?_
  refine w_bipush (pc := 196) C (v := 8) dX10_init_196 (by decide) ?_
  refine w_bipush (pc := 198) C (v := 64) dX10_init_198 (by decide) ?_
  obtain ⟨f3, hv⟩ := hv
  refine w_iast (pc := 200) C dX10_init_200 f1 f3 ?_
  refine w_dup (pc := 201) C dX10_init_201 rfl ?_
  refine w_bipush (pc := 202) C (v := 9) dX10_init_202 (by decide) ?_
  refine w_bipush (pc := 204) C (v := 72) dX10_init_204 (by decide) ?_
  obtain ⟨f4, hv⟩ := hv
  refine w_iast (pc := 206) C dX10_init_206 f1 f4 ?_
  refine w_sub ?_ hv
  exact ⟨rfl, trivial⟩
set_option maxRecDepth 20000 in
set_option maxHeartbeats 2000000 in
theorem V_X10_init_207 {X : Ctx} (C : C_X10_init X) {k n : Nat} {Q : Pq} {h : Hp} {v0 s0 s1 : Nat}
    (hv : kd h s1 = 20 ∧ inb 10 (ln h s1) ∧ inb 11 (ln h s1) ∧ kd h s0 = 11 ∧ Wj X k n Q 222 [(0, .ref v0)] [] (sr (si (si h s1 (ix 10) 86) s1 (ix 11) 100) s0 11 (some s1))) :
    Wj X k n Q 207 [(0, .ref v0)] [.ref s1, .ref s0] h := by
  refine w_dup (pc := 207) C dX10_init_207 rfl ?_
  refine w_bipush (pc := 208) C (v := 10) dX10_init_208 (by decide) ?_
  refine w_bipush (pc := 210) C (v := 86) dX10_init_210 (by decide) ?_
  obtain ⟨f1, hv⟩ := hv
  obtain ⟨f2, hv⟩ := hv
  refine w_iast (pc := 212) C dX10_init_212 f1 f2 ?_
  refine w_dup (pc := 213) C dX10_init_213 rfl ?_
  refine w_bipush (pc := 214) C (v := 11) dX10_init_214 (by decide) ?_
  refine w_bipush (pc := 216) C (v := 100) dX10_init_216 (by decide) ?_
  obtain ⟨f3, hv⟩ := hv
  refine w_iast (pc := 218) C dX10_init_218 f1 f3 ?_
  obtain ⟨f4, hv⟩ := hv
  refine w_putRF (pc := 219) C fl_X10_77 rfl rfl rfl dX10_init_219 f4 ?_
  refine w_sub ?_ hv
  exact ⟨rfl, trivial⟩
set_option maxRecDepth 20000 in
set_option maxHeartbeats 2000000 in
theorem V_X10_init_222 {X : Ctx} (C : C_X10_init X) {k n : Nat} {Q : Pq} {h : Hp} {v0 : Nat}
    (hv : k + 1 ≤ mcX X ∧ n + 4 ≤ msX X ∧ kd (nw h 20 4) v0 = 11 ∧ k + 1 + 1 ≤ mcX X ∧ n + 4 + 4 ≤ msX X ∧ kd (nw (nw h 20 4) 20 4) v0 = 11 ∧ k + 1 + 1 + 1 ≤ mcX X ∧ n + 4 + 4 + 12100 ≤ msX X ∧ kd (nw (nw (nw h 20 4) 20 4) 21 12100) v0 = 11 ∧ Wj X (k + 1 + 1 + 1) (n + 4 + 4 + 12100) Q 245 [(0, .ref v0)] [] (sr (nw (sr (nw (sr (nw h 20 4) v0 17 (some (hn h))) 20 4) v0 19 (some (hn (nw h 20 4)))) 21 12100) v0 27 (some (hn (nw (nw h 20 4) 20 4))))) :
    Wj X k n Q 222 [(0, .ref v0)] [] h := by
  refine w_aload_n (pc := 222) C dX10_init_222 rfl ?_
  refine w_iconst (pc := 223) C (v := 4) dX10_init_223 (by decide) ?_
  obtain ⟨f1, hv⟩ := hv
  obtain ⟨f2, hv⟩ := hv
  refine w_newa (pc := 224) (atype := .int) 0 (N := 4) C ac_int rfl rfl (by decide) dX10_init_224 (by decide) (by decide) (Nat.le_of_ble_eq_true rfl) f1 f2 ?_
  obtain ⟨f3, hv⟩ := hv
  refine w_putRF (pc := 226) C fl_X10_80 rfl rfl rfl dX10_init_226 f3 ?_
  refine w_aload_n (pc := 229) C dX10_init_229 rfl ?_
  refine w_iconst (pc := 230) C (v := 4) dX10_init_230 (by decide) ?_
  obtain ⟨f4, hv⟩ := hv
  obtain ⟨f5, hv⟩ := hv
  refine w_newa (pc := 231) (atype := .int) 0 (N := 4) C ac_int rfl rfl (by decide) dX10_init_231 (by decide) (by decide) (Nat.le_of_ble_eq_true rfl) f4 f5 ?_
  obtain ⟨f6, hv⟩ := hv
  refine w_putRF (pc := 233) C fl_X10_83 rfl rfl rfl dX10_init_233 f6 ?_
  refine w_aload_n (pc := 236) C dX10_init_236 rfl ?_
  refine w_sipush (pc := 237) C (v := 12100) dX10_init_237 (by decide) ?_
  obtain ⟨f7, hv⟩ := hv
  obtain ⟨f8, hv⟩ := hv
  refine w_newa (pc := 240) (atype := .long) 1 (N := 12100) C ac_long rfl rfl (by decide) dX10_init_240 (by decide) (by decide) (Nat.le_of_ble_eq_true rfl) f7 f8 ?_
  obtain ⟨f9, hv⟩ := hv
  refine w_putRF (pc := 242) C fl_X10_86 rfl rfl rfl dX10_init_242 f9 ?_
  refine w_sub ?_ hv
  exact ⟨rfl, trivial⟩
set_option maxRecDepth 20000 in
set_option maxHeartbeats 2000000 in
theorem V_X10_init_245 {X : Ctx} (C : C_X10_init X) {k n : Nat} {Q : Pq} {h : Hp} {v0 : Nat}
    (hv : k + 1 ≤ mcX X ∧ n + 120 ≤ msX X ∧ kd (nw h 21 120) v0 = 11 ∧ k + 1 + 1 ≤ mcX X ∧ n + 120 + 60 ≤ msX X ∧ kd (nw (nw h 21 120) 21 60) v0 = 11 ∧ k + 1 + 1 + 1 ≤ mcX X ∧ n + 120 + 60 + 80 ≤ msX X ∧ kd (nw (nw (nw h 21 120) 21 60) 20 80) v0 = 11 ∧ Wj X (k + 1 + 1 + 1) (n + 120 + 60 + 80) Q 269 [(0, .ref v0)] [] (sr (nw (sr (nw (sr (nw h 21 120) v0 35 (some (hn h))) 21 60) v0 36 (some (hn (nw h 21 120)))) 20 80) v0 37 (some (hn (nw (nw h 21 120) 21 60))))) :
    Wj X k n Q 245 [(0, .ref v0)] [] h := by
  refine w_aload_n (pc := 245) C dX10_init_245 rfl ?_
  refine w_bipush (pc := 246) C (v := 120) dX10_init_246 (by decide) ?_
  obtain ⟨f1, hv⟩ := hv
  obtain ⟨f2, hv⟩ := hv
  refine w_newa (pc := 248) (atype := .long) 1 (N := 120) C ac_long rfl rfl (by decide) dX10_init_248 (by decide) (by decide) (Nat.le_of_ble_eq_true rfl) f1 f2 ?_
  obtain ⟨f3, hv⟩ := hv
  refine w_putRF (pc := 250) C fl_X10_89 rfl rfl rfl dX10_init_250 f3 ?_
  refine w_aload_n (pc := 253) C dX10_init_253 rfl ?_
  refine w_bipush (pc := 254) C (v := 60) dX10_init_254 (by decide) ?_
  obtain ⟨f4, hv⟩ := hv
  obtain ⟨f5, hv⟩ := hv
  refine w_newa (pc := 256) (atype := .long) 1 (N := 60) C ac_long rfl rfl (by decide) dX10_init_256 (by decide) (by decide) (Nat.le_of_ble_eq_true rfl) f4 f5 ?_
  obtain ⟨f6, hv⟩ := hv
  refine w_putRF (pc := 258) C fl_X10_92 rfl rfl rfl dX10_init_258 f6 ?_
  refine w_aload_n (pc := 261) C dX10_init_261 rfl ?_
  refine w_bipush (pc := 262) C (v := 80) dX10_init_262 (by decide) ?_
  obtain ⟨f7, hv⟩ := hv
  obtain ⟨f8, hv⟩ := hv
  refine w_newa (pc := 264) (atype := .int) 0 (N := 80) C ac_int rfl rfl (by decide) dX10_init_264 (by decide) (by decide) (Nat.le_of_ble_eq_true rfl) f7 f8 ?_
  obtain ⟨f9, hv⟩ := hv
  refine w_putRF (pc := 266) C fl_X10_95 rfl rfl rfl dX10_init_266 f9 ?_
  refine w_sub ?_ hv
  exact ⟨rfl, trivial⟩
set_option maxRecDepth 20000 in
set_option maxHeartbeats 2000000 in
theorem V_X10_init_269 {X : Ctx} (C : C_X10_init X) {k n : Nat} {Q : Pq} {h : Hp} {v0 : Nat}
    (hv : k + 1 ≤ mcX X ∧ n + 80 ≤ msX X ∧ kd (nw h 20 80) v0 = 11 ∧ k + 1 + 1 ≤ mcX X ∧ n + 80 + 80 ≤ msX X ∧ kd (nw (nw h 20 80) 20 80) v0 = 11 ∧ k + 1 + 1 + 1 ≤ mcX X ∧ n + 80 + 80 + 80 ≤ msX X ∧ kd (nw (nw (nw h 20 80) 20 80) 20 80) v0 = 11 ∧ Wj X (k + 1 + 1 + 1) (n + 80 + 80 + 80) Q 293 [(0, .ref v0)] [] (sr (nw (sr (nw (sr (nw h 20 80) v0 38 (some (hn h))) 20 80) v0 39 (some (hn (nw h 20 80)))) 20 80) v0 40 (some (hn (nw (nw h 20 80) 20 80))))) :
    Wj X k n Q 269 [(0, .ref v0)] [] h := by
  refine w_aload_n (pc := 269) C dX10_init_269 rfl ?_
  refine w_bipush (pc := 270) C (v := 80) dX10_init_270 (by decide) ?_
  obtain ⟨f1, hv⟩ := hv
  obtain ⟨f2, hv⟩ := hv
  refine w_newa (pc := 272) (atype := .int) 0 (N := 80) C ac_int rfl rfl (by decide) dX10_init_272 (by decide) (by decide) (Nat.le_of_ble_eq_true rfl) f1 f2 ?_
  obtain ⟨f3, hv⟩ := hv
  refine w_putRF (pc := 274) C fl_X10_98 rfl rfl rfl dX10_init_274 f3 ?_
  refine w_aload_n (pc := 277) C dX10_init_277 rfl ?_
  refine w_bipush (pc := 278) C (v := 80) dX10_init_278 (by decide) ?_
  obtain ⟨f4, hv⟩ := hv
  obtain ⟨f5, hv⟩ := hv
  refine w_newa (pc := 280) (atype := .int) 0 (N := 80) C ac_int rfl rfl (by decide) dX10_init_280 (by decide) (by decide) (Nat.le_of_ble_eq_true rfl) f4 f5 ?_
  obtain ⟨f6, hv⟩ := hv
  refine w_putRF (pc := 282) C fl_X10_101 rfl rfl rfl dX10_init_282 f6 ?_
  refine w_aload_n (pc := 285) C dX10_init_285 rfl ?_
  refine w_bipush (pc := 286) C (v := 80) dX10_init_286 (by decide) ?_
  obtain ⟨f7, hv⟩ := hv
  obtain ⟨f8, hv⟩ := hv
  refine w_newa (pc := 288) (atype := .int) 0 (N := 80) C ac_int rfl rfl (by decide) dX10_init_288 (by decide) (by decide) (Nat.le_of_ble_eq_true rfl) f7 f8 ?_
  obtain ⟨f9, hv⟩ := hv
  refine w_putRF (pc := 290) C fl_X10_104 rfl rfl rfl dX10_init_290 f9 ?_
  refine w_sub ?_ hv
  exact ⟨rfl, trivial⟩
set_option maxRecDepth 20000 in
set_option maxHeartbeats 2000000 in
theorem V_X10_init_293 {X : Ctx} (C : C_X10_init X) {k n : Nat} {Q : Pq} {h : Hp} {v0 : Nat}
    (hv : k + 1 ≤ mcX X ∧ n + 2 ≤ msX X ∧ kd (nw h 23 2) v0 = 11 ∧ nn (sr (nw h 23 2) v0 42 (some (hn h))) v0 7 ∧ kd (nw h 23 2) (gp (sr (nw h 23 2) v0 42 (some (hn h))) v0 7) = 20 ∧ inb 0 (ln (nw h 23 2) (gp (sr (nw h 23 2) v0 42 (some (hn h))) v0 7)) ∧ inb 1 (ln (nw h 23 2) (gp (sr (nw h 23 2) v0 42 (some (hn h))) v0 7)) ∧ Wj X (k + 1) (n + 2) Q 316 [(0, .ref v0)] [] (si (si (sr (nw h 23 2) v0 42 (some (hn h))) (gp (sr (nw h 23 2) v0 42 (some (hn h))) v0 7) (ix 0) 40) (gp (sr (nw h 23 2) v0 42 (some (hn h))) v0 7) (ix 1) 50)) :
    Wj X k n Q 293 [(0, .ref v0)] [] h := by
  refine w_aload_n (pc := 293) C dX10_init_293 rfl ?_
  refine w_iconst (pc := 294) C (v := 2) dX10_init_294 (by decide) ?_
  obtain ⟨f1, hv⟩ := hv
  obtain ⟨f2, hv⟩ := hv
  refine w_newa (pc := 295) (atype := .boolean) 3 (N := 2) C ac_boolean rfl rfl (by decide) dX10_init_295 (by decide) (by decide) (Nat.le_of_ble_eq_true rfl) f1 f2 ?_
  obtain ⟨f3, hv⟩ := hv
  refine w_putRF (pc := 297) C fl_X10_107 rfl rfl rfl dX10_init_297 f3 ?_
  refine w_aload_n (pc := 300) C dX10_init_300 rfl ?_
  obtain ⟨f4, hv⟩ := hv
  refine w_getR (pc := 301) C fl_X10_68 rfl dX10_init_301 f3 f4 ?_
  refine w_iconst (pc := 304) C (v := 0) dX10_init_304 (by decide) ?_
  refine w_bipush (pc := 305) C (v := 40) dX10_init_305 (by decide) ?_
  obtain ⟨f5, hv⟩ := hv
  obtain ⟨f6, hv⟩ := hv
  refine w_iast (pc := 307) C dX10_init_307 f5 f6 ?_
  refine w_aload_n (pc := 308) C dX10_init_308 rfl ?_
  refine w_getR (pc := 309) C fl_X10_68 rfl dX10_init_309 f3 f4 ?_
  refine w_iconst (pc := 312) C (v := 1) dX10_init_312 (by decide) ?_
  refine w_bipush (pc := 313) C (v := 50) dX10_init_313 (by decide) ?_
  obtain ⟨f7, hv⟩ := hv
  refine w_iast (pc := 315) C dX10_init_315 f5 f7 ?_
  refine w_sub ?_ hv
  exact ⟨rfl, trivial⟩
set_option maxRecDepth 20000 in
set_option maxHeartbeats 2000000 in
theorem V_X10_init_316 {X : Ctx} (C : C_X10_init X) {k n : Nat} {Q : Pq} {h : Hp} {v0 : Nat}
    (hv : kd h v0 = 11 ∧ nn h v0 7 ∧ kd h (gp h v0 7) = 20 ∧ inb 2 (ln h (gp h v0 7)) ∧ inb 3 (ln h (gp h v0 7)) ∧ inb 4 (ln h (gp h v0 7)) ∧ Wj X k n Q 339 [(0, .ref v0)] [] (si (si (si h (gp h v0 7) (ix 2) 3) (gp h v0 7) (ix 3) 18) (gp h v0 7) (ix 4) 12)) :
    Wj X k n Q 316 [(0, .ref v0)] [] h := by
  refine w_aload_n (pc := 316) C dX10_init_316 rfl ?_
  obtain ⟨f1, hv⟩ := hv
  obtain ⟨f2, hv⟩ := hv
  refine w_getR (pc := 317) C fl_X10_68 rfl dX10_init_317 f1 f2 ?_
  refine w_iconst (pc := 320) C (v := 2) dX10_init_320 (by decide) ?_
  refine w_iconst (pc := 321) C (v := 3) dX10_init_321 (by decide) ?_
  obtain ⟨f3, hv⟩ := hv
  obtain ⟨f4, hv⟩ := hv
  refine w_iast (pc := 322) C dX10_init_322 f3 f4 ?_
  refine w_aload_n (pc := 323) C dX10_init_323 rfl ?_
  refine w_getR (pc := 324) C fl_X10_68 rfl dX10_init_324 f1 f2 ?_
  refine w_iconst (pc := 327) C (v := 3) dX10_init_327 (by decide) ?_
  refine w_bipush (pc := 328) C (v := 18) dX10_init_328 (by decide) ?_
  obtain ⟨f5, hv⟩ := hv
  refine w_iast (pc := 330) C dX10_init_330 f3 f5 ?_
  refine w_aload_n (pc := 331) C dX10_init_331 rfl ?_
  refine w_getR (pc := 332) C fl_X10_68 rfl dX10_init_332 f1 f2 ?_
  refine w_iconst (pc := 335) C (v := 4) dX10_init_335 (by decide) ?_
  refine w_bipush (pc := 336) C (v := 12) dX10_init_336 (by decide) ?_
  obtain ⟨f6, hv⟩ := hv
  refine w_iast (pc := 338) C dX10_init_338 f3 f6 ?_
  refine w_sub ?_ hv
  exact ⟨rfl, trivial⟩
set_option maxRecDepth 20000 in
set_option maxHeartbeats 2000000 in
theorem V_X10_init_339 {X : Ctx} (C : C_X10_init X) {k n : Nat} {Q : Pq} {h : Hp} {v0 : Nat}
    (hv : Wj X k n Q 341 [(0, .ref v0), (1, .int 0)] [] h) :
    Wj X k n Q 339 [(0, .ref v0)] [] h := by
  refine w_iconst (pc := 339) C (v := 0) dX10_init_339 (by decide) ?_
  refine w_istore_n (pc := 340) C dX10_init_340 (by decide) ?_
  refine w_sub ?_ hv
  exact ⟨rfl, rfl, trivial⟩
set_option maxRecDepth 20000 in
set_option maxHeartbeats 2000000 in
theorem V_X10_init_341 {X : Ctx} (C : C_X10_init X) {k n : Nat} {Q : Pq} {h : Hp} {v0 : Nat} {v1 : Int32}
    (hv : ((18 ≤ v1 → Wj X k n Q 382 [(0, .ref v0), (1, .int 0)] [] h) ∧
    (¬ 18 ≤ v1 → kd h v0 = 11 ∧ nn h v0 7 ∧ kd h (gp h v0 7) = 20 ∧ inb (5 + v1) (ln h (gp h v0 7)) ∧ nn h v0 10 ∧ kd h (gp h v0 10) = 20 ∧ inb v1 (ln h (gp h v0 10)) ∧ inb (23 + v1) (ln h (gp h v0 7)) ∧ Wj X k n Q 341 [(0, .ref v0), (1, .int (v1 + Int32.ofInt 1))] [] (si (si h (gp h v0 7) (ix (5 + v1)) (v1 / 6)) (gp h v0 7) (ix (23 + v1)) (gi (si h (gp h v0 7) (ix (5 + v1)) (v1 / 6)) (gp h v0 10) (ix v1)))))) :
    Wj X k n Q 341 [(0, .ref v0), (1, .int v1)] [] h := by
  refine w_iload_n (pc := 341) C dX10_init_341 rfl ?_
  refine w_bipush (pc := 342) C (v := 18) dX10_init_342 (by decide) ?_
  refine w_icmp_ge (pc := 344) C (tgt := 380) dX10_init_344 (by decide) ?_
  obtain ⟨hv1, hv2⟩ := hv
  refine ⟨fun c9 => ?_, fun c9 => ?_⟩
  · have hv := hv1 c9
    refine w_iconst (pc := 380) C (v := 0) dX10_init_380 (by decide) ?_
    refine w_istore_n (pc := 381) C dX10_init_381 (by decide) ?_
    refine w_sub ?_ hv
    exact ⟨rfl, rfl, trivial⟩
  · have hv := hv2 c9
    refine w_aload_n (pc := 347) C dX10_init_347 rfl ?_
    obtain ⟨f1, hv⟩ := hv
    obtain ⟨f2, hv⟩ := hv
    refine w_getR (pc := 348) C fl_X10_68 rfl dX10_init_348 f1 f2 ?_
    refine w_iconst (pc := 351) C (v := 5) dX10_init_351 (by decide) ?_
    refine w_iload_n (pc := 352) C dX10_init_352 rfl ?_
    refine w_iadd (pc := 353) C dX10_init_353 ?_
    refine w_iload_n (pc := 354) C dX10_init_354 rfl ?_
    refine w_bipush (pc := 355) C (v := 6) dX10_init_355 (by decide) ?_
    refine w_idiv (pc := 357) C dX10_init_357 (by decide) ?_
    obtain ⟨f3, hv⟩ := hv
    obtain ⟨f4, hv⟩ := hv
    refine w_iast (pc := 358) C dX10_init_358 f3 f4 ?_
    refine w_aload_n (pc := 359) C dX10_init_359 rfl ?_
    refine w_getR (pc := 360) C fl_X10_68 rfl dX10_init_360 f1 f2 ?_
    refine w_bipush (pc := 363) C (v := 23) dX10_init_363 (by decide) ?_
    refine w_iload_n (pc := 365) C dX10_init_365 rfl ?_
    refine w_iadd (pc := 366) C dX10_init_366 ?_
    refine w_aload_n (pc := 367) C dX10_init_367 rfl ?_
    obtain ⟨f5, hv⟩ := hv
    refine w_getR (pc := 368) C fl_X10_74 rfl dX10_init_368 f1 f5 ?_
    refine w_iload_n (pc := 371) C dX10_init_371 rfl ?_
    obtain ⟨f6, hv⟩ := hv
    obtain ⟨f7, hv⟩ := hv
    refine w_iald (pc := 372) C dX10_init_372 f6 f7 ?_
    obtain ⟨f8, hv⟩ := hv
    refine w_iast (pc := 373) C dX10_init_373 f3 f8 ?_
    refine w_iinc (pc := 374) C dX10_init_374 rfl (by decide) ?_
    refine w_goto (pc := 377) C (tgt := 341) dX10_init_377 (by decide) ?_
    refine w_sub ?_ hv
    exact ⟨rfl, rfl, trivial⟩
set_option maxRecDepth 20000 in
set_option maxHeartbeats 2000000 in
theorem V_X10_init_382 {X : Ctx} (C : C_X10_init X) {k n : Nat} {Q : Pq} {h : Hp} {v0 : Nat} {v1 : Int32}
    (hv : ((12 ≤ v1 → kd h v0 = 11 ∧ S_X10_begins (lX X) (dtX X) 0 0 [.ref v0, .int 0] h (QV fun h2 =>
    Q none h2)) ∧
    (¬ 12 ≤ v1 → kd h v0 = 11 ∧ nn h v0 7 ∧ nn h v0 11 ∧ kd h (gp h v0 11) = 20 ∧ inb v1 (ln h (gp h v0 11)) ∧ kd h (gp h v0 7) = 20 ∧ inb (41 + v1) (ln h (gp h v0 7)) ∧ Wj X k n Q 382 [(0, .ref v0), (1, .int (v1 + Int32.ofInt 1))] [] (si h (gp h v0 7) (ix (41 + v1)) (gi h (gp h v0 11) (ix v1)))))) :
    Wj X k n Q 382 [(0, .ref v0), (1, .int v1)] [] h := by
  refine w_iload_n (pc := 382) C dX10_init_382 rfl ?_
  refine w_bipush (pc := 383) C (v := 12) dX10_init_383 (by decide) ?_
  refine w_icmp_ge (pc := 385) C (tgt := 409) dX10_init_385 (by decide) ?_
  obtain ⟨hv1, hv2⟩ := hv
  refine ⟨fun c10 => ?_, fun c10 => ?_⟩
  · have hv := hv1 c10
    refine w_aload_n (pc := 409) C dX10_init_409 rfl ?_
    refine w_iconst (pc := 410) C (v := 0) dX10_init_410 (by decide) ?_
    obtain ⟨f1, hv⟩ := hv
    refine w_cV0_1 (pc := 411) C cl_X10_111 lv_X10_begins (by decide) dX10_init_411 (Nat.le_of_ble_eq_true rfl) (c := 10) rfl f1 (hv.mono (fun v h2 hp => ?_))
    obtain ⟨rfl, hv⟩ := hp
    exact w_vret (pc := 414) C dX10_init_414 hv
  · have hv := hv2 c10
    refine w_aload_n (pc := 388) C dX10_init_388 rfl ?_
    obtain ⟨f3, hv⟩ := hv
    obtain ⟨f4, hv⟩ := hv
    refine w_getR (pc := 389) C fl_X10_68 rfl dX10_init_389 f3 f4 ?_
    refine w_bipush (pc := 392) C (v := 41) dX10_init_392 (by decide) ?_
    refine w_iload_n (pc := 394) C dX10_init_394 rfl ?_
    refine w_iadd (pc := 395) C dX10_init_395 ?_
    refine w_aload_n (pc := 396) C dX10_init_396 rfl ?_
    obtain ⟨f5, hv⟩ := hv
    refine w_getR (pc := 397) C fl_X10_77 rfl dX10_init_397 f3 f5 ?_
    refine w_iload_n (pc := 400) C dX10_init_400 rfl ?_
    obtain ⟨f6, hv⟩ := hv
    obtain ⟨f7, hv⟩ := hv
    refine w_iald (pc := 401) C dX10_init_401 f6 f7 ?_
    obtain ⟨f8, hv⟩ := hv
    obtain ⟨f9, hv⟩ := hv
    refine w_iast (pc := 402) C dX10_init_402 f8 f9 ?_
    refine w_iinc (pc := 403) C dX10_init_403 rfl (by decide) ?_
    refine w_goto (pc := 406) C (tgt := 382) dX10_init_406 (by decide) ?_
    refine w_sub ?_ hv
    exact ⟨rfl, rfl, trivial⟩
theorem dX9_circle_0 : decode cX9_circle 0 = .ok (.aload_n 0, 1) := by decide +kernel
theorem dX9_circle_1 : decode cX9_circle 1 = .ok (.getfield 78, 3) := by decide +kernel
theorem dX9_circle_4 : decode cX9_circle 4 = .ok (.iload_n 1, 1) := by decide +kernel
theorem dX9_circle_5 : decode cX9_circle 5 = .ok (.invokevirtual 152, 3) := by decide +kernel
theorem dX9_circle_8 : decode cX9_circle 8 = .ok (.ifCond .ne 11, 3) := by decide +kernel
theorem dX9_circle_11 : decode cX9_circle 11 = .ok (.new 155, 3) := by decide +kernel
theorem dX9_circle_14 : decode cX9_circle 14 = .ok (.dup, 1) := by decide +kernel
theorem dX9_circle_15 : decode cX9_circle 15 = .ok (.invokespecial 157, 3) := by decide +kernel
theorem dX9_circle_18 : decode cX9_circle 18 = .ok (.athrow, 1) := by decide +kernel
theorem dX9_circle_19 : decode cX9_circle 19 = .ok (.aload_n 0, 1) := by decide +kernel
theorem dX9_circle_20 : decode cX9_circle 20 = .ok (.getfield 19, 3) := by decide +kernel
theorem dX9_circle_23 : decode cX9_circle 23 = .ok (.invokevirtual 158, 3) := by decide +kernel
theorem dX9_circle_26 : decode cX9_circle 26 = .ok (.aload_n 0, 1) := by decide +kernel
theorem dX9_circle_27 : decode cX9_circle 27 = .ok (.getfield 19, 3) := by decide +kernel
theorem dX9_circle_30 : decode cX9_circle 30 = .ok (.aload_n 0, 1) := by decide +kernel
theorem dX9_circle_31 : decode cX9_circle 31 = .ok (.getfield 78, 3) := by decide +kernel
theorem dX9_circle_34 : decode cX9_circle 34 = .ok (.iload_n 1, 1) := by decide +kernel
theorem dX9_circle_35 : decode cX9_circle 35 = .ok (.invokevirtual 161, 3) := by decide +kernel
theorem dX9_circle_38 : decode cX9_circle 38 = .ok (.i2l, 1) := by decide +kernel
theorem dX9_circle_39 : decode cX9_circle 39 = .ok (.invokevirtual 164, 3) := by decide +kernel
theorem dX9_circle_42 : decode cX9_circle 42 = .ok (.aload_n 0, 1) := by decide +kernel
theorem dX9_circle_43 : decode cX9_circle 43 = .ok (.getfield 78, 3) := by decide +kernel
theorem dX9_circle_46 : decode cX9_circle 46 = .ok (.iload_n 1, 1) := by decide +kernel
theorem dX9_circle_47 : decode cX9_circle 47 = .ok (.invokevirtual 168, 3) := by decide +kernel
theorem dX9_circle_50 : decode cX9_circle 50 = .ok (.ireturn, 1) := by decide +kernel
theorem dX9_gear_0 : decode cX9_gear 0 = .ok (.aload_n 0, 1) := by decide +kernel
theorem dX9_gear_1 : decode cX9_gear 1 = .ok (.getfield 78, 3) := by decide +kernel
theorem dX9_gear_4 : decode cX9_gear 4 = .ok (.iload_n 1, 1) := by decide +kernel
theorem dX9_gear_5 : decode cX9_gear 5 = .ok (.invokevirtual 171, 3) := by decide +kernel
theorem dX9_gear_8 : decode cX9_gear 8 = .ok (.ifCond .ne 11, 3) := by decide +kernel
theorem dX9_gear_11 : decode cX9_gear 11 = .ok (.new 155, 3) := by decide +kernel
theorem dX9_gear_14 : decode cX9_gear 14 = .ok (.dup, 1) := by decide +kernel
theorem dX9_gear_15 : decode cX9_gear 15 = .ok (.invokespecial 157, 3) := by decide +kernel
theorem dX9_gear_18 : decode cX9_gear 18 = .ok (.athrow, 1) := by decide +kernel
theorem dX9_gear_19 : decode cX9_gear 19 = .ok (.aload_n 0, 1) := by decide +kernel
theorem dX9_gear_20 : decode cX9_gear 20 = .ok (.getfield 78, 3) := by decide +kernel
theorem dX9_gear_23 : decode cX9_gear 23 = .ok (.iload_n 1, 1) := by decide +kernel
theorem dX9_gear_24 : decode cX9_gear 24 = .ok (.invokevirtual 174, 3) := by decide +kernel
theorem dX9_gear_27 : decode cX9_gear 27 = .ok (.ireturn, 1) := by decide +kernel
theorem dX9_row_0 : decode cX9_row 0 = .ok (.iload_n 1, 1) := by decide +kernel
theorem dX9_row_1 : decode cX9_row 1 = .ok (.ifCond .lt 14, 3) := by decide +kernel
theorem dX9_row_4 : decode cX9_row 4 = .ok (.iload_n 1, 1) := by decide +kernel
theorem dX9_row_5 : decode cX9_row 5 = .ok (.aload_n 0, 1) := by decide +kernel
theorem dX9_row_6 : decode cX9_row 6 = .ok (.getfield 19, 3) := by decide +kernel
theorem dX9_row_9 : decode cX9_row 9 = .ok (.getfield 416, 3) := by decide +kernel
theorem dX9_row_12 : decode cX9_row 12 = .ok (.if_icmp .lt 11, 3) := by decide +kernel
theorem dX9_row_15 : decode cX9_row 15 = .ok (.new 155, 3) := by decide +kernel
theorem dX9_row_18 : decode cX9_row 18 = .ok (.dup, 1) := by decide +kernel
theorem dX9_row_19 : decode cX9_row 19 = .ok (.invokespecial 157, 3) := by decide +kernel
theorem dX9_row_22 : decode cX9_row 22 = .ok (.athrow, 1) := by decide +kernel
theorem dX9_row_23 : decode cX9_row 23 = .ok (.aload_n 0, 1) := by decide +kernel
theorem dX9_row_24 : decode cX9_row 24 = .ok (.getfield 19, 3) := by decide +kernel
theorem dX9_row_27 : decode cX9_row 27 = .ok (.iload_n 1, 1) := by decide +kernel
theorem dX9_row_28 : decode cX9_row 28 = .ok (.invokevirtual 417, 3) := by decide +kernel
theorem dX9_row_31 : decode cX9_row 31 = .ok (.lreturn, 1) := by decide +kernel
