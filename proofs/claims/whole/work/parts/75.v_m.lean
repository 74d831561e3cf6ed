-- the reference: trains (by program: gen_parts.py)
theorem dX10_startsTrains_0 : decode cX10_startsTrains 0 = .ok (.aload_n 0, 1) := by decide +kernel
theorem dX10_startsTrains_1 : decode cX10_startsTrains 1 = .ok (.iload_n 1, 1) := by decide +kernel
theorem dX10_startsTrains_2 : decode cX10_startsTrains 2 = .ok (.putfield 217, 3) := by decide +kernel
theorem dX10_startsTrains_5 : decode cX10_startsTrains 5 = .ok (.iconst 0, 1) := by decide +kernel
theorem dX10_startsTrains_6 : decode cX10_startsTrains 6 = .ok (.istore_n 2, 1) := by decide +kernel
theorem dX10_startsTrains_7 : decode cX10_startsTrains 7 = .ok (.iload_n 2, 1) := by decide +kernel
theorem dX10_startsTrains_8 : decode cX10_startsTrains 8 = .ok (.iconst 4, 1) := by decide +kernel
theorem dX10_startsTrains_9 : decode cX10_startsTrains 9 = .ok (.if_icmp .ge 16, 3) := by decide +kernel
theorem dX10_startsTrains_12 : decode cX10_startsTrains 12 = .ok (.aload_n 0, 1) := by decide +kernel
theorem dX10_startsTrains_13 : decode cX10_startsTrains 13 = .ok (.getfield 80, 3) := by decide +kernel
theorem dX10_startsTrains_16 : decode cX10_startsTrains 16 = .ok (.iload_n 2, 1) := by decide +kernel
theorem dX10_startsTrains_17 : decode cX10_startsTrains 17 = .ok (.iconst (-1), 1) := by decide +kernel
theorem dX10_startsTrains_18 : decode cX10_startsTrains 18 = .ok (.iastore, 1) := by decide +kernel
theorem dX10_startsTrains_19 : decode cX10_startsTrains 19 = .ok (.iinc 2 1, 3) := by decide +kernel
theorem dX10_startsTrains_22 : decode cX10_startsTrains 22 = .ok (.goto (-15), 3) := by decide +kernel
theorem dX10_startsTrains_25 : decode cX10_startsTrains 25 = .ok (.return_, 1) := by decide +kernel
set_option maxRecDepth 20000 in
set_option maxHeartbeats 2000000 in
theorem V_X10_startsTrains_0 {X : Ctx} (C : C_X10_startsTrains X) {k n : Nat} {Q : Pq} {h : Hp} {v0 : Nat} {v1 : Int32}
    (hv : St10 h v0 ∧ Wj X k n Q 7 [(0, .ref v0), (2, .int 0)] [] (si h v0 18 v1)) :
    Wj X k n Q 0 [(0, .ref v0), (1, .int v1)] [] h := by
  refine w_aload_n (pc := 0) C dX10_startsTrains_0 rfl ?_
  refine w_iload_n (pc := 1) C dX10_startsTrains_1 rfl ?_
  obtain ⟨f1, hv⟩ := hv
  refine w_putI (pc := 2) C fl_X10_217 rfl rfl dX10_startsTrains_2 (St10_k f1) ?_
  refine w_iconst (pc := 5) C (v := 0) dX10_startsTrains_5 (by decide) ?_
  refine w_istore_n (pc := 6) C dX10_startsTrains_6 (by decide) ?_
  refine w_sub ?_ hv
  exact ⟨rfl, rfl, trivial⟩
set_option maxRecDepth 20000 in
set_option maxHeartbeats 2000000 in
theorem V_X10_startsTrains_7 {X : Ctx} (C : C_X10_startsTrains X) {k n : Nat} {Q : Pq} {h : Hp} {v0 : Nat} {v2 : Int32}
    (hv : ((4 ≤ v2 → Q none h) ∧
    (¬ 4 ≤ v2 → St10 h v0 ∧ inb v2 4 ∧ Wj X k n Q 7 [(0, .ref v0), (2, .int (v2 + Int32.ofInt 1))] [] (si h (v0 + 7) (ix v2) (-1))))) :
    Wj X k n Q 7 [(0, .ref v0), (2, .int v2)] [] h := by
  refine w_iload_n (pc := 7) C dX10_startsTrains_7 rfl ?_
  refine w_iconst (pc := 8) C (v := 4) dX10_startsTrains_8 (by decide) ?_
  refine w_icmp_ge (pc := 9) C (tgt := 25) dX10_startsTrains_9 (by decide) ?_
  obtain ⟨hv1, hv2⟩ := hv
  refine ⟨fun c3 => ?_, fun c3 => ?_⟩
  · have hv := hv1 c3
    exact w_vret (pc := 25) C dX10_startsTrains_25 hv
  · have hv := hv2 c3
    refine w_aload_n (pc := 12) C dX10_startsTrains_12 rfl ?_
    obtain ⟨f1, hv⟩ := hv
    refine w_getR (pc := 13) C fl_X10_80 rfl dX10_startsTrains_13 (St10_k f1) (St10_r17 f1) ?_
    refine w_iload_n (pc := 16) C dX10_startsTrains_16 rfl ?_
    refine w_iconst (pc := 17) C (v := (-1)) dX10_startsTrains_17 (by decide) ?_
    obtain ⟨f2, hv⟩ := hv
    refine w_iast (pc := 18) C dX10_startsTrains_18 (St10_k17 f1) (inbl (St10_l17 f1) f2) ?_
    refine w_iinc (pc := 19) C dX10_startsTrains_19 rfl (by decide) ?_
    refine w_goto (pc := 22) C (tgt := 7) dX10_startsTrains_22 (by decide) ?_
    refine w_sub ?_ hv
    exact ⟨rfl, rfl, trivial⟩
theorem dX10_beginsFour_0 : decode cX10_beginsFour 0 = .ok (.aload_n 0, 1) := by decide +kernel
theorem dX10_beginsFour_1 : decode cX10_beginsFour 1 = .ok (.invokevirtual 162, 3) := by decide +kernel
theorem dX10_beginsFour_4 : decode cX10_beginsFour 4 = .ok (.iconst 4, 1) := by decide +kernel
theorem dX10_beginsFour_5 : decode cX10_beginsFour 5 = .ok (.if_icmp .ge 5, 3) := by decide +kernel
theorem dX10_beginsFour_8 : decode cX10_beginsFour 8 = .ok (.iconst 0, 1) := by decide +kernel
theorem dX10_beginsFour_9 : decode cX10_beginsFour 9 = .ok (.ireturn, 1) := by decide +kernel
theorem dX10_beginsFour_10 : decode cX10_beginsFour 10 = .ok (.iconst 0, 1) := by decide +kernel
theorem dX10_beginsFour_11 : decode cX10_beginsFour 11 = .ok (.istore_n 1, 1) := by decide +kernel
theorem dX10_beginsFour_12 : decode cX10_beginsFour 12 = .ok (.iload_n 1, 1) := by decide +kernel
theorem dX10_beginsFour_13 : decode cX10_beginsFour 13 = .ok (.iconst 4, 1) := by decide +kernel
theorem dX10_beginsFour_14 : decode cX10_beginsFour 14 = .ok (.if_icmp .ge 16, 3) := by decide +kernel
theorem dX10_beginsFour_17 : decode cX10_beginsFour 17 = .ok (.aload_n 0, 1) := by decide +kernel
theorem dX10_beginsFour_18 : decode cX10_beginsFour 18 = .ok (.getfield 80, 3) := by decide +kernel
theorem dX10_beginsFour_21 : decode cX10_beginsFour 21 = .ok (.iload_n 1, 1) := by decide +kernel
theorem dX10_beginsFour_22 : decode cX10_beginsFour 22 = .ok (.iload_n 1, 1) := by decide +kernel
theorem dX10_beginsFour_23 : decode cX10_beginsFour 23 = .ok (.iastore, 1) := by decide +kernel
theorem dX10_beginsFour_24 : decode cX10_beginsFour 24 = .ok (.iinc 1 1, 3) := by decide +kernel
theorem dX10_beginsFour_27 : decode cX10_beginsFour 27 = .ok (.goto (-15), 3) := by decide +kernel
theorem dX10_beginsFour_30 : decode cX10_beginsFour 30 = .ok (.iconst 1, 1) := by decide +kernel
theorem dX10_beginsFour_31 : decode cX10_beginsFour 31 = .ok (.ireturn, 1) := by decide +kernel
set_option maxRecDepth 20000 in
set_option maxHeartbeats 2000000 in
theorem V_X10_beginsFour_0 {X : Ctx} (C : C_X10_beginsFour X) {k n : Nat} {Q : Pq} {h : Hp} {v0 : Nat}
    (hv : St10 h v0 ∧ ((4 ≤ (gi h (v0 + 3) (ix 4)) → Wj X k n Q 12 [(0, .ref v0), (1, .int 0)] [] h) ∧
    (¬ 4 ≤ (gi h (v0 + 3) (ix 4)) → Q (some (.int 0)) h))) :
    Wj X k n Q 0 [(0, .ref v0)] [] h := by
  refine w_aload_n (pc := 0) C dX10_beginsFour_0 rfl ?_
  obtain ⟨f1, hv⟩ := hv
  refine w_cV0_0 (pc := 1) C cl_X10_162 lv_X10_gearMany (by decide) dX10_beginsFour_1 (Nat.le_of_ble_eq_true rfl) (c := 10) rfl (St10_k f1) ((sf_X10_gearMany (h := h) f1).mono (fun v h9 hp => ?_))
  obtain ⟨e1, e2⟩ := hp
  rw [e1, e2]
  refine w_iconst (pc := 4) C (v := 4) dX10_beginsFour_4 (by decide) ?_
  refine w_icmp_ge (pc := 5) C (tgt := 10) dX10_beginsFour_5 (by decide) ?_
  obtain ⟨hv1, hv2⟩ := hv
  refine ⟨fun c2 => ?_, fun c2 => ?_⟩
  · have hv := hv1 c2
    refine w_iconst (pc := 10) C (v := 0) dX10_beginsFour_10 (by decide) ?_
    refine w_istore_n (pc := 11) C dX10_beginsFour_11 (by decide) ?_
    refine w_sub ?_ hv
    exact ⟨rfl, rfl, trivial⟩
  · have hv := hv2 c2
    refine w_iconst (pc := 8) C (v := 0) dX10_beginsFour_8 (by decide) ?_
    exact w_zret (pc := 9) C dX10_beginsFour_9 (by decide) hv
set_option maxRecDepth 20000 in
set_option maxHeartbeats 2000000 in
theorem V_X10_beginsFour_12 {X : Ctx} (C : C_X10_beginsFour X) {k n : Nat} {Q : Pq} {h : Hp} {v0 : Nat} {v1 : Int32}
    (hv : ((4 ≤ v1 → Q (some (.int 1)) h) ∧
    (¬ 4 ≤ v1 → St10 h v0 ∧ inb v1 4 ∧ Wj X k n Q 12 [(0, .ref v0), (1, .int (v1 + Int32.ofInt 1))] [] (si h (v0 + 7) (ix v1) v1)))) :
    Wj X k n Q 12 [(0, .ref v0), (1, .int v1)] [] h := by
  refine w_iload_n (pc := 12) C dX10_beginsFour_12 rfl ?_
  refine w_iconst (pc := 13) C (v := 4) dX10_beginsFour_13 (by decide) ?_
  refine w_icmp_ge (pc := 14) C (tgt := 30) dX10_beginsFour_14 (by decide) ?_
  obtain ⟨hv1, hv2⟩ := hv
  refine ⟨fun c3 => ?_, fun c3 => ?_⟩
  · have hv := hv1 c3
    refine w_iconst (pc := 30) C (v := 1) dX10_beginsFour_30 (by decide) ?_
    exact w_zret (pc := 31) C dX10_beginsFour_31 (by decide) hv
  · have hv := hv2 c3
    refine w_aload_n (pc := 17) C dX10_beginsFour_17 rfl ?_
    obtain ⟨f1, hv⟩ := hv
    refine w_getR (pc := 18) C fl_X10_80 rfl dX10_beginsFour_18 (St10_k f1) (St10_r17 f1) ?_
    refine w_iload_n (pc := 21) C dX10_beginsFour_21 rfl ?_
    refine w_iload_n (pc := 22) C dX10_beginsFour_22 rfl ?_
    obtain ⟨f2, hv⟩ := hv
    refine w_iast (pc := 23) C dX10_beginsFour_23 (St10_k17 f1) (inbl (St10_l17 f1) f2) ?_
    refine w_iinc (pc := 24) C dX10_beginsFour_24 rfl (by decide) ?_
    refine w_goto (pc := 27) C (tgt := 12) dX10_beginsFour_27 (by decide) ?_
    refine w_sub ?_ hv
    exact ⟨rfl, rfl, trivial⟩
theorem dX10_goesOn_0 : decode cX10_goesOn 0 = .ok (.iload_n 1, 1) := by decide +kernel
theorem dX10_goesOn_1 : decode cX10_goesOn 1 = .ok (.iconst 1, 1) := by decide +kernel
theorem dX10_goesOn_2 : decode cX10_goesOn 2 = .ok (.isub, 1) := by decide +kernel
theorem dX10_goesOn_3 : decode cX10_goesOn 3 = .ok (.istore_n 2, 1) := by decide +kernel
theorem dX10_goesOn_4 : decode cX10_goesOn 4 = .ok (.iload_n 2, 1) := by decide +kernel
theorem dX10_goesOn_5 : decode cX10_goesOn 5 = .ok (.ifCond .lt 69, 3) := by decide +kernel
theorem dX10_goesOn_8 : decode cX10_goesOn 8 = .ok (.aload_n 0, 1) := by decide +kernel
theorem dX10_goesOn_9 : decode cX10_goesOn 9 = .ok (.getfield 80, 3) := by decide +kernel
theorem dX10_goesOn_12 : decode cX10_goesOn 12 = .ok (.iload_n 2, 1) := by decide +kernel
theorem dX10_goesOn_13 : decode cX10_goesOn 13 = .ok (.dup2, 1) := by decide +kernel
theorem dX10_goesOn_14 : decode cX10_goesOn 14 = .ok (.iaload, 1) := by decide +kernel
theorem dX10_goesOn_15 : decode cX10_goesOn 15 = .ok (.iconst 1, 1) := by decide +kernel
theorem dX10_goesOn_16 : decode cX10_goesOn 16 = .ok (.iadd, 1) := by decide +kernel
theorem dX10_goesOn_17 : decode cX10_goesOn 17 = .ok (.iastore, 1) := by decide +kernel
theorem dX10_goesOn_18 : decode cX10_goesOn 18 = .ok (.aload_n 0, 1) := by decide +kernel
theorem dX10_goesOn_19 : decode cX10_goesOn 19 = .ok (.getfield 80, 3) := by decide +kernel
theorem dX10_goesOn_22 : decode cX10_goesOn 22 = .ok (.iload_n 2, 1) := by decide +kernel
theorem dX10_goesOn_23 : decode cX10_goesOn 23 = .ok (.iaload, 1) := by decide +kernel
theorem dX10_goesOn_24 : decode cX10_goesOn 24 = .ok (.aload_n 0, 1) := by decide +kernel
theorem dX10_goesOn_25 : decode cX10_goesOn 25 = .ok (.invokevirtual 162, 3) := by decide +kernel
theorem dX10_goesOn_28 : decode cX10_goesOn 28 = .ok (.if_icmp .ne 16, 3) := by decide +kernel
theorem dX10_goesOn_31 : decode cX10_goesOn 31 = .ok (.aload_n 0, 1) := by decide +kernel
theorem dX10_goesOn_32 : decode cX10_goesOn 32 = .ok (.getfield 80, 3) := by decide +kernel
theorem dX10_goesOn_35 : decode cX10_goesOn 35 = .ok (.iload_n 2, 1) := by decide +kernel
theorem dX10_goesOn_36 : decode cX10_goesOn 36 = .ok (.iconst (-1), 1) := by decide +kernel
theorem dX10_goesOn_37 : decode cX10_goesOn 37 = .ok (.iastore, 1) := by decide +kernel
theorem dX10_goesOn_38 : decode cX10_goesOn 38 = .ok (.iinc 2 (-1), 3) := by decide +kernel
theorem dX10_goesOn_41 : decode cX10_goesOn 41 = .ok (.goto (-37), 3) := by decide +kernel
theorem dX10_goesOn_44 : decode cX10_goesOn 44 = .ok (.aload_n 0, 1) := by decide +kernel
theorem dX10_goesOn_45 : decode cX10_goesOn 45 = .ok (.iload_n 2, 1) := by decide +kernel
theorem dX10_goesOn_46 : decode cX10_goesOn 46 = .ok (.invokevirtual 214, 3) := by decide +kernel
theorem dX10_goesOn_49 : decode cX10_goesOn 49 = .ok (.ifCond .eq (-45), 3) := by decide +kernel
theorem dX10_goesOn_52 : decode cX10_goesOn 52 = .ok (.iload_n 2, 1) := by decide +kernel
theorem dX10_goesOn_53 : decode cX10_goesOn 53 = .ok (.iload_n 1, 1) := by decide +kernel
theorem dX10_goesOn_54 : decode cX10_goesOn 54 = .ok (.iconst 1, 1) := by decide +kernel
theorem dX10_goesOn_55 : decode cX10_goesOn 55 = .ok (.isub, 1) := by decide +kernel
theorem dX10_goesOn_56 : decode cX10_goesOn 56 = .ok (.if_icmp .ne 5, 3) := by decide +kernel
theorem dX10_goesOn_59 : decode cX10_goesOn 59 = .ok (.iconst 1, 1) := by decide +kernel
theorem dX10_goesOn_60 : decode cX10_goesOn 60 = .ok (.ireturn, 1) := by decide +kernel
theorem dX10_goesOn_61 : decode cX10_goesOn 61 = .ok (.iinc 2 1, 3) := by decide +kernel
theorem dX10_goesOn_64 : decode cX10_goesOn 64 = .ok (.aload_n 0, 1) := by decide +kernel
theorem dX10_goesOn_65 : decode cX10_goesOn 65 = .ok (.getfield 80, 3) := by decide +kernel
theorem dX10_goesOn_68 : decode cX10_goesOn 68 = .ok (.iload_n 2, 1) := by decide +kernel
theorem dX10_goesOn_69 : decode cX10_goesOn 69 = .ok (.iconst (-1), 1) := by decide +kernel
theorem dX10_goesOn_70 : decode cX10_goesOn 70 = .ok (.iastore, 1) := by decide +kernel
theorem dX10_goesOn_71 : decode cX10_goesOn 71 = .ok (.goto (-67), 3) := by decide +kernel
theorem dX10_goesOn_74 : decode cX10_goesOn 74 = .ok (.iconst 0, 1) := by decide +kernel
theorem dX10_goesOn_75 : decode cX10_goesOn 75 = .ok (.ireturn, 1) := by decide +kernel
set_option maxRecDepth 20000 in
set_option maxHeartbeats 2000000 in
theorem V_X10_goesOn_0 {X : Ctx} (C : C_X10_goesOn X) {k n : Nat} {Q : Pq} {h : Hp} {v0 : Nat} {v1 : Int32}
    (hv : Wj X k n Q 4 [(0, .ref v0), (1, .int v1), (2, .int (v1 - 1))] [] h) :
    Wj X k n Q 0 [(0, .ref v0), (1, .int v1)] [] h := by
  refine w_iload_n (pc := 0) C dX10_goesOn_0 rfl ?_
  refine w_iconst (pc := 1) C (v := 1) dX10_goesOn_1 (by decide) ?_
  refine w_isub (pc := 2) C dX10_goesOn_2 ?_
  refine w_istore_n (pc := 3) C dX10_goesOn_3 (by decide) ?_
  refine w_sub ?_ hv
  exact ⟨rfl, rfl, rfl, trivial⟩
set_option maxRecDepth 20000 in
set_option maxHeartbeats 2000000 in
theorem V_X10_goesOn_4 {X : Ctx} (C : C_X10_goesOn X) {k n : Nat} {Q : Pq} {h : Hp} {v0 : Nat} {v1 v2 : Int32}
    (hv : ((v2 < 0 → Q (some (.int 0)) h) ∧
    (¬ v2 < 0 → St10 h v0 ∧ inb v2 4 ∧ ((¬ (gi (si h (v0 + 7) (ix v2) ((gi h (v0 + 7) (ix v2)) + 1)) (v0 + 7) (ix v2)) = (gi (si h (v0 + 7) (ix v2) ((gi h (v0 + 7) (ix v2)) + 1)) (v0 + 3) (ix 4)) → (((mUn (si h (v0 + 7) (ix v2) ((gi h (v0 + 7) (ix v2)) + 1)) v0 v2) = 0 → Wj X k n Q 4 [(0, .ref v0), (1, .int v1), (2, .int v2)] [] (si h (v0 + 7) (ix v2) ((gi h (v0 + 7) (ix v2)) + 1))) ∧
    (¬ (mUn (si h (v0 + 7) (ix v2) ((gi h (v0 + 7) (ix v2)) + 1)) v0 v2) = 0 → ((¬ v2 = (v1 - 1) → inb (v2 + Int32.ofInt 1) 4 ∧ Wj X k n Q 4 [(0, .ref v0), (1, .int v1), (2, .int (v2 + Int32.ofInt 1))] [] (si (si h (v0 + 7) (ix v2) ((gi h (v0 + 7) (ix v2)) + 1)) (v0 + 7) (ix (v2 + Int32.ofInt 1)) (-1))) ∧
    (v2 = (v1 - 1) → Q (some (.int 1)) (si h (v0 + 7) (ix v2) ((gi h (v0 + 7) (ix v2)) + 1))))))) ∧
    ((gi (si h (v0 + 7) (ix v2) ((gi h (v0 + 7) (ix v2)) + 1)) (v0 + 7) (ix v2)) = (gi (si h (v0 + 7) (ix v2) ((gi h (v0 + 7) (ix v2)) + 1)) (v0 + 3) (ix 4)) → Wj X k n Q 4 [(0, .ref v0), (1, .int v1), (2, .int (v2 + Int32.ofInt (-1)))] [] (si (si h (v0 + 7) (ix v2) ((gi h (v0 + 7) (ix v2)) + 1)) (v0 + 7) (ix v2) (-1))))))) :
    Wj X k n Q 4 [(0, .ref v0), (1, .int v1), (2, .int v2)] [] h := by
  refine w_iload_n (pc := 4) C dX10_goesOn_4 rfl ?_
  refine w_if_lt (pc := 5) C (tgt := 74) dX10_goesOn_5 (by decide) ?_
  obtain ⟨hv1, hv2⟩ := hv
  refine ⟨fun c7 => ?_, fun c7 => ?_⟩
  · have hv := hv1 c7
    refine w_iconst (pc := 74) C (v := 0) dX10_goesOn_74 (by decide) ?_
    exact w_zret (pc := 75) C dX10_goesOn_75 (by decide) hv
  · have hv := hv2 c7
    refine w_aload_n (pc := 8) C dX10_goesOn_8 rfl ?_
    obtain ⟨f1, hv⟩ := hv
    refine w_getR (pc := 9) C fl_X10_80 rfl dX10_goesOn_9 (St10_k f1) (St10_r17 f1) ?_
    refine w_iload_n (pc := 12) C dX10_goesOn_12 rfl ?_
    refine w_dup2 (pc := 13) C dX10_goesOn_13 rfl rfl ?_
    obtain ⟨f2, hv⟩ := hv
    refine w_iald (pc := 14) C dX10_goesOn_14 (St10_k17 f1) (inbl (St10_l17 f1) f2) ?_
    refine w_iconst (pc := 15) C (v := 1) dX10_goesOn_15 (by decide) ?_
    refine w_iadd (pc := 16) C dX10_goesOn_16 ?_
    refine w_iast (pc := 17) C dX10_goesOn_17 (St10_k17 f1) (inbl (St10_l17 f1) f2) ?_
    refine w_aload_n (pc := 18) C dX10_goesOn_18 rfl ?_
    refine w_getR (pc := 19) C fl_X10_80 rfl dX10_goesOn_19 (St10_k f1) (St10_r17 f1) ?_
    refine w_iload_n (pc := 22) C dX10_goesOn_22 rfl ?_
    refine w_iald (pc := 23) C dX10_goesOn_23 (St10_k17 f1) (inbl (St10_l17 f1) f2) ?_
    refine w_aload_n (pc := 24) C dX10_goesOn_24 rfl ?_
    refine w_cV0_0 (pc := 25) C cl_X10_162 lv_X10_gearMany (by decide) dX10_goesOn_25 (Nat.le_of_ble_eq_true rfl) (c := 10) rfl (St10_k f1) ((sf_X10_gearMany (h := (si h (v0 + 7) (ix v2) ((gi h (v0 + 7) (ix v2)) + 1))) f1).mono (fun v h9 hp => ?_))
    obtain ⟨e1, e2⟩ := hp
    rw [e1, e2]
    refine w_icmp_ne (pc := 28) C (tgt := 44) dX10_goesOn_28 (by decide) ?_
    obtain ⟨hv1, hv2⟩ := hv
    refine ⟨fun c6 => ?_, fun c6 => ?_⟩
    · have hv := hv1 c6
      refine w_aload_n (pc := 44) C dX10_goesOn_44 rfl ?_
      refine w_iload_n (pc := 45) C dX10_goesOn_45 rfl ?_
      refine w_cV0_1 (pc := 46) C cl_X10_214 lv_X10_isUnlike (by decide) dX10_goesOn_46 (Nat.le_of_ble_eq_true rfl) (c := 10) rfl (St10_k f1) ((sf_X10_isUnlike (h := (si h (v0 + 7) (ix v2) ((gi h (v0 + 7) (ix v2)) + 1))) f1 f2).mono (fun v h9 hp => ?_))
      obtain ⟨e1, e2⟩ := hp
      rw [e1, e2]
      refine w_if_eq (pc := 49) C (tgt := 4) dX10_goesOn_49 (by decide) ?_
      obtain ⟨hv1, hv2⟩ := hv
      refine ⟨fun c5 => ?_, fun c5 => ?_⟩
      · have hv := hv1 c5
        refine w_sub ?_ hv
        exact ⟨rfl, rfl, rfl, trivial⟩
      · have hv := hv2 c5
        refine w_iload_n (pc := 52) C dX10_goesOn_52 rfl ?_
        refine w_iload_n (pc := 53) C dX10_goesOn_53 rfl ?_
        refine w_iconst (pc := 54) C (v := 1) dX10_goesOn_54 (by decide) ?_
        refine w_isub (pc := 55) C dX10_goesOn_55 ?_
        refine w_icmp_ne (pc := 56) C (tgt := 61) dX10_goesOn_56 (by decide) ?_
        obtain ⟨hv1, hv2⟩ := hv
        refine ⟨fun c4 => ?_, fun c4 => ?_⟩
        · have hv := hv1 c4
          refine w_iinc (pc := 61) C dX10_goesOn_61 rfl (by decide) ?_
          refine w_aload_n (pc := 64) C dX10_goesOn_64 rfl ?_
          refine w_getR (pc := 65) C fl_X10_80 rfl dX10_goesOn_65 (St10_k f1) (St10_r17 f1) ?_
          refine w_iload_n (pc := 68) C dX10_goesOn_68 rfl ?_
          refine w_iconst (pc := 69) C (v := (-1)) dX10_goesOn_69 (by decide) ?_
          obtain ⟨f3, hv⟩ := hv
          refine w_iast (pc := 70) C dX10_goesOn_70 (St10_k17 f1) (inbl (St10_l17 f1) f3) ?_
          refine w_goto (pc := 71) C (tgt := 4) dX10_goesOn_71 (by decide) ?_
          refine w_sub ?_ hv
          exact ⟨rfl, rfl, rfl, trivial⟩
        · have hv := hv2 c4
          refine w_iconst (pc := 59) C (v := 1) dX10_goesOn_59 (by decide) ?_
          exact w_zret (pc := 60) C dX10_goesOn_60 (by decide) hv
    · have hv := hv2 c6
      refine w_aload_n (pc := 31) C dX10_goesOn_31 rfl ?_
      refine w_getR (pc := 32) C fl_X10_80 rfl dX10_goesOn_32 (St10_k f1) (St10_r17 f1) ?_
      refine w_iload_n (pc := 35) C dX10_goesOn_35 rfl ?_
      refine w_iconst (pc := 36) C (v := (-1)) dX10_goesOn_36 (by decide) ?_
      refine w_iast (pc := 37) C dX10_goesOn_37 (St10_k17 f1) (inbl (St10_l17 f1) f2) ?_
      refine w_iinc (pc := 38) C dX10_goesOn_38 rfl (by decide) ?_
      refine w_goto (pc := 41) C (tgt := 4) dX10_goesOn_41 (by decide) ?_
      refine w_sub ?_ hv
      exact ⟨rfl, rfl, rfl, trivial⟩
theorem dX10_nextTrain_0 : decode cX10_nextTrain 0 = .ok (.aload_n 0, 1) := by decide +kernel
theorem dX10_nextTrain_1 : decode cX10_nextTrain 1 = .ok (.getfield 217, 3) := by decide +kernel
theorem dX10_nextTrain_4 : decode cX10_nextTrain 4 = .ok (.ifCond .ne 15, 3) := by decide +kernel
theorem dX10_nextTrain_7 : decode cX10_nextTrain 7 = .ok (.aload_n 0, 1) := by decide +kernel
theorem dX10_nextTrain_8 : decode cX10_nextTrain 8 = .ok (.iconst 2, 1) := by decide +kernel
theorem dX10_nextTrain_9 : decode cX10_nextTrain 9 = .ok (.invokevirtual 220, 3) := by decide +kernel
theorem dX10_nextTrain_12 : decode cX10_nextTrain 12 = .ok (.aload_n 0, 1) := by decide +kernel
theorem dX10_nextTrain_13 : decode cX10_nextTrain 13 = .ok (.getfield 80, 3) := by decide +kernel
theorem dX10_nextTrain_16 : decode cX10_nextTrain 16 = .ok (.iconst 0, 1) := by decide +kernel
theorem dX10_nextTrain_17 : decode cX10_nextTrain 17 = .ok (.iconst 0, 1) := by decide +kernel
theorem dX10_nextTrain_18 : decode cX10_nextTrain 18 = .ok (.iastore, 1) := by decide +kernel
theorem dX10_nextTrain_19 : decode cX10_nextTrain 19 = .ok (.aload_n 0, 1) := by decide +kernel
theorem dX10_nextTrain_20 : decode cX10_nextTrain 20 = .ok (.getfield 217, 3) := by decide +kernel
theorem dX10_nextTrain_23 : decode cX10_nextTrain 23 = .ok (.iconst 2, 1) := by decide +kernel
theorem dX10_nextTrain_24 : decode cX10_nextTrain 24 = .ok (.if_icmp .ne 13, 3) := by decide +kernel
theorem dX10_nextTrain_27 : decode cX10_nextTrain 27 = .ok (.aload_n 0, 1) := by decide +kernel
theorem dX10_nextTrain_28 : decode cX10_nextTrain 28 = .ok (.iconst 2, 1) := by decide +kernel
theorem dX10_nextTrain_29 : decode cX10_nextTrain 29 = .ok (.invokevirtual 223, 3) := by decide +kernel
theorem dX10_nextTrain_32 : decode cX10_nextTrain 32 = .ok (.ifCond .eq 5, 3) := by decide +kernel
theorem dX10_nextTrain_35 : decode cX10_nextTrain 35 = .ok (.iconst 1, 1) := by decide +kernel
theorem dX10_nextTrain_36 : decode cX10_nextTrain 36 = .ok (.ireturn, 1) := by decide +kernel
theorem dX10_nextTrain_37 : decode cX10_nextTrain 37 = .ok (.aload_n 0, 1) := by decide +kernel
theorem dX10_nextTrain_38 : decode cX10_nextTrain 38 = .ok (.getfield 217, 3) := by decide +kernel
theorem dX10_nextTrain_41 : decode cX10_nextTrain 41 = .ok (.iconst 2, 1) := by decide +kernel
theorem dX10_nextTrain_42 : decode cX10_nextTrain 42 = .ok (.if_icmp .ne 27, 3) := by decide +kernel
theorem dX10_nextTrain_45 : decode cX10_nextTrain 45 = .ok (.aload_n 0, 1) := by decide +kernel
theorem dX10_nextTrain_46 : decode cX10_nextTrain 46 = .ok (.iconst 4, 1) := by decide +kernel
theorem dX10_nextTrain_47 : decode cX10_nextTrain 47 = .ok (.invokevirtual 220, 3) := by decide +kernel
theorem dX10_nextTrain_50 : decode cX10_nextTrain 50 = .ok (.aload_n 0, 1) := by decide +kernel
theorem dX10_nextTrain_51 : decode cX10_nextTrain 51 = .ok (.getfield 80, 3) := by decide +kernel
theorem dX10_nextTrain_54 : decode cX10_nextTrain 54 = .ok (.iconst 0, 1) := by decide +kernel
theorem dX10_nextTrain_55 : decode cX10_nextTrain 55 = .ok (.iconst 0, 1) := by decide +kernel
theorem dX10_nextTrain_56 : decode cX10_nextTrain 56 = .ok (.iastore, 1) := by decide +kernel
theorem dX10_nextTrain_57 : decode cX10_nextTrain 57 = .ok (.aload_n 0, 1) := by decide +kernel
theorem dX10_nextTrain_58 : decode cX10_nextTrain 58 = .ok (.getfield 80, 3) := by decide +kernel
theorem dX10_nextTrain_61 : decode cX10_nextTrain 61 = .ok (.iconst 1, 1) := by decide +kernel
theorem dX10_nextTrain_62 : decode cX10_nextTrain 62 = .ok (.iconst (-1), 1) := by decide +kernel
theorem dX10_nextTrain_63 : decode cX10_nextTrain 63 = .ok (.iastore, 1) := by decide +kernel
theorem dX10_nextTrain_64 : decode cX10_nextTrain 64 = .ok (.aload_n 0, 1) := by decide +kernel
theorem dX10_nextTrain_65 : decode cX10_nextTrain 65 = .ok (.invokevirtual 226, 3) := by decide +kernel
theorem dX10_nextTrain_68 : decode cX10_nextTrain 68 = .ok (.ireturn, 1) := by decide +kernel
theorem dX10_nextTrain_69 : decode cX10_nextTrain 69 = .ok (.aload_n 0, 1) := by decide +kernel
theorem dX10_nextTrain_70 : decode cX10_nextTrain 70 = .ok (.iconst 4, 1) := by decide +kernel
theorem dX10_nextTrain_71 : decode cX10_nextTrain 71 = .ok (.invokevirtual 223, 3) := by decide +kernel
theorem dX10_nextTrain_74 : decode cX10_nextTrain 74 = .ok (.ireturn, 1) := by decide +kernel
set_option maxRecDepth 20000 in
set_option maxHeartbeats 2000000 in
theorem V_X10_nextTrain_0 {X : Ctx} (C : C_X10_nextTrain X) {k n : Nat} {Q : Pq} {h : Hp} {v0 : Nat}
    (hv : St10 h v0 ∧ ((¬ (gi h v0 18) = 0 → Wj X k n Q 19 [(0, .ref v0)] [] h) ∧
    ((gi h v0 18) = 0 → S_X10_startsTrains (lX X) (dtX X) 0 0 [.ref v0, .int 2] h (QV fun h2 =>
    St10 h2 v0 ∧ Wj X k n Q 19 [(0, .ref v0)] [] (si h2 (v0 + 7) (ix 0) 0))))) :
    Wj X k n Q 0 [(0, .ref v0)] [] h := by
  refine w_aload_n (pc := 0) C dX10_nextTrain_0 rfl ?_
  obtain ⟨f1, hv⟩ := hv
  refine w_getI (pc := 1) C fl_X10_217 rfl dX10_nextTrain_1 (St10_k f1) ?_
  refine w_if_ne (pc := 4) C (tgt := 19) dX10_nextTrain_4 (by decide) ?_
  obtain ⟨hv1, hv2⟩ := hv
  refine ⟨fun c4 => ?_, fun c4 => ?_⟩
  · have hv := hv1 c4
    refine w_sub ?_ hv
    exact ⟨rfl, trivial⟩
  · have hv := hv2 c4
    refine w_aload_n (pc := 7) C dX10_nextTrain_7 rfl ?_
    refine w_iconst (pc := 8) C (v := 2) dX10_nextTrain_8 (by decide) ?_
    refine w_cV0_1 (pc := 9) C cl_X10_220 lv_X10_startsTrains (by decide) dX10_nextTrain_9 (Nat.le_of_ble_eq_true rfl) (c := 10) rfl (St10_k f1) (hv.mono (fun v h2 hp => ?_))
    obtain ⟨rfl, hv⟩ := hp
    refine w_aload_n (pc := 12) C dX10_nextTrain_12 rfl ?_
    obtain ⟨f3, hv⟩ := hv
    refine w_getR (pc := 13) C fl_X10_80 rfl dX10_nextTrain_13 (St10_k f3) (St10_r17 f3) ?_
    refine w_iconst (pc := 16) C (v := 0) dX10_nextTrain_16 (by decide) ?_
    refine w_iconst (pc := 17) C (v := 0) dX10_nextTrain_17 (by decide) ?_
    refine w_iast (pc := 18) C dX10_nextTrain_18 (St10_k17 f3) (inbl (St10_l17 f3) (inbd (by decide))) ?_
    refine w_sub ?_ hv
    exact ⟨rfl, trivial⟩
set_option maxRecDepth 20000 in
set_option maxHeartbeats 2000000 in
theorem V_X10_nextTrain_19 {X : Ctx} (C : C_X10_nextTrain X) {k n : Nat} {Q : Pq} {h : Hp} {v0 : Nat}
    (hv : St10 h v0 ∧ ((¬ (gi h v0 18) = 2 → Wj X k n Q 37 [(0, .ref v0)] [] h) ∧
    ((gi h v0 18) = 2 → S_X10_goesOn (lX X) (dtX X) 0 0 [.ref v0, .int 2] h (QI fun x3 h2 =>
    ((x3 = 0 → Wj X k n Q 37 [(0, .ref v0)] [] h2) ∧
    (¬ x3 = 0 → Q (some (.int 1)) h2)))))) :
    Wj X k n Q 19 [(0, .ref v0)] [] h := by
  refine w_aload_n (pc := 19) C dX10_nextTrain_19 rfl ?_
  obtain ⟨f1, hv⟩ := hv
  refine w_getI (pc := 20) C fl_X10_217 rfl dX10_nextTrain_20 (St10_k f1) ?_
  refine w_iconst (pc := 23) C (v := 2) dX10_nextTrain_23 (by decide) ?_
  refine w_icmp_ne (pc := 24) C (tgt := 37) dX10_nextTrain_24 (by decide) ?_
  obtain ⟨hv1, hv2⟩ := hv
  refine ⟨fun c5 => ?_, fun c5 => ?_⟩
  · have hv := hv1 c5
    refine w_sub ?_ hv
    exact ⟨rfl, trivial⟩
  · have hv := hv2 c5
    refine w_aload_n (pc := 27) C dX10_nextTrain_27 rfl ?_
    refine w_iconst (pc := 28) C (v := 2) dX10_nextTrain_28 (by decide) ?_
    refine w_cV0_1 (pc := 29) C cl_X10_223 lv_X10_goesOn (by decide) dX10_nextTrain_29 (Nat.le_of_ble_eq_true rfl) (c := 10) rfl (St10_k f1) (hv.mono (fun v h2 hp => ?_))
    obtain ⟨x3, rfl, hv⟩ := hp
    refine w_if_eq (pc := 32) C (tgt := 37) dX10_nextTrain_32 (by decide) ?_
    obtain ⟨hv1, hv2⟩ := hv
    refine ⟨fun c4 => ?_, fun c4 => ?_⟩
    · have hv := hv1 c4
      refine w_sub ?_ hv
      exact ⟨rfl, trivial⟩
    · have hv := hv2 c4
      refine w_iconst (pc := 35) C (v := 1) dX10_nextTrain_35 (by decide) ?_
      exact w_zret (pc := 36) C dX10_nextTrain_36 (by decide) hv
set_option maxRecDepth 20000 in
set_option maxHeartbeats 2000000 in
theorem V_X10_nextTrain_37 {X : Ctx} (C : C_X10_nextTrain X) {k n : Nat} {Q : Pq} {h : Hp} {v0 : Nat}
    (hv : St10 h v0 ∧ ((¬ (gi h v0 18) = 2 → S_X10_goesOn (lX X) (dtX X) 0 0 [.ref v0, .int 4] h (QI fun x3 h2 =>
    (x3 = 0 ∨ x3 = 1) ∧ Q (some (.int x3)) h2)) ∧
    ((gi h v0 18) = 2 → S_X10_startsTrains (lX X) (dtX X) 0 0 [.ref v0, .int 4] h (QV fun h5 =>
    St10 h5 v0 ∧ S_X10_beginsFour (lX X) (dtX X) 0 0 [.ref v0] (si (si h5 (v0 + 7) (ix 0) 0) (v0 + 7) (ix 1) (-1)) (QI fun x8 h7 =>
    (x8 = 0 ∨ x8 = 1) ∧ Q (some (.int x8)) h7))))) :
    Wj X k n Q 37 [(0, .ref v0)] [] h := by
  refine w_aload_n (pc := 37) C dX10_nextTrain_37 rfl ?_
  obtain ⟨f1, hv⟩ := hv
  refine w_getI (pc := 38) C fl_X10_217 rfl dX10_nextTrain_38 (St10_k f1) ?_
  refine w_iconst (pc := 41) C (v := 2) dX10_nextTrain_41 (by decide) ?_
  refine w_icmp_ne (pc := 42) C (tgt := 69) dX10_nextTrain_42 (by decide) ?_
  obtain ⟨hv1, hv2⟩ := hv
  refine ⟨fun c10 => ?_, fun c10 => ?_⟩
  · have hv := hv1 c10
    refine w_aload_n (pc := 69) C dX10_nextTrain_69 rfl ?_
    refine w_iconst (pc := 70) C (v := 4) dX10_nextTrain_70 (by decide) ?_
    refine w_cV0_1 (pc := 71) C cl_X10_223 lv_X10_goesOn (by decide) dX10_nextTrain_71 (Nat.le_of_ble_eq_true rfl) (c := 10) rfl (St10_k f1) (hv.mono (fun v h2 hp => ?_))
    obtain ⟨x3, rfl, hv⟩ := hp
    obtain ⟨f4, hv⟩ := hv
    exact w_zret (pc := 74) C dX10_nextTrain_74 f4 hv
  · have hv := hv2 c10
    refine w_aload_n (pc := 45) C dX10_nextTrain_45 rfl ?_
    refine w_iconst (pc := 46) C (v := 4) dX10_nextTrain_46 (by decide) ?_
    refine w_cV0_1 (pc := 47) C cl_X10_220 lv_X10_startsTrains (by decide) dX10_nextTrain_47 (Nat.le_of_ble_eq_true rfl) (c := 10) rfl (St10_k f1) (hv.mono (fun v h5 hp => ?_))
    obtain ⟨rfl, hv⟩ := hp
    refine w_aload_n (pc := 50) C dX10_nextTrain_50 rfl ?_
    obtain ⟨f6, hv⟩ := hv
    refine w_getR (pc := 51) C fl_X10_80 rfl dX10_nextTrain_51 (St10_k f6) (St10_r17 f6) ?_
    refine w_iconst (pc := 54) C (v := 0) dX10_nextTrain_54 (by decide) ?_
    refine w_iconst (pc := 55) C (v := 0) dX10_nextTrain_55 (by decide) ?_
    refine w_iast (pc := 56) C dX10_nextTrain_56 (St10_k17 f6) (inbl (St10_l17 f6) (inbd (by decide))) ?_
    refine w_aload_n (pc := 57) C dX10_nextTrain_57 rfl ?_
    refine w_getR (pc := 58) C fl_X10_80 rfl dX10_nextTrain_58 (St10_k f6) (St10_r17 f6) ?_
    refine w_iconst (pc := 61) C (v := 1) dX10_nextTrain_61 (by decide) ?_
    refine w_iconst (pc := 62) C (v := (-1)) dX10_nextTrain_62 (by decide) ?_
    refine w_iast (pc := 63) C dX10_nextTrain_63 (St10_k17 f6) (inbl (St10_l17 f6) (inbd (by decide))) ?_
    refine w_aload_n (pc := 64) C dX10_nextTrain_64 rfl ?_
    refine w_cV0_0 (pc := 65) C cl_X10_226 lv_X10_beginsFour (by decide) dX10_nextTrain_65 (Nat.le_of_ble_eq_true rfl) (c := 10) rfl (St10_k f6) (hv.mono (fun v h7 hp => ?_))
    obtain ⟨x8, rfl, hv⟩ := hp
    obtain ⟨f9, hv⟩ := hv
    exact w_zret (pc := 68) C dX10_nextTrain_68 f9 hv
theorem dX10_finds_0 : decode cX10_finds 0 = .ok (.aload_n 0, 1) := by decide +kernel
theorem dX10_finds_1 : decode cX10_finds 1 = .ok (.aload_n 0, 1) := by decide +kernel
theorem dX10_finds_2 : decode cX10_finds 2 = .ok (.getfield 217, 3) := by decide +kernel
theorem dX10_finds_5 : decode cX10_finds 5 = .ok (.putfield 230, 3) := by decide +kernel
theorem dX10_finds_8 : decode cX10_finds 8 = .ok (.iconst 0, 1) := by decide +kernel
theorem dX10_finds_9 : decode cX10_finds 9 = .ok (.istore_n 1, 1) := by decide +kernel
theorem dX10_finds_10 : decode cX10_finds 10 = .ok (.iload_n 1, 1) := by decide +kernel
theorem dX10_finds_11 : decode cX10_finds 11 = .ok (.iconst 4, 1) := by decide +kernel
theorem dX10_finds_12 : decode cX10_finds 12 = .ok (.if_icmp .ge 33, 3) := by decide +kernel
theorem dX10_finds_15 : decode cX10_finds 15 = .ok (.aload_n 0, 1) := by decide +kernel
theorem dX10_finds_16 : decode cX10_finds 16 = .ok (.getfield 83, 3) := by decide +kernel
theorem dX10_finds_19 : decode cX10_finds 19 = .ok (.iload_n 1, 1) := by decide +kernel
theorem dX10_finds_20 : decode cX10_finds 20 = .ok (.iload_n 1, 1) := by decide +kernel
theorem dX10_finds_21 : decode cX10_finds 21 = .ok (.aload_n 0, 1) := by decide +kernel
theorem dX10_finds_22 : decode cX10_finds 22 = .ok (.getfield 217, 3) := by decide +kernel
theorem dX10_finds_25 : decode cX10_finds 25 = .ok (.if_icmp .ge 12, 3) := by decide +kernel
theorem dX10_finds_28 : decode cX10_finds 28 = .ok (.aload_n 0, 1) := by decide +kernel
theorem dX10_finds_29 : decode cX10_finds 29 = .ok (.getfield 80, 3) := by decide +kernel
theorem dX10_finds_32 : decode cX10_finds 32 = .ok (.iload_n 1, 1) := by decide +kernel
theorem dX10_finds_33 : decode cX10_finds 33 = .ok (.iaload, 1) := by decide +kernel
theorem dX10_finds_34 : decode cX10_finds 34 = .ok (.goto 4, 3) := by decide +kernel
theorem dX10_finds_37 : decode cX10_finds 37 = .ok (.iconst (-1), 1) := by decide +kernel
theorem dX10_finds_38 : decode cX10_finds 38 = .ok (.iastore, 1) := by decide +kernel
theorem dX10_finds_39 : decode cX10_finds 39 = .ok (.iinc 1 1, 3) := by decide +kernel
theorem dX10_finds_42 : decode cX10_finds 42 = .ok (.goto (-32), 3) := by decide +kernel
theorem dX10_finds_45 : decode cX10_finds 45 = .ok (.return_, 1) := by decide +kernel
set_option maxRecDepth 20000 in
set_option maxHeartbeats 2000000 in
theorem V_X10_finds_0 {X : Ctx} (C : C_X10_finds X) {k n : Nat} {Q : Pq} {h : Hp} {v0 : Nat}
    (hv : St10 h v0 ∧ Wj X k n Q 10 [(0, .ref v0), (1, .int 0)] [] (si h v0 20 (gi h v0 18))) :
    Wj X k n Q 0 [(0, .ref v0)] [] h := by
  refine w_aload_n (pc := 0) C dX10_finds_0 rfl ?_
  refine w_aload_n (pc := 1) C dX10_finds_1 rfl ?_
  obtain ⟨f1, hv⟩ := hv
  refine w_getI (pc := 2) C fl_X10_217 rfl dX10_finds_2 (St10_k f1) ?_
  refine w_putI (pc := 5) C fl_X10_230 rfl rfl dX10_finds_5 (St10_k f1) ?_
  refine w_iconst (pc := 8) C (v := 0) dX10_finds_8 (by decide) ?_
  refine w_istore_n (pc := 9) C dX10_finds_9 (by decide) ?_
  refine w_sub ?_ hv
  exact ⟨rfl, rfl, trivial⟩
set_option maxRecDepth 20000 in
set_option maxHeartbeats 2000000 in
theorem V_X10_finds_10 {X : Ctx} (C : C_X10_finds X) {k n : Nat} {Q : Pq} {h : Hp} {v0 : Nat} {v1 : Int32}
    (hv : ((4 ≤ v1 → Q none h) ∧
    (¬ 4 ≤ v1 → St10 h v0 ∧ (((gi h v0 18) ≤ v1 → inb v1 4 ∧ Wj X k n Q 10 [(0, .ref v0), (1, .int (v1 + Int32.ofInt 1))] [] (si h (v0 + 8) (ix v1) (-1))) ∧
    (¬ (gi h v0 18) ≤ v1 → inb v1 4 ∧ Wj X k n Q 10 [(0, .ref v0), (1, .int (v1 + Int32.ofInt 1))] [] (si h (v0 + 8) (ix v1) (gi h (v0 + 7) (ix v1)))))))) :
    Wj X k n Q 10 [(0, .ref v0), (1, .int v1)] [] h := by
  refine w_iload_n (pc := 10) C dX10_finds_10 rfl ?_
  refine w_iconst (pc := 11) C (v := 4) dX10_finds_11 (by decide) ?_
  refine w_icmp_ge (pc := 12) C (tgt := 45) dX10_finds_12 (by decide) ?_
  obtain ⟨hv1, hv2⟩ := hv
  refine ⟨fun c5 => ?_, fun c5 => ?_⟩
  · have hv := hv1 c5
    exact w_vret (pc := 45) C dX10_finds_45 hv
  · have hv := hv2 c5
    refine w_aload_n (pc := 15) C dX10_finds_15 rfl ?_
    obtain ⟨f1, hv⟩ := hv
    refine w_getR (pc := 16) C fl_X10_83 rfl dX10_finds_16 (St10_k f1) (St10_r19 f1) ?_
    refine w_iload_n (pc := 19) C dX10_finds_19 rfl ?_
    refine w_iload_n (pc := 20) C dX10_finds_20 rfl ?_
    refine w_aload_n (pc := 21) C dX10_finds_21 rfl ?_
    refine w_getI (pc := 22) C fl_X10_217 rfl dX10_finds_22 (St10_k f1) ?_
    refine w_icmp_ge (pc := 25) C (tgt := 37) dX10_finds_25 (by decide) ?_
    obtain ⟨hv1, hv2⟩ := hv
    refine ⟨fun c4 => ?_, fun c4 => ?_⟩
    · have hv := hv1 c4
      refine w_iconst (pc := 37) C (v := (-1)) dX10_finds_37 (by decide) ?_
      obtain ⟨f2, hv⟩ := hv
      refine w_iast (pc := 38) C dX10_finds_38 (St10_k19 f1) (inbl (St10_l19 f1) f2) ?_
      refine w_iinc (pc := 39) C dX10_finds_39 rfl (by decide) ?_
      refine w_goto (pc := 42) C (tgt := 10) dX10_finds_42 (by decide) ?_
      refine w_sub ?_ hv
      exact ⟨rfl, rfl, trivial⟩
    · have hv := hv2 c4
      refine w_aload_n (pc := 28) C dX10_finds_28 rfl ?_
      refine w_getR (pc := 29) C fl_X10_80 rfl dX10_finds_29 (St10_k f1) (St10_r17 f1) ?_
      refine w_iload_n (pc := 32) C dX10_finds_32 rfl ?_
      obtain ⟨f3, hv⟩ := hv
      refine w_iald (pc := 33) C dX10_finds_33 (St10_k17 f1) (inbl (St10_l17 f1) f3) ?_
      refine w_goto (pc := 34) C (tgt := 38) dX10_finds_34 (by decide) ?_
      refine w_iast (pc := 38) C dX10_finds_38 (St10_k19 f1) (inbl (St10_l19 f1) f3) ?_
      refine w_iinc (pc := 39) C dX10_finds_39 rfl (by decide) ?_
      refine w_goto (pc := 42) C (tgt := 10) dX10_finds_42 (by decide) ?_
      refine w_sub ?_ hv
      exact ⟨rfl, rfl, trivial⟩
theorem dX10_findsTrain_0 : decode cX10_findsTrain 0 = .ok (.aload_n 0, 1) := by decide +kernel
theorem dX10_findsTrain_1 : decode cX10_findsTrain 1 = .ok (.invokevirtual 162, 3) := by decide +kernel
theorem dX10_findsTrain_4 : decode cX10_findsTrain 4 = .ok (.iconst 2, 1) := by decide +kernel
theorem dX10_findsTrain_5 : decode cX10_findsTrain 5 = .ok (.if_icmp .ge 5, 3) := by decide +kernel
theorem dX10_findsTrain_8 : decode cX10_findsTrain 8 = .ok (.iconst 0, 1) := by decide +kernel
theorem dX10_findsTrain_9 : decode cX10_findsTrain 9 = .ok (.ireturn, 1) := by decide +kernel
theorem dX10_findsTrain_10 : decode cX10_findsTrain 10 = .ok (.aload_n 0, 1) := by decide +kernel
theorem dX10_findsTrain_11 : decode cX10_findsTrain 11 = .ok (.iconst 0, 1) := by decide +kernel
theorem dX10_findsTrain_12 : decode cX10_findsTrain 12 = .ok (.putfield 217, 3) := by decide +kernel
theorem dX10_findsTrain_15 : decode cX10_findsTrain 15 = .ok (.aload_n 0, 1) := by decide +kernel
theorem dX10_findsTrain_16 : decode cX10_findsTrain 16 = .ok (.invokevirtual 233, 3) := by decide +kernel
theorem dX10_findsTrain_19 : decode cX10_findsTrain 19 = .ok (.ifCond .eq 25, 3) := by decide +kernel
theorem dX10_findsTrain_22 : decode cX10_findsTrain 22 = .ok (.aload_n 0, 1) := by decide +kernel
theorem dX10_findsTrain_23 : decode cX10_findsTrain 23 = .ok (.invokevirtual 236, 3) := by decide +kernel
theorem dX10_findsTrain_26 : decode cX10_findsTrain 26 = .ok (.lload_n 3, 1) := by decide +kernel
theorem dX10_findsTrain_27 : decode cX10_findsTrain 27 = .ok (.lmul, 1) := by decide +kernel
theorem dX10_findsTrain_28 : decode cX10_findsTrain 28 = .ok (.aload_n 0, 1) := by decide +kernel
theorem dX10_findsTrain_29 : decode cX10_findsTrain 29 = .ok (.invokevirtual 240, 3) := by decide +kernel
theorem dX10_findsTrain_32 : decode cX10_findsTrain 32 = .ok (.lload_n 1, 1) := by decide +kernel
theorem dX10_findsTrain_33 : decode cX10_findsTrain 33 = .ok (.lmul, 1) := by decide +kernel
theorem dX10_findsTrain_34 : decode cX10_findsTrain 34 = .ok (.lcmp, 1) := by decide +kernel
theorem dX10_findsTrain_35 : decode cX10_findsTrain 35 = .ok (.ifCond .ne (-20), 3) := by decide +kernel
theorem dX10_findsTrain_38 : decode cX10_findsTrain 38 = .ok (.aload_n 0, 1) := by decide +kernel
theorem dX10_findsTrain_39 : decode cX10_findsTrain 39 = .ok (.invokevirtual 243, 3) := by decide +kernel
theorem dX10_findsTrain_42 : decode cX10_findsTrain 42 = .ok (.iconst 1, 1) := by decide +kernel
theorem dX10_findsTrain_43 : decode cX10_findsTrain 43 = .ok (.ireturn, 1) := by decide +kernel
theorem dX10_findsTrain_44 : decode cX10_findsTrain 44 = .ok (.iconst 0, 1) := by decide +kernel
theorem dX10_findsTrain_45 : decode cX10_findsTrain 45 = .ok (.ireturn, 1) := by decide +kernel
set_option maxRecDepth 20000 in
set_option maxHeartbeats 2000000 in
theorem V_X10_findsTrain_0 {X : Ctx} (C : C_X10_findsTrain X) {k n : Nat} {Q : Pq} {h : Hp} {v0 : Nat} {v1 v3 : Int64}
    (hv : St10 h v0 ∧ ((2 ≤ (gi h (v0 + 3) (ix 4)) → Wj X k n Q 15 [(0, .ref v0), (1, .long v1), (3, .long v3)] [] (si h v0 18 0)) ∧
    (¬ 2 ≤ (gi h (v0 + 3) (ix 4)) → Q (some (.int 0)) h))) :
    Wj X k n Q 0 [(0, .ref v0), (1, .long v1), (3, .long v3)] [] h := by
  refine w_aload_n (pc := 0) C dX10_findsTrain_0 rfl ?_
  obtain ⟨f1, hv⟩ := hv
  refine w_cV0_0 (pc := 1) C cl_X10_162 lv_X10_gearMany (by decide) dX10_findsTrain_1 (Nat.le_of_ble_eq_true rfl) (c := 10) rfl (St10_k f1) ((sf_X10_gearMany (h := h) f1).mono (fun v h9 hp => ?_))
  obtain ⟨e1, e2⟩ := hp
  rw [e1, e2]
  refine w_iconst (pc := 4) C (v := 2) dX10_findsTrain_4 (by decide) ?_
  refine w_icmp_ge (pc := 5) C (tgt := 10) dX10_findsTrain_5 (by decide) ?_
  obtain ⟨hv1, hv2⟩ := hv
  refine ⟨fun c2 => ?_, fun c2 => ?_⟩
  · have hv := hv1 c2
    refine w_aload_n (pc := 10) C dX10_findsTrain_10 rfl ?_
    refine w_iconst (pc := 11) C (v := 0) dX10_findsTrain_11 (by decide) ?_
    refine w_putI (pc := 12) C fl_X10_217 rfl rfl dX10_findsTrain_12 (St10_k f1) ?_
    refine w_sub ?_ hv
    exact ⟨rfl, rfl, rfl, trivial⟩
  · have hv := hv2 c2
    refine w_iconst (pc := 8) C (v := 0) dX10_findsTrain_8 (by decide) ?_
    exact w_zret (pc := 9) C dX10_findsTrain_9 (by decide) hv
set_option maxRecDepth 20000 in
set_option maxHeartbeats 2000000 in
theorem V_X10_findsTrain_15 {X : Ctx} (C : C_X10_findsTrain X) {k n : Nat} {Q : Pq} {h : Hp} {v0 : Nat} {v1 v3 : Int64}
    (hv : St10 h v0 ∧ S_X10_nextTrain (lX X) (dtX X) 0 0 [.ref v0] h (QI fun x3 h2 =>
    ((x3 = 0 → Q (some (.int 0)) h2) ∧
    (¬ x3 = 0 → St10 h2 v0 ∧ inb (41 + gi h2 (v0 + 7) (ix 0)) 732 ∧ (gi h2 v0 18 = 4 → inb (41 + gi h2 (v0 + 7) (ix 2)) 732) ∧ inb (41 + gi h2 (v0 + 7) (ix 1)) 732 ∧ (gi h2 v0 18 = 4 → inb (41 + gi h2 (v0 + 7) (ix 3)) 732) ∧ ((¬ ((mUp h2 v0) * v3) = ((mLw h2 v0) * v1) → Wj X k n Q 15 [(0, .ref v0), (1, .long v1), (3, .long v3)] [] h2) ∧
    (((mUp h2 v0) * v3) = ((mLw h2 v0) * v1) → S_X10_finds (lX X) (dtX X) 0 0 [.ref v0] h2 (QV fun h9 =>
    Q (some (.int 1)) h9))))))) :
    Wj X k n Q 15 [(0, .ref v0), (1, .long v1), (3, .long v3)] [] h := by
  refine w_aload_n (pc := 15) C dX10_findsTrain_15 rfl ?_
  obtain ⟨f1, hv⟩ := hv
  refine w_cV0_0 (pc := 16) C cl_X10_233 lv_X10_nextTrain (by decide) dX10_findsTrain_16 (Nat.le_of_ble_eq_true rfl) (c := 10) rfl (St10_k f1) (hv.mono (fun v h2 hp => ?_))
  obtain ⟨x3, rfl, hv⟩ := hp
  refine w_if_eq (pc := 19) C (tgt := 44) dX10_findsTrain_19 (by decide) ?_
  obtain ⟨hv1, hv2⟩ := hv
  refine ⟨fun c11 => ?_, fun c11 => ?_⟩
  · have hv := hv1 c11
    refine w_iconst (pc := 44) C (v := 0) dX10_findsTrain_44 (by decide) ?_
    exact w_zret (pc := 45) C dX10_findsTrain_45 (by decide) hv
  · have hv := hv2 c11
    refine w_aload_n (pc := 22) C dX10_findsTrain_22 rfl ?_
    obtain ⟨f4, hv⟩ := hv
    obtain ⟨f5, hv⟩ := hv
    obtain ⟨f6, hv⟩ := hv
    refine w_cV0_0 (pc := 23) C cl_X10_236 lv_X10_upper (by decide) dX10_findsTrain_23 (Nat.le_of_ble_eq_true rfl) (c := 10) rfl (St10_k f4) ((sf_X10_upper (h := h2) f4 f5 f6).mono (fun v h9 hp => ?_))
    obtain ⟨e1, e2⟩ := hp
    rw [e1, e2]
    refine w_lload_n (pc := 26) C dX10_findsTrain_26 rfl ?_
    refine w_lmul (pc := 27) C dX10_findsTrain_27 ?_
    refine w_aload_n (pc := 28) C dX10_findsTrain_28 rfl ?_
    obtain ⟨f7, hv⟩ := hv
    obtain ⟨f8, hv⟩ := hv
    refine w_cV0_0 (pc := 29) C cl_X10_240 lv_X10_lower (by decide) dX10_findsTrain_29 (Nat.le_of_ble_eq_true rfl) (c := 10) rfl (St10_k f4) ((sf_X10_lower (h := h2) f4 f7 f8).mono (fun v h9 hp => ?_))
    obtain ⟨e1, e2⟩ := hp
    rw [e1, e2]
    refine w_lload_n (pc := 32) C dX10_findsTrain_32 rfl ?_
    refine w_lmul (pc := 33) C dX10_findsTrain_33 ?_
    refine w_lcmp_ne (pc := 34) C (tgt := 15) dX10_findsTrain_34 dX10_findsTrain_35 (by decide) ?_
    obtain ⟨hv1, hv2⟩ := hv
    refine ⟨fun c10 => ?_, fun c10 => ?_⟩
    · have hv := hv1 c10
      refine w_sub ?_ hv
      exact ⟨rfl, rfl, rfl, trivial⟩
    · have hv := hv2 c10
      refine w_aload_n (pc := 38) C dX10_findsTrain_38 rfl ?_
      refine w_cV0_0 (pc := 39) C cl_X10_243 lv_X10_finds (by decide) dX10_findsTrain_39 (Nat.le_of_ble_eq_true rfl) (c := 10) rfl (St10_k f4) (hv.mono (fun v h9 hp => ?_))
      obtain ⟨rfl, hv⟩ := hp
      refine w_iconst (pc := 42) C (v := 1) dX10_findsTrain_42 (by decide) ?_
      exact w_zret (pc := 43) C dX10_findsTrain_43 (by decide) hv
theorem dX10_entersFound_0 : decode cX10_entersFound 0 = .ok (.iconst 0, 1) := by decide +kernel
theorem dX10_entersFound_1 : decode cX10_entersFound 1 = .ok (.istore_n 1, 1) := by decide +kernel
theorem dX10_entersFound_2 : decode cX10_entersFound 2 = .ok (.iload_n 1, 1) := by decide +kernel
theorem dX10_entersFound_3 : decode cX10_entersFound 3 = .ok (.aload_n 0, 1) := by decide +kernel
theorem dX10_entersFound_4 : decode cX10_entersFound 4 = .ok (.getfield 230, 3) := by decide +kernel
theorem dX10_entersFound_7 : decode cX10_entersFound 7 = .ok (.if_icmp .ge 20, 3) := by decide +kernel
theorem dX10_entersFound_10 : decode cX10_entersFound 10 = .ok (.aload_n 0, 1) := by decide +kernel
theorem dX10_entersFound_11 : decode cX10_entersFound 11 = .ok (.aload_n 0, 1) := by decide +kernel
theorem dX10_entersFound_12 : decode cX10_entersFound 12 = .ok (.getfield 83, 3) := by decide +kernel
theorem dX10_entersFound_15 : decode cX10_entersFound 15 = .ok (.iload_n 1, 1) := by decide +kernel
theorem dX10_entersFound_16 : decode cX10_entersFound 16 = .ok (.iaload, 1) := by decide +kernel
theorem dX10_entersFound_17 : decode cX10_entersFound 17 = .ok (.i2l, 1) := by decide +kernel
theorem dX10_entersFound_18 : decode cX10_entersFound 18 = .ok (.invokevirtual 18, 3) := by decide +kernel
theorem dX10_entersFound_21 : decode cX10_entersFound 21 = .ok (.iinc 1 1, 3) := by decide +kernel
theorem dX10_entersFound_24 : decode cX10_entersFound 24 = .ok (.goto (-22), 3) := by decide +kernel
theorem dX10_entersFound_27 : decode cX10_entersFound 27 = .ok (.return_, 1) := by decide +kernel
set_option maxRecDepth 20000 in
set_option maxHeartbeats 2000000 in
theorem V_X10_entersFound_0 {X : Ctx} (C : C_X10_entersFound X) {k n : Nat} {Q : Pq} {h : Hp} {v0 : Nat}
    (hv : Wj X k n Q 2 [(0, .ref v0), (1, .int 0)] [] h) :
    Wj X k n Q 0 [(0, .ref v0)] [] h := by
  refine w_iconst (pc := 0) C (v := 0) dX10_entersFound_0 (by decide) ?_
  refine w_istore_n (pc := 1) C dX10_entersFound_1 (by decide) ?_
  refine w_sub ?_ hv
  exact ⟨rfl, rfl, trivial⟩
set_option maxRecDepth 20000 in
set_option maxHeartbeats 2000000 in
theorem V_X10_entersFound_2 {X : Ctx} (C : C_X10_entersFound X) {k n : Nat} {Q : Pq} {h : Hp} {v0 : Nat} {v1 : Int32}
    (hv : St10 h v0 ∧ (((gi h v0 20) ≤ v1 → Q none h) ∧
    (¬ (gi h v0 20) ≤ v1 → inb v1 4 ∧ S_X10_enters (lX X) (dtX X) 0 0 [.ref v0, .long (Int32.toInt64 (gi h (v0 + 8) (ix v1)))] h (QV fun h3 =>
    Wj X k n Q 2 [(0, .ref v0), (1, .int (v1 + Int32.ofInt 1))] [] h3)))) :
    Wj X k n Q 2 [(0, .ref v0), (1, .int v1)] [] h := by
  refine w_iload_n (pc := 2) C dX10_entersFound_2 rfl ?_
  refine w_aload_n (pc := 3) C dX10_entersFound_3 rfl ?_
  obtain ⟨f1, hv⟩ := hv
  refine w_getI (pc := 4) C fl_X10_230 rfl dX10_entersFound_4 (St10_k f1) ?_
  refine w_icmp_ge (pc := 7) C (tgt := 27) dX10_entersFound_7 (by decide) ?_
  obtain ⟨hv1, hv2⟩ := hv
  refine ⟨fun c4 => ?_, fun c4 => ?_⟩
  · have hv := hv1 c4
    exact w_vret (pc := 27) C dX10_entersFound_27 hv
  · have hv := hv2 c4
    refine w_aload_n (pc := 10) C dX10_entersFound_10 rfl ?_
    refine w_aload_n (pc := 11) C dX10_entersFound_11 rfl ?_
    refine w_getR (pc := 12) C fl_X10_83 rfl dX10_entersFound_12 (St10_k f1) (St10_r19 f1) ?_
    refine w_iload_n (pc := 15) C dX10_entersFound_15 rfl ?_
    obtain ⟨f2, hv⟩ := hv
    refine w_iald (pc := 16) C dX10_entersFound_16 (St10_k19 f1) (inbl (St10_l19 f1) f2) ?_
    refine w_i2l (pc := 17) C dX10_entersFound_17 ?_
    refine w_cV0_1 (pc := 18) C cl_X10_18 lv_X10_enters (by decide) dX10_entersFound_18 (Nat.le_of_ble_eq_true rfl) (c := 10) rfl (St10_k f1) (hv.mono (fun v h3 hp => ?_))
    obtain ⟨rfl, hv⟩ := hp
    refine w_iinc (pc := 21) C dX10_entersFound_21 rfl (by decide) ?_
    refine w_goto (pc := 24) C (tgt := 2) dX10_entersFound_24 (by decide) ?_
    refine w_sub ?_ hv
    exact ⟨rfl, rfl, trivial⟩
theorem dX10_train_0 : decode cX10_train 0 = .ok (.aload_n 0, 1) := by decide +kernel
theorem dX10_train_1 : decode cX10_train 1 = .ok (.iconst 0, 1) := by decide +kernel
theorem dX10_train_2 : decode cX10_train 2 = .ok (.putfield 1, 3) := by decide +kernel
theorem dX10_train_5 : decode cX10_train 5 = .ok (.iload_n 1, 1) := by decide +kernel
theorem dX10_train_6 : decode cX10_train 6 = .ok (.iload_n 2, 1) := by decide +kernel
theorem dX10_train_7 : decode cX10_train 7 = .ok (.invokestatic 265, 3) := by decide +kernel
theorem dX10_train_10 : decode cX10_train 10 = .ok (.ifCond .ne 5, 3) := by decide +kernel
theorem dX10_train_13 : decode cX10_train 13 = .ok (.iconst (-1), 1) := by decide +kernel
theorem dX10_train_14 : decode cX10_train 14 = .ok (.ireturn, 1) := by decide +kernel
theorem dX10_train_15 : decode cX10_train 15 = .ok (.aload_n 0, 1) := by decide +kernel
theorem dX10_train_16 : decode cX10_train 16 = .ok (.iload_n 1, 1) := by decide +kernel
theorem dX10_train_17 : decode cX10_train 17 = .ok (.i2l, 1) := by decide +kernel
theorem dX10_train_18 : decode cX10_train 18 = .ok (.iload_n 2, 1) := by decide +kernel
theorem dX10_train_19 : decode cX10_train 19 = .ok (.i2l, 1) := by decide +kernel
theorem dX10_train_20 : decode cX10_train 20 = .ok (.invokevirtual 246, 3) := by decide +kernel
theorem dX10_train_23 : decode cX10_train 23 = .ok (.ifCond .ne 6, 3) := by decide +kernel
theorem dX10_train_26 : decode cX10_train 26 = .ok (.bipush (-2), 2) := by decide +kernel
theorem dX10_train_28 : decode cX10_train 28 = .ok (.ireturn, 1) := by decide +kernel
theorem dX10_train_29 : decode cX10_train 29 = .ok (.aload_n 0, 1) := by decide +kernel
theorem dX10_train_30 : decode cX10_train 30 = .ok (.iconst 0, 1) := by decide +kernel
theorem dX10_train_31 : decode cX10_train 31 = .ok (.putfield 11, 3) := by decide +kernel
theorem dX10_train_34 : decode cX10_train 34 = .ok (.aload_n 0, 1) := by decide +kernel
theorem dX10_train_35 : decode cX10_train 35 = .ok (.invokevirtual 268, 3) := by decide +kernel
theorem dX10_train_38 : decode cX10_train 38 = .ok (.aload_n 0, 1) := by decide +kernel
theorem dX10_train_39 : decode cX10_train 39 = .ok (.getfield 230, 3) := by decide +kernel
theorem dX10_train_42 : decode cX10_train 42 = .ok (.ireturn, 1) := by decide +kernel
set_option maxRecDepth 20000 in
set_option maxHeartbeats 2000000 in
theorem V_X10_train_0 {X : Ctx} (C : C_X10_train X) {k n : Nat} {Q : Pq} {h : Hp} {v0 : Nat} {v1 v2 : Int32}
    (hv : St10 h v0 ∧ ((¬ (iRt v1 v2) = 0 → S_X10_findsTrain (lX X) (dtX X) 0 0 [.ref v0, .long (Int32.toInt64 v1), .long (Int32.toInt64 v2)] (si h v0 0 0) (QI fun x3 h2 =>
    ((¬ x3 = 0 → St10 h2 v0 ∧ S_X10_entersFound (lX X) (dtX X) 0 0 [.ref v0] (si h2 v0 1 0) (QV fun h5 =>
    St10 h5 v0 ∧ Q (some (.int (gi h5 v0 20))) h5)) ∧
    (x3 = 0 → Q (some (.int (-2))) h2)))) ∧
    ((iRt v1 v2) = 0 → Q (some (.int (-1))) (si h v0 0 0)))) :
    Wj X k n Q 0 [(0, .ref v0), (1, .int v1), (2, .int v2)] [] h := by
  refine w_aload_n (pc := 0) C dX10_train_0 rfl ?_
  refine w_iconst (pc := 1) C (v := 0) dX10_train_1 (by decide) ?_
  obtain ⟨f1, hv⟩ := hv
  refine w_putI (pc := 2) C fl_X10_1 rfl rfl dX10_train_2 (St10_k f1) ?_
  refine w_iload_n (pc := 5) C dX10_train_5 rfl ?_
  refine w_iload_n (pc := 6) C dX10_train_6 rfl ?_
  refine w_cS0_2 (pc := 7) C cl_X10_265 ls_X10_isRatio (by decide) dX10_train_7 (Nat.le_of_ble_eq_true rfl) ((sf_X10_isRatio (h := (si h v0 0 0)) ).mono (fun v h9 hp => ?_))
  obtain ⟨e1, e2⟩ := hp
  rw [e1, e2]
  refine w_if_ne (pc := 10) C (tgt := 15) dX10_train_10 (by decide) ?_
  obtain ⟨hv1, hv2⟩ := hv
  refine ⟨fun c8 => ?_, fun c8 => ?_⟩
  · have hv := hv1 c8
    refine w_aload_n (pc := 15) C dX10_train_15 rfl ?_
    refine w_iload_n (pc := 16) C dX10_train_16 rfl ?_
    refine w_i2l (pc := 17) C dX10_train_17 ?_
    refine w_iload_n (pc := 18) C dX10_train_18 rfl ?_
    refine w_i2l (pc := 19) C dX10_train_19 ?_
    refine w_cV0_2 (pc := 20) C cl_X10_246 lv_X10_findsTrain (by decide) dX10_train_20 (Nat.le_of_ble_eq_true rfl) (c := 10) rfl (St10_k f1) (hv.mono (fun v h2 hp => ?_))
    obtain ⟨x3, rfl, hv⟩ := hp
    refine w_if_ne (pc := 23) C (tgt := 29) dX10_train_23 (by decide) ?_
    obtain ⟨hv1, hv2⟩ := hv
    refine ⟨fun c7 => ?_, fun c7 => ?_⟩
    · have hv := hv1 c7
      refine w_aload_n (pc := 29) C dX10_train_29 rfl ?_
      refine w_iconst (pc := 30) C (v := 0) dX10_train_30 (by decide) ?_
      obtain ⟨f4, hv⟩ := hv
      refine w_putI (pc := 31) C fl_X10_11 rfl rfl dX10_train_31 (St10_k f4) ?_
      refine w_aload_n (pc := 34) C dX10_train_34 rfl ?_
      refine w_cV0_0 (pc := 35) C cl_X10_268 lv_X10_entersFound (by decide) dX10_train_35 (Nat.le_of_ble_eq_true rfl) (c := 10) rfl (St10_k f4) (hv.mono (fun v h5 hp => ?_))
      obtain ⟨rfl, hv⟩ := hp
      refine w_aload_n (pc := 38) C dX10_train_38 rfl ?_
      obtain ⟨f6, hv⟩ := hv
      refine w_getI (pc := 39) C fl_X10_230 rfl dX10_train_39 (St10_k f6) ?_
      exact w_iret (pc := 42) C dX10_train_42 hv
    · have hv := hv2 c7
      refine w_bipush (pc := 26) C (v := (-2)) dX10_train_26 (by decide) ?_
      exact w_iret (pc := 28) C dX10_train_28 hv
  · have hv := hv2 c8
    refine w_iconst (pc := 13) C (v := (-1)) dX10_train_13 (by decide) ?_
    exact w_iret (pc := 14) C dX10_train_14 hv
theorem dX10_findsNearest_0 : decode cX10_findsNearest 0 = .ok (.aload_n 0, 1) := by decide +kernel
theorem dX10_findsNearest_1 : decode cX10_findsNearest 1 = .ok (.lconst 0, 1) := by decide +kernel
theorem dX10_findsNearest_2 : decode cX10_findsNearest 2 = .ok (.putfield 271, 3) := by decide +kernel
theorem dX10_findsNearest_5 : decode cX10_findsNearest 5 = .ok (.aload_n 0, 1) := by decide +kernel
theorem dX10_findsNearest_6 : decode cX10_findsNearest 6 = .ok (.invokevirtual 162, 3) := by decide +kernel
theorem dX10_findsNearest_9 : decode cX10_findsNearest 9 = .ok (.iconst 2, 1) := by decide +kernel
theorem dX10_findsNearest_10 : decode cX10_findsNearest 10 = .ok (.if_icmp .ge 5, 3) := by decide +kernel
theorem dX10_findsNearest_13 : decode cX10_findsNearest 13 = .ok (.iconst 0, 1) := by decide +kernel
theorem dX10_findsNearest_14 : decode cX10_findsNearest 14 = .ok (.ireturn, 1) := by decide +kernel
theorem dX10_findsNearest_15 : decode cX10_findsNearest 15 = .ok (.aload_n 0, 1) := by decide +kernel
theorem dX10_findsNearest_16 : decode cX10_findsNearest 16 = .ok (.iconst 0, 1) := by decide +kernel
theorem dX10_findsNearest_17 : decode cX10_findsNearest 17 = .ok (.putfield 217, 3) := by decide +kernel
theorem dX10_findsNearest_20 : decode cX10_findsNearest 20 = .ok (.aload_n 0, 1) := by decide +kernel
theorem dX10_findsNearest_21 : decode cX10_findsNearest 21 = .ok (.invokevirtual 233, 3) := by decide +kernel
theorem dX10_findsNearest_24 : decode cX10_findsNearest 24 = .ok (.ifCond .eq 81, 3) := by decide +kernel
theorem dX10_findsNearest_27 : decode cX10_findsNearest 27 = .ok (.lload 5, 2) := by decide +kernel
theorem dX10_findsNearest_29 : decode cX10_findsNearest 29 = .ok (.lconst 0, 1) := by decide +kernel
theorem dX10_findsNearest_30 : decode cX10_findsNearest 30 = .ok (.lcmp, 1) := by decide +kernel
theorem dX10_findsNearest_31 : decode cX10_findsNearest 31 = .ok (.ifCond .ne 10, 3) := by decide +kernel
theorem dX10_findsNearest_34 : decode cX10_findsNearest 34 = .ok (.aload_n 0, 1) := by decide +kernel
theorem dX10_findsNearest_35 : decode cX10_findsNearest 35 = .ok (.invokevirtual 236, 3) := by decide +kernel
theorem dX10_findsNearest_38 : decode cX10_findsNearest 38 = .ok (.goto 10, 3) := by decide +kernel
theorem dX10_findsNearest_41 : decode cX10_findsNearest 41 = .ok (.lload 5, 2) := by decide +kernel
theorem dX10_findsNearest_43 : decode cX10_findsNearest 43 = .ok (.aload_n 0, 1) := by decide +kernel
theorem dX10_findsNearest_44 : decode cX10_findsNearest 44 = .ok (.invokevirtual 240, 3) := by decide +kernel
theorem dX10_findsNearest_47 : decode cX10_findsNearest 47 = .ok (.lmul, 1) := by decide +kernel
theorem dX10_findsNearest_48 : decode cX10_findsNearest 48 = .ok (.lstore 7, 2) := by decide +kernel
theorem dX10_findsNearest_50 : decode cX10_findsNearest 50 = .ok (.lload 5, 2) := by decide +kernel
theorem dX10_findsNearest_52 : decode cX10_findsNearest 52 = .ok (.lconst 0, 1) := by decide +kernel
theorem dX10_findsNearest_53 : decode cX10_findsNearest 53 = .ok (.lcmp, 1) := by decide +kernel
theorem dX10_findsNearest_54 : decode cX10_findsNearest 54 = .ok (.ifCond .ne 10, 3) := by decide +kernel
theorem dX10_findsNearest_57 : decode cX10_findsNearest 57 = .ok (.aload_n 0, 1) := by decide +kernel
theorem dX10_findsNearest_58 : decode cX10_findsNearest 58 = .ok (.invokevirtual 240, 3) := by decide +kernel
theorem dX10_findsNearest_61 : decode cX10_findsNearest 61 = .ok (.goto 7, 3) := by decide +kernel
theorem dX10_findsNearest_64 : decode cX10_findsNearest 64 = .ok (.aload_n 0, 1) := by decide +kernel
theorem dX10_findsNearest_65 : decode cX10_findsNearest 65 = .ok (.invokevirtual 236, 3) := by decide +kernel
theorem dX10_findsNearest_68 : decode cX10_findsNearest 68 = .ok (.lstore 9, 2) := by decide +kernel
theorem dX10_findsNearest_70 : decode cX10_findsNearest 70 = .ok (.lload 7, 2) := by decide +kernel
theorem dX10_findsNearest_72 : decode cX10_findsNearest 72 = .ok (.lload 9, 2) := by decide +kernel
theorem dX10_findsNearest_74 : decode cX10_findsNearest 74 = .ok (.invokestatic 14, 3) := by decide +kernel
theorem dX10_findsNearest_77 : decode cX10_findsNearest 77 = .ok (.lstore 11, 2) := by decide +kernel
theorem dX10_findsNearest_79 : decode cX10_findsNearest 79 = .ok (.aload_n 0, 1) := by decide +kernel
theorem dX10_findsNearest_80 : decode cX10_findsNearest 80 = .ok (.lload 7, 2) := by decide +kernel
theorem dX10_findsNearest_82 : decode cX10_findsNearest 82 = .ok (.lload 11, 2) := by decide +kernel
theorem dX10_findsNearest_84 : decode cX10_findsNearest 84 = .ok (.ldiv, 1) := by decide +kernel
theorem dX10_findsNearest_85 : decode cX10_findsNearest 85 = .ok (.lload 9, 2) := by decide +kernel
theorem dX10_findsNearest_87 : decode cX10_findsNearest 87 = .ok (.lload 11, 2) := by decide +kernel
theorem dX10_findsNearest_89 : decode cX10_findsNearest 89 = .ok (.ldiv, 1) := by decide +kernel
theorem dX10_findsNearest_90 : decode cX10_findsNearest 90 = .ok (.lload_n 1, 1) := by decide +kernel
theorem dX10_findsNearest_91 : decode cX10_findsNearest 91 = .ok (.lload_n 3, 1) := by decide +kernel
theorem dX10_findsNearest_92 : decode cX10_findsNearest 92 = .ok (.invokevirtual 288, 3) := by decide +kernel
theorem dX10_findsNearest_95 : decode cX10_findsNearest 95 = .ok (.ifCond .eq 7, 3) := by decide +kernel
theorem dX10_findsNearest_98 : decode cX10_findsNearest 98 = .ok (.aload_n 0, 1) := by decide +kernel
theorem dX10_findsNearest_99 : decode cX10_findsNearest 99 = .ok (.invokevirtual 243, 3) := by decide +kernel
theorem dX10_findsNearest_102 : decode cX10_findsNearest 102 = .ok (.goto (-82), 3) := by decide +kernel
theorem dX10_findsNearest_105 : decode cX10_findsNearest 105 = .ok (.iconst 1, 1) := by decide +kernel
theorem dX10_findsNearest_106 : decode cX10_findsNearest 106 = .ok (.ireturn, 1) := by decide +kernel
set_option maxRecDepth 20000 in
set_option maxHeartbeats 2000000 in
theorem V_X10_findsNearest_0 {X : Ctx} (C : C_X10_findsNearest X) {k n : Nat} {Q : Pq} {h : Hp} {v0 : Nat} {v1 v3 v5 : Int64}
    (hv : St10 h v0 ∧ ((2 ≤ (gi h (v0 + 3) (ix 4)) → Wj X k n Q 20 [(0, .ref v0), (1, .long v1), (3, .long v3), (5, .long v5)] [] (si (sl h v0 24 0) v0 18 0)) ∧
    (¬ 2 ≤ (gi h (v0 + 3) (ix 4)) → Q (some (.int 0)) (sl h v0 24 0)))) :
    Wj X k n Q 0 [(0, .ref v0), (1, .long v1), (3, .long v3), (5, .long v5)] [] h := by
  refine w_aload_n (pc := 0) C dX10_findsNearest_0 rfl ?_
  refine w_lconst (pc := 1) C (v := 0) dX10_findsNearest_1 (by decide) ?_
  obtain ⟨f1, hv⟩ := hv
  refine w_putL (pc := 2) C fl_X10_271 rfl rfl dX10_findsNearest_2 (St10_k f1) ?_
  refine w_aload_n (pc := 5) C dX10_findsNearest_5 rfl ?_
  refine w_cV0_0 (pc := 6) C cl_X10_162 lv_X10_gearMany (by decide) dX10_findsNearest_6 (Nat.le_of_ble_eq_true rfl) (c := 10) rfl (St10_k f1) ((sf_X10_gearMany (h := (sl h v0 24 0)) f1).mono (fun v h9 hp => ?_))
  obtain ⟨e1, e2⟩ := hp
  rw [e1, e2]
  refine w_iconst (pc := 9) C (v := 2) dX10_findsNearest_9 (by decide) ?_
  refine w_icmp_ge (pc := 10) C (tgt := 15) dX10_findsNearest_10 (by decide) ?_
  obtain ⟨hv1, hv2⟩ := hv
  refine ⟨fun c2 => ?_, fun c2 => ?_⟩
  · have hv := hv1 c2
    refine w_aload_n (pc := 15) C dX10_findsNearest_15 rfl ?_
    refine w_iconst (pc := 16) C (v := 0) dX10_findsNearest_16 (by decide) ?_
    refine w_putI (pc := 17) C fl_X10_217 rfl rfl dX10_findsNearest_17 (St10_k f1) ?_
    refine w_sub ?_ hv
    exact ⟨rfl, rfl, rfl, rfl, trivial⟩
  · have hv := hv2 c2
    refine w_iconst (pc := 13) C (v := 0) dX10_findsNearest_13 (by decide) ?_
    exact w_zret (pc := 14) C dX10_findsNearest_14 (by decide) hv
set_option maxRecDepth 20000 in
set_option maxHeartbeats 2000000 in
theorem V_X10_findsNearest_20 {X : Ctx} (C : C_X10_findsNearest X) {k n : Nat} {Q : Pq} {h : Hp} {v0 : Nat} {v1 v3 v5 : Int64}
    (hv : St10 h v0 ∧ S_X10_nextTrain (lX X) (dtX X) 0 0 [.ref v0] h (QI fun x3 h2 =>
    ((x3 = 0 → Q (some (.int 1)) h2) ∧
    (¬ x3 = 0 → ((¬ v5 = 0 → St10 h2 v0 ∧ inb (41 + gi h2 (v0 + 7) (ix 1)) 732 ∧ (gi h2 v0 18 = 4 → inb (41 + gi h2 (v0 + 7) (ix 3)) 732) ∧ Wj X k n Q 48 [(0, .ref v0), (1, .long v1), (3, .long v3), (5, .long v5)] [.long (v5 * (mLw h2 v0))] h2) ∧
    (v5 = 0 → St10 h2 v0 ∧ inb (41 + gi h2 (v0 + 7) (ix 0)) 732 ∧ (gi h2 v0 18 = 4 → inb (41 + gi h2 (v0 + 7) (ix 2)) 732) ∧ Wj X k n Q 48 [(0, .ref v0), (1, .long v1), (3, .long v3), (5, .long v5)] [.long (mUp h2 v0)] h2)))))) :
    Wj X k n Q 20 [(0, .ref v0), (1, .long v1), (3, .long v3), (5, .long v5)] [] h := by
  refine w_aload_n (pc := 20) C dX10_findsNearest_20 rfl ?_
  obtain ⟨f1, hv⟩ := hv
  refine w_cV0_0 (pc := 21) C cl_X10_233 lv_X10_nextTrain (by decide) dX10_findsNearest_21 (Nat.le_of_ble_eq_true rfl) (c := 10) rfl (St10_k f1) (hv.mono (fun v h2 hp => ?_))
  obtain ⟨x3, rfl, hv⟩ := hp
  refine w_if_eq (pc := 24) C (tgt := 105) dX10_findsNearest_24 (by decide) ?_
  obtain ⟨hv1, hv2⟩ := hv
  refine ⟨fun c11 => ?_, fun c11 => ?_⟩
  · have hv := hv1 c11
    refine w_iconst (pc := 105) C (v := 1) dX10_findsNearest_105 (by decide) ?_
    exact w_zret (pc := 106) C dX10_findsNearest_106 (by decide) hv
  · have hv := hv2 c11
    refine w_lload (pc := 27) C dX10_findsNearest_27 rfl ?_
    refine w_lconst (pc := 29) C (v := 0) dX10_findsNearest_29 (by decide) ?_
    refine w_lcmp_ne (pc := 30) C (tgt := 41) dX10_findsNearest_30 dX10_findsNearest_31 (by decide) ?_
    obtain ⟨hv1, hv2⟩ := hv
    refine ⟨fun c10 => ?_, fun c10 => ?_⟩
    · have hv := hv1 c10
      refine w_lload (pc := 41) C dX10_findsNearest_41 rfl ?_
      refine w_aload_n (pc := 43) C dX10_findsNearest_43 rfl ?_
      obtain ⟨f4, hv⟩ := hv
      obtain ⟨f5, hv⟩ := hv
      obtain ⟨f6, hv⟩ := hv
      refine w_cV0_0 (pc := 44) C cl_X10_240 lv_X10_lower (by decide) dX10_findsNearest_44 (Nat.le_of_ble_eq_true rfl) (c := 10) rfl (St10_k f4) ((sf_X10_lower (h := h2) f4 f5 f6).mono (fun v h9 hp => ?_))
      obtain ⟨e1, e2⟩ := hp
      rw [e1, e2]
      refine w_lmul (pc := 47) C dX10_findsNearest_47 ?_
      refine w_sub ?_ hv
      exact ⟨rfl, rfl, rfl, rfl, trivial⟩
    · have hv := hv2 c10
      refine w_aload_n (pc := 34) C dX10_findsNearest_34 rfl ?_
      obtain ⟨f7, hv⟩ := hv
      obtain ⟨f8, hv⟩ := hv
      obtain ⟨f9, hv⟩ := hv
      refine w_cV0_0 (pc := 35) C cl_X10_236 lv_X10_upper (by decide) dX10_findsNearest_35 (Nat.le_of_ble_eq_true rfl) (c := 10) rfl (St10_k f7) ((sf_X10_upper (h := h2) f7 f8 f9).mono (fun v h9 hp => ?_))
      obtain ⟨e1, e2⟩ := hp
      rw [e1, e2]
      refine w_goto (pc := 38) C (tgt := 48) dX10_findsNearest_38 (by decide) ?_
      refine w_sub ?_ hv
      exact ⟨rfl, rfl, rfl, rfl, trivial⟩
set_option maxRecDepth 20000 in
set_option maxHeartbeats 2000000 in
theorem V_X10_findsNearest_48 {X : Ctx} (C : C_X10_findsNearest X) {k n : Nat} {Q : Pq} {h : Hp} {v0 : Nat} {v1 v3 v5 s0 : Int64}
    (hv : ((¬ v5 = 0 → St10 h v0 ∧ inb (41 + gi h (v0 + 7) (ix 0)) 732 ∧ (gi h v0 18 = 4 → inb (41 + gi h (v0 + 7) (ix 2)) 732) ∧ Wj X k n Q 68 [(0, .ref v0), (1, .long v1), (3, .long v3), (5, .long v5), (7, .long s0)] [.long (mUp h v0)] h) ∧
    (v5 = 0 → St10 h v0 ∧ inb (41 + gi h (v0 + 7) (ix 1)) 732 ∧ (gi h v0 18 = 4 → inb (41 + gi h (v0 + 7) (ix 3)) 732) ∧ Wj X k n Q 68 [(0, .ref v0), (1, .long v1), (3, .long v3), (5, .long v5), (7, .long s0)] [.long (mLw h v0)] h))) :
    Wj X k n Q 48 [(0, .ref v0), (1, .long v1), (3, .long v3), (5, .long v5)] [.long s0] h := by
  refine w_lstore (pc := 48) C dX10_findsNearest_48 (by decide) ?_
  refine w_lload (pc := 50) C dX10_findsNearest_50 rfl ?_
  refine w_lconst (pc := 52) C (v := 0) dX10_findsNearest_52 (by decide) ?_
  refine w_lcmp_ne (pc := 53) C (tgt := 64) dX10_findsNearest_53 dX10_findsNearest_54 (by decide) ?_
  obtain ⟨hv1, hv2⟩ := hv
  refine ⟨fun c7 => ?_, fun c7 => ?_⟩
  · have hv := hv1 c7
    refine w_aload_n (pc := 64) C dX10_findsNearest_64 rfl ?_
    obtain ⟨f1, hv⟩ := hv
    obtain ⟨f2, hv⟩ := hv
    obtain ⟨f3, hv⟩ := hv
    refine w_cV0_0 (pc := 65) C cl_X10_236 lv_X10_upper (by decide) dX10_findsNearest_65 (Nat.le_of_ble_eq_true rfl) (c := 10) rfl (St10_k f1) ((sf_X10_upper (h := h) f1 f2 f3).mono (fun v h9 hp => ?_))
    obtain ⟨e1, e2⟩ := hp
    rw [e1, e2]
    refine w_sub ?_ hv
    exact ⟨rfl, rfl, rfl, rfl, rfl, trivial⟩
  · have hv := hv2 c7
    refine w_aload_n (pc := 57) C dX10_findsNearest_57 rfl ?_
    obtain ⟨f4, hv⟩ := hv
    obtain ⟨f5, hv⟩ := hv
    obtain ⟨f6, hv⟩ := hv
    refine w_cV0_0 (pc := 58) C cl_X10_240 lv_X10_lower (by decide) dX10_findsNearest_58 (Nat.le_of_ble_eq_true rfl) (c := 10) rfl (St10_k f4) ((sf_X10_lower (h := h) f4 f5 f6).mono (fun v h9 hp => ?_))
    obtain ⟨e1, e2⟩ := hp
    rw [e1, e2]
    refine w_goto (pc := 61) C (tgt := 68) dX10_findsNearest_61 (by decide) ?_
    refine w_sub ?_ hv
    exact ⟨rfl, rfl, rfl, rfl, rfl, trivial⟩
set_option maxRecDepth 20000 in
set_option maxHeartbeats 2000000 in
theorem V_X10_findsNearest_68 {X : Ctx} (C : C_X10_findsNearest X) {k n : Nat} {Q : Pq} {h : Hp} {v0 : Nat} {v1 v3 v5 v7 s0 : Int64}
    (hv : -9223372036854775807 ≤ (Int64.toInt v7) ∧ 0 < (Int64.toInt s0) ∧ ¬ (cm v7 s0) = 0 ∧ St10 h v0 ∧ S_X10_isNearer (lX X) (dtX X) 0 0 [.ref v0, .long (v7 / (cm v7 s0)), .long (s0 / (cm v7 s0)), .long v1, .long v3] h (QI fun x6 h5 =>
    ((x6 = 0 → Wj X k n Q 20 [(0, .ref v0), (1, .long v1), (3, .long v3), (5, .long v5)] [] h5) ∧
    (¬ x6 = 0 → St10 h5 v0 ∧ S_X10_finds (lX X) (dtX X) 0 0 [.ref v0] h5 (QV fun h8 =>
    Wj X k n Q 20 [(0, .ref v0), (1, .long v1), (3, .long v3), (5, .long v5)] [] h8))))) :
    Wj X k n Q 68 [(0, .ref v0), (1, .long v1), (3, .long v3), (5, .long v5), (7, .long v7)] [.long s0] h := by
  refine w_lstore (pc := 68) C dX10_findsNearest_68 (by decide) ?_
  refine w_lload (pc := 70) C dX10_findsNearest_70 rfl ?_
  refine w_lload (pc := 72) C dX10_findsNearest_72 rfl ?_
  obtain ⟨f1, hv⟩ := hv
  obtain ⟨f2, hv⟩ := hv
  refine w_cS0_2 (pc := 74) C cl_X10_14 ls_X10_common (by decide) dX10_findsNearest_74 (Nat.le_of_ble_eq_true rfl) ((sf_X10_common (h := h) f1 f2).mono (fun v h9 hp => ?_))
  obtain ⟨e1, e2⟩ := hp
  rw [e1, e2]
  refine w_lstore (pc := 77) C dX10_findsNearest_77 (by decide) ?_
  refine w_aload_n (pc := 79) C dX10_findsNearest_79 rfl ?_
  refine w_lload (pc := 80) C dX10_findsNearest_80 rfl ?_
  refine w_lload (pc := 82) C dX10_findsNearest_82 rfl ?_
  obtain ⟨f3, hv⟩ := hv
  refine w_ldiv (pc := 84) C dX10_findsNearest_84 f3 ?_
  refine w_lload (pc := 85) C dX10_findsNearest_85 rfl ?_
  refine w_lload (pc := 87) C dX10_findsNearest_87 rfl ?_
  refine w_ldiv (pc := 89) C dX10_findsNearest_89 f3 ?_
  refine w_lload_n (pc := 90) C dX10_findsNearest_90 rfl ?_
  refine w_lload_n (pc := 91) C dX10_findsNearest_91 rfl ?_
  obtain ⟨f4, hv⟩ := hv
  refine w_cV0_4 (pc := 92) C cl_X10_288 lv_X10_isNearer (by decide) dX10_findsNearest_92 (Nat.le_of_ble_eq_true rfl) (c := 10) rfl (St10_k f4) (hv.mono (fun v h5 hp => ?_))
  obtain ⟨x6, rfl, hv⟩ := hp
  refine w_if_eq (pc := 95) C (tgt := 102) dX10_findsNearest_95 (by decide) ?_
  obtain ⟨hv1, hv2⟩ := hv
  refine ⟨fun c9 => ?_, fun c9 => ?_⟩
  · have hv := hv1 c9
    refine w_goto (pc := 102) C (tgt := 20) dX10_findsNearest_102 (by decide) ?_
    refine w_sub ?_ hv
    exact ⟨rfl, rfl, rfl, rfl, trivial⟩
  · have hv := hv2 c9
    refine w_aload_n (pc := 98) C dX10_findsNearest_98 rfl ?_
    obtain ⟨f7, hv⟩ := hv
    refine w_cV0_0 (pc := 99) C cl_X10_243 lv_X10_finds (by decide) dX10_findsNearest_99 (Nat.le_of_ble_eq_true rfl) (c := 10) rfl (St10_k f7) (hv.mono (fun v h8 hp => ?_))
    obtain ⟨rfl, hv⟩ := hp
    refine w_goto (pc := 102) C (tgt := 20) dX10_findsNearest_102 (by decide) ?_
    refine w_sub ?_ hv
    exact ⟨rfl, rfl, rfl, rfl, trivial⟩
theorem dX10_nearest_0 : decode cX10_nearest 0 = .ok (.aload_n 0, 1) := by decide +kernel
theorem dX10_nearest_1 : decode cX10_nearest 1 = .ok (.iconst 0, 1) := by decide +kernel
theorem dX10_nearest_2 : decode cX10_nearest 2 = .ok (.putfield 1, 3) := by decide +kernel
theorem dX10_nearest_5 : decode cX10_nearest 5 = .ok (.iload_n 1, 1) := by decide +kernel
theorem dX10_nearest_6 : decode cX10_nearest 6 = .ok (.iload_n 2, 1) := by decide +kernel
theorem dX10_nearest_7 : decode cX10_nearest 7 = .ok (.invokestatic 265, 3) := by decide +kernel
theorem dX10_nearest_10 : decode cX10_nearest 10 = .ok (.ifCond .ne 5, 3) := by decide +kernel
theorem dX10_nearest_13 : decode cX10_nearest 13 = .ok (.iconst (-1), 1) := by decide +kernel
theorem dX10_nearest_14 : decode cX10_nearest 14 = .ok (.ireturn, 1) := by decide +kernel
theorem dX10_nearest_15 : decode cX10_nearest 15 = .ok (.aload_n 0, 1) := by decide +kernel
theorem dX10_nearest_16 : decode cX10_nearest 16 = .ok (.iload_n 1, 1) := by decide +kernel
theorem dX10_nearest_17 : decode cX10_nearest 17 = .ok (.i2l, 1) := by decide +kernel
theorem dX10_nearest_18 : decode cX10_nearest 18 = .ok (.iload_n 2, 1) := by decide +kernel
theorem dX10_nearest_19 : decode cX10_nearest 19 = .ok (.i2l, 1) := by decide +kernel
theorem dX10_nearest_20 : decode cX10_nearest 20 = .ok (.lconst 0, 1) := by decide +kernel
theorem dX10_nearest_21 : decode cX10_nearest 21 = .ok (.invokevirtual 292, 3) := by decide +kernel
theorem dX10_nearest_24 : decode cX10_nearest 24 = .ok (.ifCond .ne 6, 3) := by decide +kernel
theorem dX10_nearest_27 : decode cX10_nearest 27 = .ok (.bipush (-2), 2) := by decide +kernel
theorem dX10_nearest_29 : decode cX10_nearest 29 = .ok (.ireturn, 1) := by decide +kernel
theorem dX10_nearest_30 : decode cX10_nearest 30 = .ok (.aload_n 0, 1) := by decide +kernel
theorem dX10_nearest_31 : decode cX10_nearest 31 = .ok (.iconst 0, 1) := by decide +kernel
theorem dX10_nearest_32 : decode cX10_nearest 32 = .ok (.putfield 11, 3) := by decide +kernel
theorem dX10_nearest_35 : decode cX10_nearest 35 = .ok (.aload_n 0, 1) := by decide +kernel
theorem dX10_nearest_36 : decode cX10_nearest 36 = .ok (.invokevirtual 268, 3) := by decide +kernel
theorem dX10_nearest_39 : decode cX10_nearest 39 = .ok (.aload_n 0, 1) := by decide +kernel
theorem dX10_nearest_40 : decode cX10_nearest 40 = .ok (.invokevirtual 295, 3) := by decide +kernel
theorem dX10_nearest_43 : decode cX10_nearest 43 = .ok (.aload_n 0, 1) := by decide +kernel
theorem dX10_nearest_44 : decode cX10_nearest 44 = .ok (.getfield 230, 3) := by decide +kernel
theorem dX10_nearest_47 : decode cX10_nearest 47 = .ok (.ireturn, 1) := by decide +kernel
set_option maxRecDepth 20000 in
set_option maxHeartbeats 2000000 in
theorem V_X10_nearest_0 {X : Ctx} (C : C_X10_nearest X) {k n : Nat} {Q : Pq} {h : Hp} {v0 : Nat} {v1 v2 : Int32}
    (hv : St10 h v0 ∧ ((¬ (iRt v1 v2) = 0 → S_X10_findsNearest (lX X) (dtX X) 0 0 [.ref v0, .long (Int32.toInt64 v1), .long (Int32.toInt64 v2), .long 0] (si h v0 0 0) (QI fun x3 h2 =>
    ((¬ x3 = 0 → St10 h2 v0 ∧ S_X10_entersFound (lX X) (dtX X) 0 0 [.ref v0] (si h2 v0 1 0) (QV fun h5 =>
    St10 h5 v0 ∧ S_X10_entersNear (lX X) (dtX X) 0 0 [.ref v0] h5 (QV fun h7 =>
    St10 h7 v0 ∧ Q (some (.int (gi h7 v0 20))) h7))) ∧
    (x3 = 0 → Q (some (.int (-2))) h2)))) ∧
    ((iRt v1 v2) = 0 → Q (some (.int (-1))) (si h v0 0 0)))) :
    Wj X k n Q 0 [(0, .ref v0), (1, .int v1), (2, .int v2)] [] h := by
  refine w_aload_n (pc := 0) C dX10_nearest_0 rfl ?_
  refine w_iconst (pc := 1) C (v := 0) dX10_nearest_1 (by decide) ?_
  obtain ⟨f1, hv⟩ := hv
  refine w_putI (pc := 2) C fl_X10_1 rfl rfl dX10_nearest_2 (St10_k f1) ?_
  refine w_iload_n (pc := 5) C dX10_nearest_5 rfl ?_
  refine w_iload_n (pc := 6) C dX10_nearest_6 rfl ?_
  refine w_cS0_2 (pc := 7) C cl_X10_265 ls_X10_isRatio (by decide) dX10_nearest_7 (Nat.le_of_ble_eq_true rfl) ((sf_X10_isRatio (h := (si h v0 0 0)) ).mono (fun v h9 hp => ?_))
  obtain ⟨e1, e2⟩ := hp
  rw [e1, e2]
  refine w_if_ne (pc := 10) C (tgt := 15) dX10_nearest_10 (by decide) ?_
  obtain ⟨hv1, hv2⟩ := hv
  refine ⟨fun c10 => ?_, fun c10 => ?_⟩
  · have hv := hv1 c10
    refine w_aload_n (pc := 15) C dX10_nearest_15 rfl ?_
    refine w_iload_n (pc := 16) C dX10_nearest_16 rfl ?_
    refine w_i2l (pc := 17) C dX10_nearest_17 ?_
    refine w_iload_n (pc := 18) C dX10_nearest_18 rfl ?_
    refine w_i2l (pc := 19) C dX10_nearest_19 ?_
    refine w_lconst (pc := 20) C (v := 0) dX10_nearest_20 (by decide) ?_
    refine w_cV0_3 (pc := 21) C cl_X10_292 lv_X10_findsNearest (by decide) dX10_nearest_21 (Nat.le_of_ble_eq_true rfl) (c := 10) rfl (St10_k f1) (hv.mono (fun v h2 hp => ?_))
    obtain ⟨x3, rfl, hv⟩ := hp
    refine w_if_ne (pc := 24) C (tgt := 30) dX10_nearest_24 (by decide) ?_
    obtain ⟨hv1, hv2⟩ := hv
    refine ⟨fun c9 => ?_, fun c9 => ?_⟩
    · have hv := hv1 c9
      refine w_aload_n (pc := 30) C dX10_nearest_30 rfl ?_
      refine w_iconst (pc := 31) C (v := 0) dX10_nearest_31 (by decide) ?_
      obtain ⟨f4, hv⟩ := hv
      refine w_putI (pc := 32) C fl_X10_11 rfl rfl dX10_nearest_32 (St10_k f4) ?_
      refine w_aload_n (pc := 35) C dX10_nearest_35 rfl ?_
      refine w_cV0_0 (pc := 36) C cl_X10_268 lv_X10_entersFound (by decide) dX10_nearest_36 (Nat.le_of_ble_eq_true rfl) (c := 10) rfl (St10_k f4) (hv.mono (fun v h5 hp => ?_))
      obtain ⟨rfl, hv⟩ := hp
      refine w_aload_n (pc := 39) C dX10_nearest_39 rfl ?_
      obtain ⟨f6, hv⟩ := hv
      refine w_cV0_0 (pc := 40) C cl_X10_295 lv_X10_entersNear (by decide) dX10_nearest_40 (Nat.le_of_ble_eq_true rfl) (c := 10) rfl (St10_k f6) (hv.mono (fun v h7 hp => ?_))
      obtain ⟨rfl, hv⟩ := hp
      refine w_aload_n (pc := 43) C dX10_nearest_43 rfl ?_
      obtain ⟨f8, hv⟩ := hv
      refine w_getI (pc := 44) C fl_X10_230 rfl dX10_nearest_44 (St10_k f8) ?_
      exact w_iret (pc := 47) C dX10_nearest_47 hv
    · have hv := hv2 c9
      refine w_bipush (pc := 27) C (v := (-2)) dX10_nearest_27 (by decide) ?_
      exact w_iret (pc := 29) C dX10_nearest_29 hv
  · have hv := hv2 c10
    refine w_iconst (pc := 13) C (v := (-1)) dX10_nearest_13 (by decide) ?_
    exact w_iret (pc := 14) C dX10_nearest_14 hv
theorem dX10_lead_0 : decode cX10_lead 0 = .ok (.aload_n 0, 1) := by decide +kernel
theorem dX10_lead_1 : decode cX10_lead 1 = .ok (.iconst 0, 1) := by decide +kernel
theorem dX10_lead_2 : decode cX10_lead 2 = .ok (.putfield 1, 3) := by decide +kernel
theorem dX10_lead_5 : decode cX10_lead 5 = .ok (.iload_n 1, 1) := by decide +kernel
theorem dX10_lead_6 : decode cX10_lead 6 = .ok (.i2l, 1) := by decide +kernel
theorem dX10_lead_7 : decode cX10_lead 7 = .ok (.lconst 1, 1) := by decide +kernel
theorem dX10_lead_8 : decode cX10_lead 8 = .ok (.ldc2_w 298, 3) := by decide +kernel
theorem dX10_lead_11 : decode cX10_lead 11 = .ok (.invokestatic 29, 3) := by decide +kernel
theorem dX10_lead_14 : decode cX10_lead 14 = .ok (.ifCond .ne 5, 3) := by decide +kernel
theorem dX10_lead_17 : decode cX10_lead 17 = .ok (.iconst (-1), 1) := by decide +kernel
theorem dX10_lead_18 : decode cX10_lead 18 = .ok (.ireturn, 1) := by decide +kernel
theorem dX10_lead_19 : decode cX10_lead 19 = .ok (.aload_n 0, 1) := by decide +kernel
theorem dX10_lead_20 : decode cX10_lead 20 = .ok (.iload_n 1, 1) := by decide +kernel
theorem dX10_lead_21 : decode cX10_lead 21 = .ok (.i2l, 1) := by decide +kernel
theorem dX10_lead_22 : decode cX10_lead 22 = .ok (.lconst 1, 1) := by decide +kernel
theorem dX10_lead_23 : decode cX10_lead 23 = .ok (.aload_n 0, 1) := by decide +kernel
theorem dX10_lead_24 : decode cX10_lead 24 = .ok (.invokevirtual 168, 3) := by decide +kernel
theorem dX10_lead_27 : decode cX10_lead 27 = .ok (.i2l, 1) := by decide +kernel
theorem dX10_lead_28 : decode cX10_lead 28 = .ok (.aload_n 0, 1) := by decide +kernel
theorem dX10_lead_29 : decode cX10_lead 29 = .ok (.getfield 68, 3) := by decide +kernel
theorem dX10_lead_32 : decode cX10_lead 32 = .ok (.iconst 1, 1) := by decide +kernel
theorem dX10_lead_33 : decode cX10_lead 33 = .ok (.iaload, 1) := by decide +kernel
theorem dX10_lead_34 : decode cX10_lead 34 = .ok (.i2l, 1) := by decide +kernel
theorem dX10_lead_35 : decode cX10_lead 35 = .ok (.lmul, 1) := by decide +kernel
theorem dX10_lead_36 : decode cX10_lead 36 = .ok (.invokevirtual 292, 3) := by decide +kernel
theorem dX10_lead_39 : decode cX10_lead 39 = .ok (.ifCond .ne 6, 3) := by decide +kernel
theorem dX10_lead_42 : decode cX10_lead 42 = .ok (.bipush (-2), 2) := by decide +kernel
theorem dX10_lead_44 : decode cX10_lead 44 = .ok (.ireturn, 1) := by decide +kernel
theorem dX10_lead_45 : decode cX10_lead 45 = .ok (.aload_n 0, 1) := by decide +kernel
theorem dX10_lead_46 : decode cX10_lead 46 = .ok (.iconst 0, 1) := by decide +kernel
theorem dX10_lead_47 : decode cX10_lead 47 = .ok (.putfield 11, 3) := by decide +kernel
theorem dX10_lead_50 : decode cX10_lead 50 = .ok (.aload_n 0, 1) := by decide +kernel
theorem dX10_lead_51 : decode cX10_lead 51 = .ok (.invokevirtual 268, 3) := by decide +kernel
theorem dX10_lead_54 : decode cX10_lead 54 = .ok (.aload_n 0, 1) := by decide +kernel
theorem dX10_lead_55 : decode cX10_lead 55 = .ok (.invokevirtual 295, 3) := by decide +kernel
theorem dX10_lead_58 : decode cX10_lead 58 = .ok (.aload_n 0, 1) := by decide +kernel
theorem dX10_lead_59 : decode cX10_lead 59 = .ok (.getfield 230, 3) := by decide +kernel
theorem dX10_lead_62 : decode cX10_lead 62 = .ok (.ireturn, 1) := by decide +kernel
set_option maxRecDepth 20000 in
set_option maxHeartbeats 2000000 in
theorem V_X10_lead_0 {X : Ctx} (C : C_X10_lead X) {k n : Nat} {Q : Pq} {h : Hp} {v0 : Nat} {v1 : Int32}
    (hv : St10 h v0 ∧ ((¬ (btL (Int32.toInt64 v1) 1 20000) = 0 → S_X10_findsNearest (lX X) (dtX X) 0 0 [.ref v0, .long (Int32.toInt64 v1), .long 1, .long ((Int32.toInt64 (gi (si h v0 0 0) (v0 + 3) (ix 0))) * (Int32.toInt64 (gi (si h v0 0 0) (v0 + 3) (ix 1))))] (si h v0 0 0) (QI fun x3 h2 =>
    ((¬ x3 = 0 → St10 h2 v0 ∧ S_X10_entersFound (lX X) (dtX X) 0 0 [.ref v0] (si h2 v0 1 0) (QV fun h5 =>
    St10 h5 v0 ∧ S_X10_entersNear (lX X) (dtX X) 0 0 [.ref v0] h5 (QV fun h7 =>
    St10 h7 v0 ∧ Q (some (.int (gi h7 v0 20))) h7))) ∧
    (x3 = 0 → Q (some (.int (-2))) h2)))) ∧
    ((btL (Int32.toInt64 v1) 1 20000) = 0 → Q (some (.int (-1))) (si h v0 0 0)))) :
    Wj X k n Q 0 [(0, .ref v0), (1, .int v1)] [] h := by
  refine w_aload_n (pc := 0) C dX10_lead_0 rfl ?_
  refine w_iconst (pc := 1) C (v := 0) dX10_lead_1 (by decide) ?_
  obtain ⟨f1, hv⟩ := hv
  refine w_putI (pc := 2) C fl_X10_1 rfl rfl dX10_lead_2 (St10_k f1) ?_
  refine w_iload_n (pc := 5) C dX10_lead_5 rfl ?_
  refine w_i2l (pc := 6) C dX10_lead_6 ?_
  refine w_lconst (pc := 7) C (v := 1) dX10_lead_7 (by decide) ?_
  refine w_ldc2 (pc := 8) C ctl_X10_298 dX10_lead_8 ?_
  refine w_cS0_3 (pc := 11) C cl_X10_29 ls_X10_in (by decide) dX10_lead_11 (Nat.le_of_ble_eq_true rfl) ((sf_X10_in (h := (si h v0 0 0)) ).mono (fun v h9 hp => ?_))
  obtain ⟨e1, e2⟩ := hp
  rw [e1, e2]
  refine w_if_ne (pc := 14) C (tgt := 19) dX10_lead_14 (by decide) ?_
  obtain ⟨hv1, hv2⟩ := hv
  refine ⟨fun c10 => ?_, fun c10 => ?_⟩
  · have hv := hv1 c10
    refine w_aload_n (pc := 19) C dX10_lead_19 rfl ?_
    refine w_iload_n (pc := 20) C dX10_lead_20 rfl ?_
    refine w_i2l (pc := 21) C dX10_lead_21 ?_
    refine w_lconst (pc := 22) C (v := 1) dX10_lead_22 (by decide) ?_
    refine w_aload_n (pc := 23) C dX10_lead_23 rfl ?_
    refine w_cV0_0 (pc := 24) C cl_X10_168 lv_X10_worm (by decide) dX10_lead_24 (Nat.le_of_ble_eq_true rfl) (c := 10) rfl (St10_k f1) ((sf_X10_worm (h := (si h v0 0 0)) f1).mono (fun v h9 hp => ?_))
    obtain ⟨e1, e2⟩ := hp
    rw [e1, e2]
    refine w_i2l (pc := 27) C dX10_lead_27 ?_
    refine w_aload_n (pc := 28) C dX10_lead_28 rfl ?_
    refine w_getR (pc := 29) C fl_X10_68 rfl dX10_lead_29 (St10_k f1) (St10_r7 f1) ?_
    refine w_iconst (pc := 32) C (v := 1) dX10_lead_32 (by decide) ?_
    refine w_iald (pc := 33) C dX10_lead_33 (St10_k7 f1) (inbl (St10_l7 f1) (inbd (by decide))) ?_
    refine w_i2l (pc := 34) C dX10_lead_34 ?_
    refine w_lmul (pc := 35) C dX10_lead_35 ?_
    refine w_cV0_3 (pc := 36) C cl_X10_292 lv_X10_findsNearest (by decide) dX10_lead_36 (Nat.le_of_ble_eq_true rfl) (c := 10) rfl (St10_k f1) (hv.mono (fun v h2 hp => ?_))
    obtain ⟨x3, rfl, hv⟩ := hp
    refine w_if_ne (pc := 39) C (tgt := 45) dX10_lead_39 (by decide) ?_
    obtain ⟨hv1, hv2⟩ := hv
    refine ⟨fun c9 => ?_, fun c9 => ?_⟩
    · have hv := hv1 c9
      refine w_aload_n (pc := 45) C dX10_lead_45 rfl ?_
      refine w_iconst (pc := 46) C (v := 0) dX10_lead_46 (by decide) ?_
      obtain ⟨f4, hv⟩ := hv
      refine w_putI (pc := 47) C fl_X10_11 rfl rfl dX10_lead_47 (St10_k f4) ?_
      refine w_aload_n (pc := 50) C dX10_lead_50 rfl ?_
      refine w_cV0_0 (pc := 51) C cl_X10_268 lv_X10_entersFound (by decide) dX10_lead_51 (Nat.le_of_ble_eq_true rfl) (c := 10) rfl (St10_k f4) (hv.mono (fun v h5 hp => ?_))
      obtain ⟨rfl, hv⟩ := hp
      refine w_aload_n (pc := 54) C dX10_lead_54 rfl ?_
      obtain ⟨f6, hv⟩ := hv
      refine w_cV0_0 (pc := 55) C cl_X10_295 lv_X10_entersNear (by decide) dX10_lead_55 (Nat.le_of_ble_eq_true rfl) (c := 10) rfl (St10_k f6) (hv.mono (fun v h7 hp => ?_))
      obtain ⟨rfl, hv⟩ := hp
      refine w_aload_n (pc := 58) C dX10_lead_58 rfl ?_
      obtain ⟨f8, hv⟩ := hv
      refine w_getI (pc := 59) C fl_X10_230 rfl dX10_lead_59 (St10_k f8) ?_
      exact w_iret (pc := 62) C dX10_lead_62 hv
    · have hv := hv2 c9
      refine w_bipush (pc := 42) C (v := (-2)) dX10_lead_42 (by decide) ?_
      exact w_iret (pc := 44) C dX10_lead_44 hv
  · have hv := hv2 c10
    refine w_iconst (pc := 17) C (v := (-1)) dX10_lead_17 (by decide) ?_
    exact w_iret (pc := 18) C dX10_lead_18 hv
