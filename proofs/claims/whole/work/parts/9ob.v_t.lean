-- texts; the first rows (by program: gen_parts.py)
set_option maxRecDepth 20000 in
set_option maxHeartbeats 2000000 in
theorem V_X10_takesOf_0 {X : Ctx} (C : C_X10_takesOf X) {k n : Nat} {Q : Pq} {h : Hp} {v0 v1 : Nat}
    (hv : Wj X k n Q 2 [(0, .ref v0), (1, .ref (txK (dtX X) v1)), (2, .int 0)] [] h) :
    Wj X k n Q 0 [(0, .ref v0), (1, .ref (txK (dtX X) v1))] [] h := by
  refine w_iconst (pc := 0) C (v := 0) dX10_takesOf_0 (by decide) ?_
  refine w_istore_n (pc := 1) C dX10_takesOf_1 (by decide) ?_
  refine w_sub ?_ hv
  exact ⟨rfl, rfl, rfl, trivial⟩
set_option maxRecDepth 20000 in
set_option maxHeartbeats 2000000 in
theorem V_X10_takesOf_2 {X : Ctx} (C : C_X10_takesOf X) {k n : Nat} {Q : Pq} {h : Hp} {v0 v1 : Nat} {v2 : Int32}
    (hv : v1 < 3 ∧ S_J0_length_8abf5 (lX X) (dtX X) 0 0 [.ref (txK (dtX X) v1)] h (QI fun x3 h2 =>
    ((x3 ≤ v2 → Q (some (.int (-1))) h2) ∧
    (¬ x3 ≤ v2 → St10 h2 v0 ∧ (((gi h2 v0 6) ≤ (gi h2 v0 5) → Q (some (.int (-1))) h2) ∧
    (¬ (gi h2 v0 6) ≤ (gi h2 v0 5) → v1 < 3 ∧ S_J0_charAt_5068e (lX X) (dtX X) 0 0 [.ref (txK (dtX X) v1), .int v2] h2 (QI fun x7 h6 =>
    St10 h6 v0 ∧ inb (gi h6 v0 5) 80 ∧ ((¬ x7 = (gi h6 (v0 + 2) (ix (gi h6 v0 5))) → Wj X k n Q 2 [(0, .ref v0), (1, .ref (txK (dtX X) v1)), (2, .int (v2 + Int32.ofInt 1))] [] h6) ∧
    (x7 = (gi h6 (v0 + 2) (ix (gi h6 v0 5))) → Q (some (.int v2)) (si h6 v0 5 ((gi h6 v0 5) + 1))))))))))) :
    Wj X k n Q 2 [(0, .ref v0), (1, .ref (txK (dtX X) v1)), (2, .int v2)] [] h := by
  refine w_iload_n (pc := 2) C dX10_takesOf_2 rfl ?_
  refine w_aload_n (pc := 3) C dX10_takesOf_3 rfl ?_
  obtain ⟨f1, hv⟩ := hv
  refine w_callT (pc := 4) (As := []) f1 C cl_X10_43 lv_J0_length_8abf5 (by decide) dX10_takesOf_4 rfl rfl (Nat.le_of_ble_eq_true rfl) rfl (hv.mono (fun v h2 hp => ?_))
  obtain ⟨x3, rfl, hv⟩ := hp
  refine w_icmp_ge (pc := 7) C (tgt := 56) dX10_takesOf_7 (by decide) ?_
  obtain ⟨hv1, hv2⟩ := hv
  refine ⟨fun c12 => ?_, fun c12 => ?_⟩
  · have hv := hv1 c12
    refine w_iconst (pc := 56) C (v := (-1)) dX10_takesOf_56 (by decide) ?_
    exact w_iret (pc := 57) C dX10_takesOf_57 hv
  · have hv := hv2 c12
    refine w_aload_n (pc := 10) C dX10_takesOf_10 rfl ?_
    obtain ⟨f4, hv⟩ := hv
    refine w_getI (pc := 11) C fl_X10_36 rfl dX10_takesOf_11 (St10_k f4) ?_
    refine w_aload_n (pc := 14) C dX10_takesOf_14 rfl ?_
    refine w_getI (pc := 15) C fl_X10_33 rfl dX10_takesOf_15 (St10_k f4) ?_
    refine w_icmp_ge (pc := 18) C (tgt := 56) dX10_takesOf_18 (by decide) ?_
    obtain ⟨hv1, hv2⟩ := hv
    refine ⟨fun c11 => ?_, fun c11 => ?_⟩
    · have hv := hv1 c11
      refine w_iconst (pc := 56) C (v := (-1)) dX10_takesOf_56 (by decide) ?_
      exact w_iret (pc := 57) C dX10_takesOf_57 hv
    · have hv := hv2 c11
      refine w_aload_n (pc := 21) C dX10_takesOf_21 rfl ?_
      refine w_iload_n (pc := 22) C dX10_takesOf_22 rfl ?_
      obtain ⟨f5, hv⟩ := hv
      refine w_callT (pc := 23) (As := [.int v2]) f5 C cl_X10_49 lv_J0_charAt_5068e (by decide) dX10_takesOf_23 rfl rfl (Nat.le_of_ble_eq_true rfl) rfl (hv.mono (fun v h6 hp => ?_))
      obtain ⟨x7, rfl, hv⟩ := hp
      refine w_aload_n (pc := 26) C dX10_takesOf_26 rfl ?_
      obtain ⟨f8, hv⟩ := hv
      refine w_getR (pc := 27) C fl_X10_25 rfl dX10_takesOf_27 (St10_k f8) (St10_r3 f8) ?_
      refine w_aload_n (pc := 30) C dX10_takesOf_30 rfl ?_
      refine w_getI (pc := 31) C fl_X10_36 rfl dX10_takesOf_31 (St10_k f8) ?_
      obtain ⟨f9, hv⟩ := hv
      refine w_iald (pc := 34) C dX10_takesOf_34 (St10_k3 f8) (inbl (St10_l3 f8) f9) ?_
      refine w_icmp_ne (pc := 35) C (tgt := 50) dX10_takesOf_35 (by decide) ?_
      obtain ⟨hv1, hv2⟩ := hv
      refine ⟨fun c10 => ?_, fun c10 => ?_⟩
      · have hv := hv1 c10
        refine w_iinc (pc := 50) C dX10_takesOf_50 rfl (by decide) ?_
        refine w_goto (pc := 53) C (tgt := 2) dX10_takesOf_53 (by decide) ?_
        refine w_sub ?_ hv
        exact ⟨rfl, rfl, rfl, trivial⟩
      · have hv := hv2 c10
        refine w_aload_n (pc := 38) C dX10_takesOf_38 rfl ?_
        refine w_dup (pc := 39) C dX10_takesOf_39 rfl ?_
        refine w_getI (pc := 40) C fl_X10_36 rfl dX10_takesOf_40 (St10_k f8) ?_
        refine w_iconst (pc := 43) C (v := 1) dX10_takesOf_43 (by decide) ?_
        refine w_iadd (pc := 44) C dX10_takesOf_44 ?_
        refine w_putI (pc := 45) C fl_X10_36 rfl rfl dX10_takesOf_45 (St10_k f8) ?_
        refine w_iload_n (pc := 48) C dX10_takesOf_48 rfl ?_
        exact w_iret (pc := 49) C dX10_takesOf_49 hv
set_option maxRecDepth 20000 in
set_option maxHeartbeats 2000000 in
theorem V_X10_digit_0 {X : Ctx} (C : C_X10_digit X) {k n : Nat} {Q : Pq} {h : Hp} {v0 : Nat}
    (hv : St10 h v0 ∧ (∃ k3 n4, k + k3 ≤ mcX X ∧ n + n4 ≤ msX X ∧ S_X10_takesOf (lX X) (dtX X) k3 n4 [.ref v0, .ref (txK (dtX X) 0)] h (QI fun x5 h2 =>
    Q (some (.int x5)) h2))) :
    Wj X k n Q 0 [(0, .ref v0)] [] h := by
  refine w_aload_n (pc := 0) C dX10_digit_0 rfl ?_
  refine w_ldcS (pc := 1) C (i := 0) (fun U K => K.2.1.1) dX10_digit_1 ?_
  obtain ⟨f1, hv⟩ := hv
  obtain ⟨k3, n4, hm1, hm2, hv⟩ := hv
  refine w_cV1_1 (pc := 3) C cl_X10_55 lv_X10_takesOf (by decide) dX10_digit_3 (Nat.le_of_ble_eq_true rfl) (c := 10) rfl hm1 hm2 (St10_k f1) (hv.mono (fun v h2 hp => ?_))
  obtain ⟨x5, rfl, hv⟩ := hp
  exact w_iret (pc := 6) C dX10_digit_6 hv
set_option maxRecDepth 20000 in
set_option maxHeartbeats 2000000 in
theorem V_X10_readsAct_0 {X : Ctx} (C : C_X10_readsAct X) {k n : Nat} {Q : Pq} {h : Hp} {v0 : Nat} {v1 : Int32}
    (hv : St10 h v0 ∧ (∃ k3 n4, k + k3 ≤ mcX X ∧ n + n4 ≤ msX X ∧ S_X10_takesOf (lX X) (dtX X) k3 n4 [.ref v0, .ref (txK (dtX X) 1)] h (QI fun x5 h2 =>
    kd h2 (v0 + 12) = 20 ∧ inb v1 (ln h2 (v0 + 12)) ∧ St10 h2 v0 ∧ inb v1 80 ∧ Wj X (k + k3) (n + n4) Q 27 [(0, .ref v0), (1, .int v1)] [] (si (si (si h2 (v0 + 12) (ix v1) x5) (v0 + 13) (ix v1) 0) (v0 + 14) (ix v1) 0)))) :
    Wj X k n Q 0 [(0, .ref v0), (1, .int v1)] [] h := by
  refine w_aload_n (pc := 0) C dX10_readsAct_0 rfl ?_
  obtain ⟨f1, hv⟩ := hv
  refine w_getR (pc := 1) C fl_X10_95 rfl dX10_readsAct_1 (St10_k f1) (St10_r37 f1) ?_
  refine w_iload_n (pc := 4) C dX10_readsAct_4 rfl ?_
  refine w_aload_n (pc := 5) C dX10_readsAct_5 rfl ?_
  refine w_ldcwS (pc := 6) C (i := 1) (fun U K => K.2.1.2.1) dX10_readsAct_6 ?_
  obtain ⟨k3, n4, hm1, hm2, hv⟩ := hv
  refine w_cV1_1 (pc := 9) C cl_X10_55 lv_X10_takesOf (by decide) dX10_readsAct_9 (Nat.le_of_ble_eq_true rfl) (c := 10) rfl hm1 hm2 (St10_k f1) (hv.mono (fun v h2 hp => ?_))
  obtain ⟨x5, rfl, hv⟩ := hp
  obtain ⟨f6, hv⟩ := hv
  obtain ⟨f7, hv⟩ := hv
  refine w_iast (pc := 12) C dX10_readsAct_12 f6 f7 ?_
  refine w_aload_n (pc := 13) C dX10_readsAct_13 rfl ?_
  obtain ⟨f8, hv⟩ := hv
  refine w_getR (pc := 14) C fl_X10_98 rfl dX10_readsAct_14 (St10_k f8) (St10_r38 f8) ?_
  refine w_iload_n (pc := 17) C dX10_readsAct_17 rfl ?_
  refine w_iconst (pc := 18) C (v := 0) dX10_readsAct_18 (by decide) ?_
  obtain ⟨f9, hv⟩ := hv
  refine w_iast (pc := 19) C dX10_readsAct_19 (St10_k38 f8) (inbl (St10_l38 f8) f9) ?_
  refine w_aload_n (pc := 20) C dX10_readsAct_20 rfl ?_
  refine w_getR (pc := 21) C fl_X10_101 rfl dX10_readsAct_21 (St10_k f8) (St10_r39 f8) ?_
  refine w_iload_n (pc := 24) C dX10_readsAct_24 rfl ?_
  refine w_iconst (pc := 25) C (v := 0) dX10_readsAct_25 (by decide) ?_
  refine w_iast (pc := 26) C dX10_readsAct_26 (St10_k39 f8) (inbl (St10_l39 f8) f9) ?_
  refine w_sub ?_ hv
  exact ⟨rfl, rfl, trivial⟩
set_option maxRecDepth 20000 in
set_option maxHeartbeats 2000000 in
theorem V_X10_readsAct_27 {X : Ctx} (C : C_X10_readsAct X) {k n : Nat} {Q : Pq} {h : Hp} {v0 : Nat} {v1 : Int32}
    (hv : St10 h v0 ∧ inb v1 80 ∧ ((0 ≤ (gi (si h (v0 + 15) (ix v1) 0) (v0 + 12) (ix v1)) → (((gi (si h (v0 + 15) (ix v1) 0) (v0 + 12) (ix v1)) = 1 → Wj X k n Q 80 [(0, .ref v0), (1, .int v1)] [.int 1] (si h (v0 + 15) (ix v1) 0)) ∧
    (¬ (gi (si h (v0 + 15) (ix v1) 0) (v0 + 12) (ix v1)) = 1 → (((gi (si h (v0 + 15) (ix v1) 0) (v0 + 12) (ix v1)) = 2 → Wj X k n Q 80 [(0, .ref v0), (1, .int v1)] [.int 1] (si h (v0 + 15) (ix v1) 0)) ∧
    (¬ (gi (si h (v0 + 15) (ix v1) 0) (v0 + 12) (ix v1)) = 2 → ((¬ (gi (si h (v0 + 15) (ix v1) 0) (v0 + 12) (ix v1)) = 5 → Wj X k n Q 80 [(0, .ref v0), (1, .int v1)] [.int 0] (si h (v0 + 15) (ix v1) 0)) ∧
    ((gi (si h (v0 + 15) (ix v1) 0) (v0 + 12) (ix v1)) = 5 → Wj X k n Q 80 [(0, .ref v0), (1, .int v1)] [.int 1] (si h (v0 + 15) (ix v1) 0)))))))) ∧
    (¬ 0 ≤ (gi (si h (v0 + 15) (ix v1) 0) (v0 + 12) (ix v1)) → Q (some (.int 0)) (si h (v0 + 15) (ix v1) 0)))) :
    Wj X k n Q 27 [(0, .ref v0), (1, .int v1)] [] h := by
  refine w_aload_n (pc := 27) C dX10_readsAct_27 rfl ?_
  obtain ⟨f1, hv⟩ := hv
  refine w_getR (pc := 28) C fl_X10_104 rfl dX10_readsAct_28 (St10_k f1) (St10_r40 f1) ?_
  refine w_iload_n (pc := 31) C dX10_readsAct_31 rfl ?_
  refine w_iconst (pc := 32) C (v := 0) dX10_readsAct_32 (by decide) ?_
  obtain ⟨f2, hv⟩ := hv
  refine w_iast (pc := 33) C dX10_readsAct_33 (St10_k40 f1) (inbl (St10_l40 f1) f2) ?_
  refine w_aload_n (pc := 34) C dX10_readsAct_34 rfl ?_
  refine w_getR (pc := 35) C fl_X10_95 rfl dX10_readsAct_35 (St10_k f1) (St10_r37 f1) ?_
  refine w_iload_n (pc := 38) C dX10_readsAct_38 rfl ?_
  refine w_iald (pc := 39) C dX10_readsAct_39 (St10_k37 f1) (inbl (St10_l37 f1) f2) ?_
  refine w_if_ge (pc := 40) C (tgt := 45) dX10_readsAct_40 (by decide) ?_
  obtain ⟨hv1, hv2⟩ := hv
  refine ⟨fun c6 => ?_, fun c6 => ?_⟩
  · have hv := hv1 c6
    refine w_aload_n (pc := 45) C dX10_readsAct_45 rfl ?_
    refine w_getR (pc := 46) C fl_X10_95 rfl dX10_readsAct_46 (St10_k f1) (St10_r37 f1) ?_
    refine w_iload_n (pc := 49) C dX10_readsAct_49 rfl ?_
    refine w_iald (pc := 50) C dX10_readsAct_50 (St10_k37 f1) (inbl (St10_l37 f1) f2) ?_
    refine w_iconst (pc := 51) C (v := 1) dX10_readsAct_51 (by decide) ?_
    refine w_icmp_eq (pc := 52) C (tgt := 75) dX10_readsAct_52 (by decide) ?_
    obtain ⟨hv1, hv2⟩ := hv
    refine ⟨fun c5 => ?_, fun c5 => ?_⟩
    · have hv := hv1 c5
      refine w_iconst (pc := 75) C (v := 1) dX10_readsAct_75 (by decide) ?_
      refine w_goto (pc := 76) C (tgt := 80) dX10_readsAct_76 (by decide) ?_
      refine w_sub ?_ hv
      exact ⟨rfl, rfl, trivial⟩
    · have hv := hv2 c5
      refine w_aload_n (pc := 55) C dX10_readsAct_55 rfl ?_
      refine w_getR (pc := 56) C fl_X10_95 rfl dX10_readsAct_56 (St10_k f1) (St10_r37 f1) ?_
      refine w_iload_n (pc := 59) C dX10_readsAct_59 rfl ?_
      refine w_iald (pc := 60) C dX10_readsAct_60 (St10_k37 f1) (inbl (St10_l37 f1) f2) ?_
      refine w_iconst (pc := 61) C (v := 2) dX10_readsAct_61 (by decide) ?_
      refine w_icmp_eq (pc := 62) C (tgt := 75) dX10_readsAct_62 (by decide) ?_
      obtain ⟨hv1, hv2⟩ := hv
      refine ⟨fun c4 => ?_, fun c4 => ?_⟩
      · have hv := hv1 c4
        refine w_iconst (pc := 75) C (v := 1) dX10_readsAct_75 (by decide) ?_
        refine w_goto (pc := 76) C (tgt := 80) dX10_readsAct_76 (by decide) ?_
        refine w_sub ?_ hv
        exact ⟨rfl, rfl, trivial⟩
      · have hv := hv2 c4
        refine w_aload_n (pc := 65) C dX10_readsAct_65 rfl ?_
        refine w_getR (pc := 66) C fl_X10_95 rfl dX10_readsAct_66 (St10_k f1) (St10_r37 f1) ?_
        refine w_iload_n (pc := 69) C dX10_readsAct_69 rfl ?_
        refine w_iald (pc := 70) C dX10_readsAct_70 (St10_k37 f1) (inbl (St10_l37 f1) f2) ?_
        refine w_iconst (pc := 71) C (v := 5) dX10_readsAct_71 (by decide) ?_
        refine w_icmp_ne (pc := 72) C (tgt := 79) dX10_readsAct_72 (by decide) ?_
        obtain ⟨hv1, hv2⟩ := hv
        refine ⟨fun c3 => ?_, fun c3 => ?_⟩
        · have hv := hv1 c3
          refine w_iconst (pc := 79) C (v := 0) dX10_readsAct_79 (by decide) ?_
          refine w_sub ?_ hv
          exact ⟨rfl, rfl, trivial⟩
        · have hv := hv2 c3
          refine w_iconst (pc := 75) C (v := 1) dX10_readsAct_75 (by decide) ?_
          refine w_goto (pc := 76) C (tgt := 80) dX10_readsAct_76 (by decide) ?_
          refine w_sub ?_ hv
          exact ⟨rfl, rfl, trivial⟩
  · have hv := hv2 c6
    refine w_iconst (pc := 43) C (v := 0) dX10_readsAct_43 (by decide) ?_
    exact w_zret (pc := 44) C dX10_readsAct_44 (by decide) hv
set_option maxRecDepth 20000 in
set_option maxHeartbeats 2000000 in
theorem V_X10_readsAct_80 {X : Ctx} (C : C_X10_readsAct X) {k n : Nat} {Q : Pq} {h : Hp} {v0 : Nat} {v1 s0 : Int32}
    (hv : St10 h v0 ∧ inb v1 80 ∧ (((gi h (v0 + 12) (ix v1)) = 0 → Wj X k n Q 94 [(0, .ref v0), (1, .int v1), (2, .int s0)] [] h) ∧
    (¬ (gi h (v0 + 12) (ix v1)) = 0 → ((s0 = 0 → Wj X k n Q 104 [(0, .ref v0), (1, .int v1), (2, .int s0)] [] h) ∧
    (¬ s0 = 0 → Wj X k n Q 94 [(0, .ref v0), (1, .int v1), (2, .int s0)] [] h))))) :
    Wj X k n Q 80 [(0, .ref v0), (1, .int v1)] [.int s0] h := by
  refine w_istore_n (pc := 80) C dX10_readsAct_80 (by decide) ?_
  refine w_aload_n (pc := 81) C dX10_readsAct_81 rfl ?_
  obtain ⟨f1, hv⟩ := hv
  refine w_getR (pc := 82) C fl_X10_95 rfl dX10_readsAct_82 (St10_k f1) (St10_r37 f1) ?_
  refine w_iload_n (pc := 85) C dX10_readsAct_85 rfl ?_
  obtain ⟨f2, hv⟩ := hv
  refine w_iald (pc := 86) C dX10_readsAct_86 (St10_k37 f1) (inbl (St10_l37 f1) f2) ?_
  refine w_if_eq (pc := 87) C (tgt := 94) dX10_readsAct_87 (by decide) ?_
  obtain ⟨hv1, hv2⟩ := hv
  refine ⟨fun c4 => ?_, fun c4 => ?_⟩
  · have hv := hv1 c4
    refine w_sub ?_ hv
    exact ⟨rfl, rfl, rfl, trivial⟩
  · have hv := hv2 c4
    refine w_iload_n (pc := 90) C dX10_readsAct_90 rfl ?_
    refine w_if_eq (pc := 91) C (tgt := 104) dX10_readsAct_91 (by decide) ?_
    obtain ⟨hv1, hv2⟩ := hv
    refine ⟨fun c3 => ?_, fun c3 => ?_⟩
    · have hv := hv1 c3
      refine w_sub ?_ hv
      exact ⟨rfl, rfl, rfl, trivial⟩
    · have hv := hv2 c3
      refine w_sub ?_ hv
      exact ⟨rfl, rfl, rfl, trivial⟩
set_option maxRecDepth 20000 in
set_option maxHeartbeats 2000000 in
theorem V_X10_readsAct_94 {X : Ctx} (C : C_X10_readsAct X) {k n : Nat} {Q : Pq} {h : Hp} {v0 : Nat} {v1 v2 : Int32}
    (hv : St10 h v0 ∧ (∃ k3 n4, k + k3 ≤ mcX X ∧ n + n4 ≤ msX X ∧ S_X10_two (lX X) (dtX X) k3 n4 [.ref v0] h (QI fun x5 h2 =>
    kd h2 (v0 + 13) = 20 ∧ inb v1 (ln h2 (v0 + 13)) ∧ Wj X (k + k3) (n + n4) Q 104 [(0, .ref v0), (1, .int v1), (2, .int v2)] [] (si h2 (v0 + 13) (ix v1) x5)))) :
    Wj X k n Q 94 [(0, .ref v0), (1, .int v1), (2, .int v2)] [] h := by
  refine w_aload_n (pc := 94) C dX10_readsAct_94 rfl ?_
  obtain ⟨f1, hv⟩ := hv
  refine w_getR (pc := 95) C fl_X10_98 rfl dX10_readsAct_95 (St10_k f1) (St10_r38 f1) ?_
  refine w_iload_n (pc := 98) C dX10_readsAct_98 rfl ?_
  refine w_aload_n (pc := 99) C dX10_readsAct_99 rfl ?_
  obtain ⟨k3, n4, hm1, hm2, hv⟩ := hv
  refine w_cV1_0 (pc := 100) C cl_X10_122 lv_X10_two (by decide) dX10_readsAct_100 (Nat.le_of_ble_eq_true rfl) (c := 10) rfl hm1 hm2 (St10_k f1) (hv.mono (fun v h2 hp => ?_))
  obtain ⟨x5, rfl, hv⟩ := hp
  obtain ⟨f6, hv⟩ := hv
  obtain ⟨f7, hv⟩ := hv
  refine w_iast (pc := 103) C dX10_readsAct_103 f6 f7 ?_
  refine w_sub ?_ hv
  exact ⟨rfl, rfl, rfl, trivial⟩
set_option maxRecDepth 20000 in
set_option maxHeartbeats 2000000 in
theorem V_X10_readsAct_104 {X : Ctx} (C : C_X10_readsAct X) {k n : Nat} {Q : Pq} {h : Hp} {v0 : Nat} {v1 v2 : Int32}
    (hv : St10 h v0 ∧ inb v1 80 ∧ (((gi h (v0 + 13) (ix v1)) < 0 → Wj X k n Q 127 [(0, .ref v0), (1, .int v1)] [] h) ∧
    (¬ (gi h (v0 + 13) (ix v1)) < 0 → ((v2 = 0 → Wj X k n Q 127 [(0, .ref v0), (1, .int v1)] [] h) ∧
    (¬ v2 = 0 → (∃ k4 n5, k + k4 ≤ mcX X ∧ n + n5 ≤ msX X ∧ S_X10_two (lX X) (dtX X) k4 n5 [.ref v0] h (QI fun x6 h3 =>
    kd h3 (v0 + 14) = 20 ∧ inb v1 (ln h3 (v0 + 14)) ∧ Wj X (k + k4) (n + n5) Q 127 [(0, .ref v0), (1, .int v1)] [] (si h3 (v0 + 14) (ix v1) x6)))))))) :
    Wj X k n Q 104 [(0, .ref v0), (1, .int v1), (2, .int v2)] [] h := by
  refine w_aload_n (pc := 104) C dX10_readsAct_104 rfl ?_
  obtain ⟨f1, hv⟩ := hv
  refine w_getR (pc := 105) C fl_X10_98 rfl dX10_readsAct_105 (St10_k f1) (St10_r38 f1) ?_
  refine w_iload_n (pc := 108) C dX10_readsAct_108 rfl ?_
  obtain ⟨f2, hv⟩ := hv
  refine w_iald (pc := 109) C dX10_readsAct_109 (St10_k38 f1) (inbl (St10_l38 f1) f2) ?_
  refine w_if_lt (pc := 110) C (tgt := 127) dX10_readsAct_110 (by decide) ?_
  obtain ⟨hv1, hv2⟩ := hv
  refine ⟨fun c10 => ?_, fun c10 => ?_⟩
  · have hv := hv1 c10
    refine w_sub ?_ hv
    exact ⟨rfl, rfl, trivial⟩
  · have hv := hv2 c10
    refine w_iload_n (pc := 113) C dX10_readsAct_113 rfl ?_
    refine w_if_eq (pc := 114) C (tgt := 127) dX10_readsAct_114 (by decide) ?_
    obtain ⟨hv1, hv2⟩ := hv
    refine ⟨fun c9 => ?_, fun c9 => ?_⟩
    · have hv := hv1 c9
      refine w_sub ?_ hv
      exact ⟨rfl, rfl, trivial⟩
    · have hv := hv2 c9
      refine w_aload_n (pc := 117) C dX10_readsAct_117 rfl ?_
      refine w_getR (pc := 118) C fl_X10_101 rfl dX10_readsAct_118 (St10_k f1) (St10_r39 f1) ?_
      refine w_iload_n (pc := 121) C dX10_readsAct_121 rfl ?_
      refine w_aload_n (pc := 122) C dX10_readsAct_122 rfl ?_
      obtain ⟨k4, n5, hm1, hm2, hv⟩ := hv
      refine w_cV1_0 (pc := 123) C cl_X10_122 lv_X10_two (by decide) dX10_readsAct_123 (Nat.le_of_ble_eq_true rfl) (c := 10) rfl hm1 hm2 (St10_k f1) (hv.mono (fun v h3 hp => ?_))
      obtain ⟨x6, rfl, hv⟩ := hp
      obtain ⟨f7, hv⟩ := hv
      obtain ⟨f8, hv⟩ := hv
      refine w_iast (pc := 126) C dX10_readsAct_126 f7 f8 ?_
      refine w_sub ?_ hv
      exact ⟨rfl, rfl, trivial⟩
set_option maxRecDepth 20000 in
set_option maxHeartbeats 2000000 in
theorem V_X10_readsAct_127 {X : Ctx} (C : C_X10_readsAct X) {k n : Nat} {Q : Pq} {h : Hp} {v0 : Nat} {v1 : Int32}
    (hv : St10 h v0 ∧ inb v1 80 ∧ (((gi h (v0 + 13) (ix v1)) < 0 → Wj X k n Q 168 [(0, .ref v0), (1, .int v1)] [] h) ∧
    (¬ (gi h (v0 + 13) (ix v1)) < 0 → (((gi h (v0 + 14) (ix v1)) < 0 → Wj X k n Q 168 [(0, .ref v0), (1, .int v1)] [] h) ∧
    (¬ (gi h (v0 + 14) (ix v1)) < 0 → ((¬ (gi h (v0 + 12) (ix v1)) = 5 → Wj X k n Q 168 [(0, .ref v0), (1, .int v1)] [] h) ∧
    ((gi h (v0 + 12) (ix v1)) = 5 → (∃ k4 n5, k + k4 ≤ mcX X ∧ n + n5 ≤ msX X ∧ S_X10_takesOf (lX X) (dtX X) k4 n5 [.ref v0, .ref (txK (dtX X) 2)] h (QI fun x6 h3 =>
    kd h3 (v0 + 15) = 20 ∧ inb v1 (ln h3 (v0 + 15)) ∧ Wj X (k + k4) (n + n5) Q 168 [(0, .ref v0), (1, .int v1)] [] (si h3 (v0 + 15) (ix v1) x6)))))))))) :
    Wj X k n Q 127 [(0, .ref v0), (1, .int v1)] [] h := by
  refine w_aload_n (pc := 127) C dX10_readsAct_127 rfl ?_
  obtain ⟨f1, hv⟩ := hv
  refine w_getR (pc := 128) C fl_X10_98 rfl dX10_readsAct_128 (St10_k f1) (St10_r38 f1) ?_
  refine w_iload_n (pc := 131) C dX10_readsAct_131 rfl ?_
  obtain ⟨f2, hv⟩ := hv
  refine w_iald (pc := 132) C dX10_readsAct_132 (St10_k38 f1) (inbl (St10_l38 f1) f2) ?_
  refine w_if_lt (pc := 133) C (tgt := 168) dX10_readsAct_133 (by decide) ?_
  obtain ⟨hv1, hv2⟩ := hv
  refine ⟨fun c11 => ?_, fun c11 => ?_⟩
  · have hv := hv1 c11
    refine w_sub ?_ hv
    exact ⟨rfl, rfl, trivial⟩
  · have hv := hv2 c11
    refine w_aload_n (pc := 136) C dX10_readsAct_136 rfl ?_
    refine w_getR (pc := 137) C fl_X10_101 rfl dX10_readsAct_137 (St10_k f1) (St10_r39 f1) ?_
    refine w_iload_n (pc := 140) C dX10_readsAct_140 rfl ?_
    refine w_iald (pc := 141) C dX10_readsAct_141 (St10_k39 f1) (inbl (St10_l39 f1) f2) ?_
    refine w_if_lt (pc := 142) C (tgt := 168) dX10_readsAct_142 (by decide) ?_
    obtain ⟨hv1, hv2⟩ := hv
    refine ⟨fun c10 => ?_, fun c10 => ?_⟩
    · have hv := hv1 c10
      refine w_sub ?_ hv
      exact ⟨rfl, rfl, trivial⟩
    · have hv := hv2 c10
      refine w_aload_n (pc := 145) C dX10_readsAct_145 rfl ?_
      refine w_getR (pc := 146) C fl_X10_95 rfl dX10_readsAct_146 (St10_k f1) (St10_r37 f1) ?_
      refine w_iload_n (pc := 149) C dX10_readsAct_149 rfl ?_
      refine w_iald (pc := 150) C dX10_readsAct_150 (St10_k37 f1) (inbl (St10_l37 f1) f2) ?_
      refine w_iconst (pc := 151) C (v := 5) dX10_readsAct_151 (by decide) ?_
      refine w_icmp_ne (pc := 152) C (tgt := 168) dX10_readsAct_152 (by decide) ?_
      obtain ⟨hv1, hv2⟩ := hv
      refine ⟨fun c9 => ?_, fun c9 => ?_⟩
      · have hv := hv1 c9
        refine w_sub ?_ hv
        exact ⟨rfl, rfl, trivial⟩
      · have hv := hv2 c9
        refine w_aload_n (pc := 155) C dX10_readsAct_155 rfl ?_
        refine w_getR (pc := 156) C fl_X10_104 rfl dX10_readsAct_156 (St10_k f1) (St10_r40 f1) ?_
        refine w_iload_n (pc := 159) C dX10_readsAct_159 rfl ?_
        refine w_aload_n (pc := 160) C dX10_readsAct_160 rfl ?_
        refine w_ldcwS (pc := 161) C (i := 2) (fun U K => K.2.1.2.2) dX10_readsAct_161 ?_
        obtain ⟨k4, n5, hm1, hm2, hv⟩ := hv
        refine w_cV1_1 (pc := 164) C cl_X10_55 lv_X10_takesOf (by decide) dX10_readsAct_164 (Nat.le_of_ble_eq_true rfl) (c := 10) rfl hm1 hm2 (St10_k f1) (hv.mono (fun v h3 hp => ?_))
        obtain ⟨x6, rfl, hv⟩ := hp
        obtain ⟨f7, hv⟩ := hv
        obtain ⟨f8, hv⟩ := hv
        refine w_iast (pc := 167) C dX10_readsAct_167 f7 f8 ?_
        refine w_sub ?_ hv
        exact ⟨rfl, rfl, trivial⟩
set_option maxRecDepth 20000 in
set_option maxHeartbeats 2000000 in
theorem V_X10_readsAct_168 {X : Ctx} (C : C_X10_readsAct X) {k n : Nat} {Q : Pq} {h : Hp} {v0 : Nat} {v1 : Int32}
    (hv : St10 h v0 ∧ inb v1 80 ∧ (((gi h (v0 + 13) (ix v1)) < 0 → Q (some (.int 0)) h) ∧
    (¬ (gi h (v0 + 13) (ix v1)) < 0 → (((gi h (v0 + 14) (ix v1)) < 0 → Q (some (.int 0)) h) ∧
    (¬ (gi h (v0 + 14) (ix v1)) < 0 → (((gi h (v0 + 15) (ix v1)) < 0 → Q (some (.int 0)) h) ∧
    (¬ (gi h (v0 + 15) (ix v1)) < 0 → Q (some (.int 1)) h))))))) :
    Wj X k n Q 168 [(0, .ref v0), (1, .int v1)] [] h := by
  refine w_aload_n (pc := 168) C dX10_readsAct_168 rfl ?_
  obtain ⟨f1, hv⟩ := hv
  refine w_getR (pc := 169) C fl_X10_98 rfl dX10_readsAct_169 (St10_k f1) (St10_r38 f1) ?_
  refine w_iload_n (pc := 172) C dX10_readsAct_172 rfl ?_
  obtain ⟨f2, hv⟩ := hv
  refine w_iald (pc := 173) C dX10_readsAct_173 (St10_k38 f1) (inbl (St10_l38 f1) f2) ?_
  refine w_if_lt (pc := 174) C (tgt := 199) dX10_readsAct_174 (by decide) ?_
  obtain ⟨hv1, hv2⟩ := hv
  refine ⟨fun c5 => ?_, fun c5 => ?_⟩
  · have hv := hv1 c5
    refine w_iconst (pc := 199) C (v := 0) dX10_readsAct_199 (by decide) ?_
    exact w_zret (pc := 200) C dX10_readsAct_200 (by decide) hv
  · have hv := hv2 c5
    refine w_aload_n (pc := 177) C dX10_readsAct_177 rfl ?_
    refine w_getR (pc := 178) C fl_X10_101 rfl dX10_readsAct_178 (St10_k f1) (St10_r39 f1) ?_
    refine w_iload_n (pc := 181) C dX10_readsAct_181 rfl ?_
    refine w_iald (pc := 182) C dX10_readsAct_182 (St10_k39 f1) (inbl (St10_l39 f1) f2) ?_
    refine w_if_lt (pc := 183) C (tgt := 199) dX10_readsAct_183 (by decide) ?_
    obtain ⟨hv1, hv2⟩ := hv
    refine ⟨fun c4 => ?_, fun c4 => ?_⟩
    · have hv := hv1 c4
      refine w_iconst (pc := 199) C (v := 0) dX10_readsAct_199 (by decide) ?_
      exact w_zret (pc := 200) C dX10_readsAct_200 (by decide) hv
    · have hv := hv2 c4
      refine w_aload_n (pc := 186) C dX10_readsAct_186 rfl ?_
      refine w_getR (pc := 187) C fl_X10_104 rfl dX10_readsAct_187 (St10_k f1) (St10_r40 f1) ?_
      refine w_iload_n (pc := 190) C dX10_readsAct_190 rfl ?_
      refine w_iald (pc := 191) C dX10_readsAct_191 (St10_k40 f1) (inbl (St10_l40 f1) f2) ?_
      refine w_if_lt (pc := 192) C (tgt := 199) dX10_readsAct_192 (by decide) ?_
      obtain ⟨hv1, hv2⟩ := hv
      refine ⟨fun c3 => ?_, fun c3 => ?_⟩
      · have hv := hv1 c3
        refine w_iconst (pc := 199) C (v := 0) dX10_readsAct_199 (by decide) ?_
        exact w_zret (pc := 200) C dX10_readsAct_200 (by decide) hv
      · have hv := hv2 c3
        refine w_iconst (pc := 195) C (v := 1) dX10_readsAct_195 (by decide) ?_
        refine w_goto (pc := 196) C (tgt := 200) dX10_readsAct_196 (by decide) ?_
        exact w_zret (pc := 200) C dX10_readsAct_200 (by decide) hv
set_option maxRecDepth 20000 in
set_option maxHeartbeats 2000000 in
theorem V_X4_fillAtFirst_0 {X : Ctx} (C : C_X4_fillAtFirst X) {k n : Nat} {Q : Pq} {h : Hp} {v0 : Nat}
    (hv : St4 h v0 ∧ Wj X k n Q 6 [(0, .ref v0), (1, .int 0)] [] (si (si h v0 2 1) v0 3 0)) :
    Wj X k n Q 0 [(0, .ref v0)] [] h := by
  refine w_aload_n (pc := 0) C dX4_fillAtFirst_0 rfl ?_
  obtain ⟨f1, hv⟩ := hv
  refine w_cV0_0 (pc := 1) C cl_X4_69 lv_X4_dropPlates (by decide) dX4_fillAtFirst_1 (Nat.le_of_ble_eq_true rfl) (c := 4) rfl (St4_k f1) ((sf_X4_dropPlates (h := h) f1).mono (fun v h9 hp => ?_))
  obtain ⟨e1, e2⟩ := hp
  rw [e1, e2]
  refine w_iconst (pc := 4) C (v := 0) dX4_fillAtFirst_4 (by decide) ?_
  refine w_istore_n (pc := 5) C dX4_fillAtFirst_5 (by decide) ?_
  refine w_sub ?_ hv
  exact ⟨rfl, rfl, trivial⟩
set_option maxRecDepth 20000 in
set_option maxHeartbeats 2000000 in
theorem V_X4_fillAtFirst_6 {X : Ctx} (C : C_X4_fillAtFirst X) {k n : Nat} {Q : Pq} {h : Hp} {v0 : Nat} {v1 : Int32}
    (hv : (((Int32.ofNat 18) ≤ v1 → Wj X k n Q 41 [(0, .ref v0), (1, .int 0)] [] h) ∧
    (¬ (Int32.ofNat 18) ≤ v1 → St4 h v0 ∧ inb v1 18 ∧ S_X4_addCircle (lX X) (dtX X) 0 0 [.ref v0, .int (fhL.getD (ix v1) 0)] (si h v0 2 (1 + (v1 / 6))) (QV fun h3 =>
    Wj X k n Q 6 [(0, .ref v0), (1, .int (v1 + Int32.ofInt 1))] [] h3)))) :
    Wj X k n Q 6 [(0, .ref v0), (1, .int v1)] [] h := by
  refine w_iload_n (pc := 6) C dX4_fillAtFirst_6 rfl ?_
  refine w_getsN (pc := 7) C (fun U K => ⟨K.2.2.2.1.1, K.2.2.2.1.2.2⟩) dX4_fillAtFirst_7 ?_
  refine w_alenT (pc := 10) C (fun U K => K.2.2.2.1.2.1) dX4_fillAtFirst_10 ?_
  refine w_icmp_ge (pc := 11) C (tgt := 39) dX4_fillAtFirst_11 (by decide) ?_
  obtain ⟨hv1, hv2⟩ := hv
  refine ⟨fun c4 => ?_, fun c4 => ?_⟩
  · have hv := hv1 c4
    refine w_iconst (pc := 39) C (v := 0) dX4_fillAtFirst_39 (by decide) ?_
    refine w_istore_n (pc := 40) C dX4_fillAtFirst_40 (by decide) ?_
    refine w_sub ?_ hv
    exact ⟨rfl, rfl, trivial⟩
  · have hv := hv2 c4
    refine w_aload_n (pc := 14) C dX4_fillAtFirst_14 rfl ?_
    refine w_iconst (pc := 15) C (v := 1) dX4_fillAtFirst_15 (by decide) ?_
    refine w_iload_n (pc := 16) C dX4_fillAtFirst_16 rfl ?_
    refine w_bipush (pc := 17) C (v := 6) dX4_fillAtFirst_17 (by decide) ?_
    refine w_idiv (pc := 19) C dX4_fillAtFirst_19 (by decide) ?_
    refine w_iadd (pc := 20) C dX4_fillAtFirst_20 ?_
    obtain ⟨f1, hv⟩ := hv
    refine w_putI (pc := 21) C fl_X4_18 rfl rfl dX4_fillAtFirst_21 (St4_k f1) ?_
    refine w_aload_n (pc := 24) C dX4_fillAtFirst_24 rfl ?_
    refine w_getsN (pc := 25) C (fun U K => ⟨K.2.2.2.1.1, K.2.2.2.1.2.2⟩) dX4_fillAtFirst_25 ?_
    refine w_iload_n (pc := 28) C dX4_fillAtFirst_28 rfl ?_
    obtain ⟨f2, hv⟩ := hv
    refine w_ialdT (pc := 29) C (fun U K => K.2.2.2.1.2.1) f2 rfl dX4_fillAtFirst_29 ?_
    refine w_cV0_1 (pc := 30) C cl_X4_75 lv_X4_addCircle (by decide) dX4_fillAtFirst_30 (Nat.le_of_ble_eq_true rfl) (c := 4) rfl (St4_k f1) (hv.mono (fun v h3 hp => ?_))
    obtain ⟨rfl, hv⟩ := hp
    refine w_iinc (pc := 33) C dX4_fillAtFirst_33 rfl (by decide) ?_
    refine w_goto (pc := 36) C (tgt := 6) dX4_fillAtFirst_36 (by decide) ?_
    refine w_sub ?_ hv
    exact ⟨rfl, rfl, trivial⟩
set_option maxRecDepth 20000 in
set_option maxHeartbeats 2000000 in
theorem V_X4_fillAtFirst_41 {X : Ctx} (C : C_X4_fillAtFirst X) {k n : Nat} {Q : Pq} {h : Hp} {v0 : Nat} {v1 : Int32}
    (hv : (((Int32.ofNat 12) ≤ v1 → Q none h) ∧
    (¬ (Int32.ofNat 12) ≤ v1 → inb v1 12 ∧ St4 h v0 ∧ S_X4_addGear (lX X) (dtX X) 0 0 [.ref v0, .int (ftL.getD (ix v1) 0)] h (QV fun h3 =>
    Wj X k n Q 41 [(0, .ref v0), (1, .int (v1 + Int32.ofInt 1))] [] h3)))) :
    Wj X k n Q 41 [(0, .ref v0), (1, .int v1)] [] h := by
  refine w_iload_n (pc := 41) C dX4_fillAtFirst_41 rfl ?_
  refine w_getsN (pc := 42) C (fun U K => ⟨K.2.2.2.2.1, K.2.2.2.2.2.2⟩) dX4_fillAtFirst_42 ?_
  refine w_alenT (pc := 45) C (fun U K => K.2.2.2.2.2.1) dX4_fillAtFirst_45 ?_
  refine w_icmp_ge (pc := 46) C (tgt := 64) dX4_fillAtFirst_46 (by decide) ?_
  obtain ⟨hv1, hv2⟩ := hv
  refine ⟨fun c4 => ?_, fun c4 => ?_⟩
  · have hv := hv1 c4
    exact w_vret (pc := 64) C dX4_fillAtFirst_64 hv
  · have hv := hv2 c4
    refine w_aload_n (pc := 49) C dX4_fillAtFirst_49 rfl ?_
    refine w_getsN (pc := 50) C (fun U K => ⟨K.2.2.2.2.1, K.2.2.2.2.2.2⟩) dX4_fillAtFirst_50 ?_
    refine w_iload_n (pc := 53) C dX4_fillAtFirst_53 rfl ?_
    obtain ⟨f1, hv⟩ := hv
    refine w_ialdT (pc := 54) C (fun U K => K.2.2.2.2.2.1) f1 rfl dX4_fillAtFirst_54 ?_
    obtain ⟨f2, hv⟩ := hv
    refine w_cV0_1 (pc := 55) C cl_X4_82 lv_X4_addGear (by decide) dX4_fillAtFirst_55 (Nat.le_of_ble_eq_true rfl) (c := 4) rfl (St4_k f2) (hv.mono (fun v h3 hp => ?_))
    obtain ⟨rfl, hv⟩ := hp
    refine w_iinc (pc := 58) C dX4_fillAtFirst_58 rfl (by decide) ?_
    refine w_goto (pc := 61) C (tgt := 41) dX4_fillAtFirst_61 (by decide) ?_
    refine w_sub ?_ hv
    exact ⟨rfl, rfl, trivial⟩
