-- the reference: ratios (by program: gen_parts.py)
theorem dX10_sinks_0 : decode cX10_sinks 0 = .ok (.iload_n 1, 1) := by decide +kernel
theorem dX10_sinks_1 : decode cX10_sinks 1 = .ok (.istore_n 3, 1) := by decide +kernel
theorem dX10_sinks_2 : decode cX10_sinks 2 = .ok (.iconst 2, 1) := by decide +kernel
theorem dX10_sinks_3 : decode cX10_sinks 3 = .ok (.iload_n 3, 1) := by decide +kernel
theorem dX10_sinks_4 : decode cX10_sinks 4 = .ok (.imul, 1) := by decide +kernel
theorem dX10_sinks_5 : decode cX10_sinks 5 = .ok (.iconst 1, 1) := by decide +kernel
theorem dX10_sinks_6 : decode cX10_sinks 6 = .ok (.iadd, 1) := by decide +kernel
theorem dX10_sinks_7 : decode cX10_sinks 7 = .ok (.iload_n 2, 1) := by decide +kernel
theorem dX10_sinks_8 : decode cX10_sinks 8 = .ok (.if_icmp .ge 95, 3) := by decide +kernel
theorem dX10_sinks_11 : decode cX10_sinks 11 = .ok (.iconst 2, 1) := by decide +kernel
theorem dX10_sinks_12 : decode cX10_sinks 12 = .ok (.iload_n 3, 1) := by decide +kernel
theorem dX10_sinks_13 : decode cX10_sinks 13 = .ok (.imul, 1) := by decide +kernel
theorem dX10_sinks_14 : decode cX10_sinks 14 = .ok (.iconst 1, 1) := by decide +kernel
theorem dX10_sinks_15 : decode cX10_sinks 15 = .ok (.iadd, 1) := by decide +kernel
theorem dX10_sinks_16 : decode cX10_sinks 16 = .ok (.istore 4, 2) := by decide +kernel
theorem dX10_sinks_18 : decode cX10_sinks 18 = .ok (.iload 4, 2) := by decide +kernel
theorem dX10_sinks_20 : decode cX10_sinks 20 = .ok (.iconst 1, 1) := by decide +kernel
theorem dX10_sinks_21 : decode cX10_sinks 21 = .ok (.iadd, 1) := by decide +kernel
theorem dX10_sinks_22 : decode cX10_sinks 22 = .ok (.iload_n 2, 1) := by decide +kernel
theorem dX10_sinks_23 : decode cX10_sinks 23 = .ok (.if_icmp .ge 26, 3) := by decide +kernel
theorem dX10_sinks_26 : decode cX10_sinks 26 = .ok (.aload_n 0, 1) := by decide +kernel
theorem dX10_sinks_27 : decode cX10_sinks 27 = .ok (.getfield 86, 3) := by decide +kernel
theorem dX10_sinks_30 : decode cX10_sinks 30 = .ok (.iload 4, 2) := by decide +kernel
theorem dX10_sinks_32 : decode cX10_sinks 32 = .ok (.iconst 1, 1) := by decide +kernel
theorem dX10_sinks_33 : decode cX10_sinks 33 = .ok (.iadd, 1) := by decide +kernel
theorem dX10_sinks_34 : decode cX10_sinks 34 = .ok (.laload, 1) := by decide +kernel
theorem dX10_sinks_35 : decode cX10_sinks 35 = .ok (.aload_n 0, 1) := by decide +kernel
theorem dX10_sinks_36 : decode cX10_sinks 36 = .ok (.getfield 86, 3) := by decide +kernel
theorem dX10_sinks_39 : decode cX10_sinks 39 = .ok (.iload 4, 2) := by decide +kernel
theorem dX10_sinks_41 : decode cX10_sinks 41 = .ok (.laload, 1) := by decide +kernel
theorem dX10_sinks_42 : decode cX10_sinks 42 = .ok (.lcmp, 1) := by decide +kernel
theorem dX10_sinks_43 : decode cX10_sinks 43 = .ok (.ifCond .le 6, 3) := by decide +kernel
theorem dX10_sinks_46 : decode cX10_sinks 46 = .ok (.iinc 4 1, 3) := by decide +kernel
theorem dX10_sinks_49 : decode cX10_sinks 49 = .ok (.aload_n 0, 1) := by decide +kernel
theorem dX10_sinks_50 : decode cX10_sinks 50 = .ok (.getfield 86, 3) := by decide +kernel
theorem dX10_sinks_53 : decode cX10_sinks 53 = .ok (.iload 4, 2) := by decide +kernel
theorem dX10_sinks_55 : decode cX10_sinks 55 = .ok (.laload, 1) := by decide +kernel
theorem dX10_sinks_56 : decode cX10_sinks 56 = .ok (.aload_n 0, 1) := by decide +kernel
theorem dX10_sinks_57 : decode cX10_sinks 57 = .ok (.getfield 86, 3) := by decide +kernel
theorem dX10_sinks_60 : decode cX10_sinks 60 = .ok (.iload_n 3, 1) := by decide +kernel
theorem dX10_sinks_61 : decode cX10_sinks 61 = .ok (.laload, 1) := by decide +kernel
theorem dX10_sinks_62 : decode cX10_sinks 62 = .ok (.lcmp, 1) := by decide +kernel
theorem dX10_sinks_63 : decode cX10_sinks 63 = .ok (.ifCond .gt 4, 3) := by decide +kernel
theorem dX10_sinks_66 : decode cX10_sinks 66 = .ok (.return_, 1) := by decide +kernel
theorem dX10_sinks_67 : decode cX10_sinks 67 = .ok (.aload_n 0, 1) := by decide +kernel
theorem dX10_sinks_68 : decode cX10_sinks 68 = .ok (.getfield 86, 3) := by decide +kernel
theorem dX10_sinks_71 : decode cX10_sinks 71 = .ok (.iload_n 3, 1) := by decide +kernel
theorem dX10_sinks_72 : decode cX10_sinks 72 = .ok (.laload, 1) := by decide +kernel
theorem dX10_sinks_73 : decode cX10_sinks 73 = .ok (.lstore 5, 2) := by decide +kernel
theorem dX10_sinks_75 : decode cX10_sinks 75 = .ok (.aload_n 0, 1) := by decide +kernel
theorem dX10_sinks_76 : decode cX10_sinks 76 = .ok (.getfield 86, 3) := by decide +kernel
theorem dX10_sinks_79 : decode cX10_sinks 79 = .ok (.iload_n 3, 1) := by decide +kernel
theorem dX10_sinks_80 : decode cX10_sinks 80 = .ok (.aload_n 0, 1) := by decide +kernel
theorem dX10_sinks_81 : decode cX10_sinks 81 = .ok (.getfield 86, 3) := by decide +kernel
theorem dX10_sinks_84 : decode cX10_sinks 84 = .ok (.iload 4, 2) := by decide +kernel
theorem dX10_sinks_86 : decode cX10_sinks 86 = .ok (.laload, 1) := by decide +kernel
theorem dX10_sinks_87 : decode cX10_sinks 87 = .ok (.lastore, 1) := by decide +kernel
theorem dX10_sinks_88 : decode cX10_sinks 88 = .ok (.aload_n 0, 1) := by decide +kernel
theorem dX10_sinks_89 : decode cX10_sinks 89 = .ok (.getfield 86, 3) := by decide +kernel
theorem dX10_sinks_92 : decode cX10_sinks 92 = .ok (.iload 4, 2) := by decide +kernel
theorem dX10_sinks_94 : decode cX10_sinks 94 = .ok (.lload 5, 2) := by decide +kernel
theorem dX10_sinks_96 : decode cX10_sinks 96 = .ok (.lastore, 1) := by decide +kernel
theorem dX10_sinks_97 : decode cX10_sinks 97 = .ok (.iload 4, 2) := by decide +kernel
theorem dX10_sinks_99 : decode cX10_sinks 99 = .ok (.istore_n 3, 1) := by decide +kernel
theorem dX10_sinks_100 : decode cX10_sinks 100 = .ok (.goto (-98), 3) := by decide +kernel
theorem dX10_sinks_103 : decode cX10_sinks 103 = .ok (.return_, 1) := by decide +kernel
set_option maxRecDepth 20000 in
set_option maxHeartbeats 2000000 in
theorem V_X10_sinks_0 {X : Ctx} (C : C_X10_sinks X) {k n : Nat} {Q : Pq} {h : Hp} {v0 : Nat} {v1 v2 : Int32}
    (hv : Wj X k n Q 2 [(0, .ref v0), (2, .int v2), (3, .int v1)] [] h) :
    Wj X k n Q 0 [(0, .ref v0), (1, .int v1), (2, .int v2)] [] h := by
  refine w_iload_n (pc := 0) C dX10_sinks_0 rfl ?_
  refine w_istore_n (pc := 1) C dX10_sinks_1 (by decide) ?_
  refine w_sub ?_ hv
  exact ⟨rfl, rfl, rfl, trivial⟩
set_option maxRecDepth 20000 in
set_option maxHeartbeats 2000000 in
theorem V_X10_sinks_2 {X : Ctx} (C : C_X10_sinks X) {k n : Nat} {Q : Pq} {h : Hp} {v0 : Nat} {v2 v3 : Int32}
    (hv : ((v2 ≤ ((2 * v3) + 1) → Q none h) ∧
    (¬ v2 ≤ ((2 * v3) + 1) → ((v2 ≤ (((2 * v3) + 1) + 1) → Wj X k n Q 49 [(0, .ref v0), (2, .int v2), (3, .int v3), (4, .int ((2 * v3) + 1))] [] h) ∧
    (¬ v2 ≤ (((2 * v3) + 1) + 1) → St10 h v0 ∧ inb (((2 * v3) + 1) + 1) 12100 ∧ inb ((2 * v3) + 1) 12100 ∧ (((gl h (v0 + 9) (ix (((2 * v3) + 1) + 1))) ≤ (gl h (v0 + 9) (ix ((2 * v3) + 1))) → Wj X k n Q 49 [(0, .ref v0), (2, .int v2), (3, .int v3), (4, .int ((2 * v3) + 1))] [] h) ∧
    (¬ (gl h (v0 + 9) (ix (((2 * v3) + 1) + 1))) ≤ (gl h (v0 + 9) (ix ((2 * v3) + 1))) → Wj X k n Q 49 [(0, .ref v0), (2, .int v2), (3, .int v3), (4, .int (((2 * v3) + 1) + Int32.ofInt 1))] [] h))))))) :
    Wj X k n Q 2 [(0, .ref v0), (2, .int v2), (3, .int v3)] [] h := by
  refine w_iconst (pc := 2) C (v := 2) dX10_sinks_2 (by decide) ?_
  refine w_iload_n (pc := 3) C dX10_sinks_3 rfl ?_
  refine w_imul (pc := 4) C dX10_sinks_4 ?_
  refine w_iconst (pc := 5) C (v := 1) dX10_sinks_5 (by decide) ?_
  refine w_iadd (pc := 6) C dX10_sinks_6 ?_
  refine w_iload_n (pc := 7) C dX10_sinks_7 rfl ?_
  refine w_icmp_ge (pc := 8) C (tgt := 103) dX10_sinks_8 (by decide) ?_
  obtain ⟨hv1, hv2⟩ := hv
  refine ⟨fun c6 => ?_, fun c6 => ?_⟩
  · have hv := hv1 c6
    exact w_vret (pc := 103) C dX10_sinks_103 hv
  · have hv := hv2 c6
    refine w_iconst (pc := 11) C (v := 2) dX10_sinks_11 (by decide) ?_
    refine w_iload_n (pc := 12) C dX10_sinks_12 rfl ?_
    refine w_imul (pc := 13) C dX10_sinks_13 ?_
    refine w_iconst (pc := 14) C (v := 1) dX10_sinks_14 (by decide) ?_
    refine w_iadd (pc := 15) C dX10_sinks_15 ?_
    refine w_istore (pc := 16) C dX10_sinks_16 (by decide) ?_
    refine w_iload (pc := 18) C dX10_sinks_18 rfl ?_
    refine w_iconst (pc := 20) C (v := 1) dX10_sinks_20 (by decide) ?_
    refine w_iadd (pc := 21) C dX10_sinks_21 ?_
    refine w_iload_n (pc := 22) C dX10_sinks_22 rfl ?_
    refine w_icmp_ge (pc := 23) C (tgt := 49) dX10_sinks_23 (by decide) ?_
    obtain ⟨hv1, hv2⟩ := hv
    refine ⟨fun c5 => ?_, fun c5 => ?_⟩
    · have hv := hv1 c5
      refine w_sub ?_ hv
      exact ⟨rfl, rfl, rfl, rfl, trivial⟩
    · have hv := hv2 c5
      refine w_aload_n (pc := 26) C dX10_sinks_26 rfl ?_
      obtain ⟨f1, hv⟩ := hv
      refine w_getR (pc := 27) C fl_X10_86 rfl dX10_sinks_27 (St10_k f1) (St10_r27 f1) ?_
      refine w_iload (pc := 30) C dX10_sinks_30 rfl ?_
      refine w_iconst (pc := 32) C (v := 1) dX10_sinks_32 (by decide) ?_
      refine w_iadd (pc := 33) C dX10_sinks_33 ?_
      obtain ⟨f2, hv⟩ := hv
      refine w_lald (pc := 34) C dX10_sinks_34 (St10_k27 f1) (inbl (St10_l27 f1) f2) ?_
      refine w_aload_n (pc := 35) C dX10_sinks_35 rfl ?_
      refine w_getR (pc := 36) C fl_X10_86 rfl dX10_sinks_36 (St10_k f1) (St10_r27 f1) ?_
      refine w_iload (pc := 39) C dX10_sinks_39 rfl ?_
      obtain ⟨f3, hv⟩ := hv
      refine w_lald (pc := 41) C dX10_sinks_41 (St10_k27 f1) (inbl (St10_l27 f1) f3) ?_
      refine w_lcmp_le (pc := 42) C (tgt := 49) dX10_sinks_42 dX10_sinks_43 (by decide) ?_
      obtain ⟨hv1, hv2⟩ := hv
      refine ⟨fun c4 => ?_, fun c4 => ?_⟩
      · have hv := hv1 c4
        refine w_sub ?_ hv
        exact ⟨rfl, rfl, rfl, rfl, trivial⟩
      · have hv := hv2 c4
        refine w_iinc (pc := 46) C dX10_sinks_46 rfl (by decide) ?_
        refine w_sub ?_ hv
        exact ⟨rfl, rfl, rfl, rfl, trivial⟩
set_option maxRecDepth 20000 in
set_option maxHeartbeats 2000000 in
theorem V_X10_sinks_49 {X : Ctx} (C : C_X10_sinks X) {k n : Nat} {Q : Pq} {h : Hp} {v0 : Nat} {v2 v3 v4 : Int32}
    (hv : St10 h v0 ∧ inb v4 12100 ∧ inb v3 12100 ∧ (((gl h (v0 + 9) (ix v3)) < (gl h (v0 + 9) (ix v4)) → Wj X k n Q 2 [(0, .ref v0), (2, .int v2), (3, .int v4)] [] (sl (sl h (v0 + 9) (ix v3) (gl h (v0 + 9) (ix v4))) (v0 + 9) (ix v4) (gl h (v0 + 9) (ix v3)))) ∧
    (¬ (gl h (v0 + 9) (ix v3)) < (gl h (v0 + 9) (ix v4)) → Q none h))) :
    Wj X k n Q 49 [(0, .ref v0), (2, .int v2), (3, .int v3), (4, .int v4)] [] h := by
  refine w_aload_n (pc := 49) C dX10_sinks_49 rfl ?_
  obtain ⟨f1, hv⟩ := hv
  refine w_getR (pc := 50) C fl_X10_86 rfl dX10_sinks_50 (St10_k f1) (St10_r27 f1) ?_
  refine w_iload (pc := 53) C dX10_sinks_53 rfl ?_
  obtain ⟨f2, hv⟩ := hv
  refine w_lald (pc := 55) C dX10_sinks_55 (St10_k27 f1) (inbl (St10_l27 f1) f2) ?_
  refine w_aload_n (pc := 56) C dX10_sinks_56 rfl ?_
  refine w_getR (pc := 57) C fl_X10_86 rfl dX10_sinks_57 (St10_k f1) (St10_r27 f1) ?_
  refine w_iload_n (pc := 60) C dX10_sinks_60 rfl ?_
  obtain ⟨f3, hv⟩ := hv
  refine w_lald (pc := 61) C dX10_sinks_61 (St10_k27 f1) (inbl (St10_l27 f1) f3) ?_
  refine w_lcmp_gt (pc := 62) C (tgt := 67) dX10_sinks_62 dX10_sinks_63 (by decide) ?_
  obtain ⟨hv1, hv2⟩ := hv
  refine ⟨fun c4 => ?_, fun c4 => ?_⟩
  · have hv := hv1 c4
    refine w_aload_n (pc := 67) C dX10_sinks_67 rfl ?_
    refine w_getR (pc := 68) C fl_X10_86 rfl dX10_sinks_68 (St10_k f1) (St10_r27 f1) ?_
    refine w_iload_n (pc := 71) C dX10_sinks_71 rfl ?_
    refine w_lald (pc := 72) C dX10_sinks_72 (St10_k27 f1) (inbl (St10_l27 f1) f3) ?_
    refine w_lstore (pc := 73) C dX10_sinks_73 (by decide) ?_
    refine w_aload_n (pc := 75) C dX10_sinks_75 rfl ?_
    refine w_getR (pc := 76) C fl_X10_86 rfl dX10_sinks_76 (St10_k f1) (St10_r27 f1) ?_
    refine w_iload_n (pc := 79) C dX10_sinks_79 rfl ?_
    refine w_aload_n (pc := 80) C dX10_sinks_80 rfl ?_
    refine w_getR (pc := 81) C fl_X10_86 rfl dX10_sinks_81 (St10_k f1) (St10_r27 f1) ?_
    refine w_iload (pc := 84) C dX10_sinks_84 rfl ?_
    refine w_lald (pc := 86) C dX10_sinks_86 (St10_k27 f1) (inbl (St10_l27 f1) f2) ?_
    refine w_last (pc := 87) C dX10_sinks_87 (St10_k27 f1) (inbl (St10_l27 f1) f3) ?_
    refine w_aload_n (pc := 88) C dX10_sinks_88 rfl ?_
    refine w_getR (pc := 89) C fl_X10_86 rfl dX10_sinks_89 (St10_k f1) (St10_r27 f1) ?_
    refine w_iload (pc := 92) C dX10_sinks_92 rfl ?_
    refine w_lload (pc := 94) C dX10_sinks_94 rfl ?_
    refine w_last (pc := 96) C dX10_sinks_96 (St10_k27 f1) (inbl (St10_l27 f1) f2) ?_
    refine w_iload (pc := 97) C dX10_sinks_97 rfl ?_
    refine w_istore_n (pc := 99) C dX10_sinks_99 (by decide) ?_
    refine w_goto (pc := 100) C (tgt := 2) dX10_sinks_100 (by decide) ?_
    refine w_sub ?_ hv
    exact ⟨rfl, rfl, rfl, trivial⟩
  · have hv := hv2 c4
    exact w_vret (pc := 66) C dX10_sinks_66 hv
theorem dX10_sorts_0 : decode cX10_sorts 0 = .ok (.aload_n 0, 1) := by decide +kernel
theorem dX10_sorts_1 : decode cX10_sorts 1 = .ok (.getfield 300, 3) := by decide +kernel
theorem dX10_sorts_4 : decode cX10_sorts 4 = .ok (.iconst 2, 1) := by decide +kernel
theorem dX10_sorts_5 : decode cX10_sorts 5 = .ok (.idiv, 1) := by decide +kernel
theorem dX10_sorts_6 : decode cX10_sorts 6 = .ok (.iconst 1, 1) := by decide +kernel
theorem dX10_sorts_7 : decode cX10_sorts 7 = .ok (.isub, 1) := by decide +kernel
theorem dX10_sorts_8 : decode cX10_sorts 8 = .ok (.istore_n 1, 1) := by decide +kernel
theorem dX10_sorts_9 : decode cX10_sorts 9 = .ok (.iload_n 1, 1) := by decide +kernel
theorem dX10_sorts_10 : decode cX10_sorts 10 = .ok (.ifCond .lt 18, 3) := by decide +kernel
theorem dX10_sorts_13 : decode cX10_sorts 13 = .ok (.aload_n 0, 1) := by decide +kernel
theorem dX10_sorts_14 : decode cX10_sorts 14 = .ok (.iload_n 1, 1) := by decide +kernel
theorem dX10_sorts_15 : decode cX10_sorts 15 = .ok (.aload_n 0, 1) := by decide +kernel
theorem dX10_sorts_16 : decode cX10_sorts 16 = .ok (.getfield 300, 3) := by decide +kernel
theorem dX10_sorts_19 : decode cX10_sorts 19 = .ok (.invokevirtual 303, 3) := by decide +kernel
theorem dX10_sorts_22 : decode cX10_sorts 22 = .ok (.iinc 1 (-1), 3) := by decide +kernel
theorem dX10_sorts_25 : decode cX10_sorts 25 = .ok (.goto (-16), 3) := by decide +kernel
theorem dX10_sorts_28 : decode cX10_sorts 28 = .ok (.aload_n 0, 1) := by decide +kernel
theorem dX10_sorts_29 : decode cX10_sorts 29 = .ok (.getfield 300, 3) := by decide +kernel
theorem dX10_sorts_32 : decode cX10_sorts 32 = .ok (.iconst 1, 1) := by decide +kernel
theorem dX10_sorts_33 : decode cX10_sorts 33 = .ok (.isub, 1) := by decide +kernel
theorem dX10_sorts_34 : decode cX10_sorts 34 = .ok (.istore_n 1, 1) := by decide +kernel
theorem dX10_sorts_35 : decode cX10_sorts 35 = .ok (.iload_n 1, 1) := by decide +kernel
theorem dX10_sorts_36 : decode cX10_sorts 36 = .ok (.ifCond .le 41, 3) := by decide +kernel
theorem dX10_sorts_39 : decode cX10_sorts 39 = .ok (.aload_n 0, 1) := by decide +kernel
theorem dX10_sorts_40 : decode cX10_sorts 40 = .ok (.getfield 86, 3) := by decide +kernel
theorem dX10_sorts_43 : decode cX10_sorts 43 = .ok (.iconst 0, 1) := by decide +kernel
theorem dX10_sorts_44 : decode cX10_sorts 44 = .ok (.laload, 1) := by decide +kernel
theorem dX10_sorts_45 : decode cX10_sorts 45 = .ok (.lstore_n 2, 1) := by decide +kernel
theorem dX10_sorts_46 : decode cX10_sorts 46 = .ok (.aload_n 0, 1) := by decide +kernel
theorem dX10_sorts_47 : decode cX10_sorts 47 = .ok (.getfield 86, 3) := by decide +kernel
theorem dX10_sorts_50 : decode cX10_sorts 50 = .ok (.iconst 0, 1) := by decide +kernel
theorem dX10_sorts_51 : decode cX10_sorts 51 = .ok (.aload_n 0, 1) := by decide +kernel
theorem dX10_sorts_52 : decode cX10_sorts 52 = .ok (.getfield 86, 3) := by decide +kernel
theorem dX10_sorts_55 : decode cX10_sorts 55 = .ok (.iload_n 1, 1) := by decide +kernel
theorem dX10_sorts_56 : decode cX10_sorts 56 = .ok (.laload, 1) := by decide +kernel
theorem dX10_sorts_57 : decode cX10_sorts 57 = .ok (.lastore, 1) := by decide +kernel
theorem dX10_sorts_58 : decode cX10_sorts 58 = .ok (.aload_n 0, 1) := by decide +kernel
theorem dX10_sorts_59 : decode cX10_sorts 59 = .ok (.getfield 86, 3) := by decide +kernel
theorem dX10_sorts_62 : decode cX10_sorts 62 = .ok (.iload_n 1, 1) := by decide +kernel
theorem dX10_sorts_63 : decode cX10_sorts 63 = .ok (.lload_n 2, 1) := by decide +kernel
theorem dX10_sorts_64 : decode cX10_sorts 64 = .ok (.lastore, 1) := by decide +kernel
theorem dX10_sorts_65 : decode cX10_sorts 65 = .ok (.aload_n 0, 1) := by decide +kernel
theorem dX10_sorts_66 : decode cX10_sorts 66 = .ok (.iconst 0, 1) := by decide +kernel
theorem dX10_sorts_67 : decode cX10_sorts 67 = .ok (.iload_n 1, 1) := by decide +kernel
theorem dX10_sorts_68 : decode cX10_sorts 68 = .ok (.invokevirtual 303, 3) := by decide +kernel
theorem dX10_sorts_71 : decode cX10_sorts 71 = .ok (.iinc 1 (-1), 3) := by decide +kernel
theorem dX10_sorts_74 : decode cX10_sorts 74 = .ok (.goto (-39), 3) := by decide +kernel
theorem dX10_sorts_77 : decode cX10_sorts 77 = .ok (.return_, 1) := by decide +kernel
set_option maxRecDepth 20000 in
set_option maxHeartbeats 2000000 in
theorem V_X10_sorts_0 {X : Ctx} (C : C_X10_sorts X) {k n : Nat} {Q : Pq} {h : Hp} {v0 : Nat}
    (hv : St10 h v0 ∧ Wj X k n Q 9 [(0, .ref v0), (1, .int (((gi h v0 28) / 2) - 1))] [] h) :
    Wj X k n Q 0 [(0, .ref v0)] [] h := by
  refine w_aload_n (pc := 0) C dX10_sorts_0 rfl ?_
  obtain ⟨f1, hv⟩ := hv
  refine w_getI (pc := 1) C fl_X10_300 rfl dX10_sorts_1 (St10_k f1) ?_
  refine w_iconst (pc := 4) C (v := 2) dX10_sorts_4 (by decide) ?_
  refine w_idiv (pc := 5) C dX10_sorts_5 (by decide) ?_
  refine w_iconst (pc := 6) C (v := 1) dX10_sorts_6 (by decide) ?_
  refine w_isub (pc := 7) C dX10_sorts_7 ?_
  refine w_istore_n (pc := 8) C dX10_sorts_8 (by decide) ?_
  refine w_sub ?_ hv
  exact ⟨rfl, rfl, trivial⟩
set_option maxRecDepth 20000 in
set_option maxHeartbeats 2000000 in
theorem V_X10_sorts_9 {X : Ctx} (C : C_X10_sorts X) {k n : Nat} {Q : Pq} {h : Hp} {v0 : Nat} {v1 : Int32}
    (hv : ((v1 < 0 → St10 h v0 ∧ Wj X k n Q 35 [(0, .ref v0), (1, .int ((gi h v0 28) - 1))] [] h) ∧
    (¬ v1 < 0 → St10 h v0 ∧ S_X10_sinks (lX X) (dtX X) 0 0 [.ref v0, .int v1, .int (gi h v0 28)] h (QV fun h3 =>
    Wj X k n Q 9 [(0, .ref v0), (1, .int (v1 + Int32.ofInt (-1)))] [] h3)))) :
    Wj X k n Q 9 [(0, .ref v0), (1, .int v1)] [] h := by
  refine w_iload_n (pc := 9) C dX10_sorts_9 rfl ?_
  refine w_if_lt (pc := 10) C (tgt := 28) dX10_sorts_10 (by decide) ?_
  obtain ⟨hv1, hv2⟩ := hv
  refine ⟨fun c4 => ?_, fun c4 => ?_⟩
  · have hv := hv1 c4
    refine w_aload_n (pc := 28) C dX10_sorts_28 rfl ?_
    obtain ⟨f1, hv⟩ := hv
    refine w_getI (pc := 29) C fl_X10_300 rfl dX10_sorts_29 (St10_k f1) ?_
    refine w_iconst (pc := 32) C (v := 1) dX10_sorts_32 (by decide) ?_
    refine w_isub (pc := 33) C dX10_sorts_33 ?_
    refine w_istore_n (pc := 34) C dX10_sorts_34 (by decide) ?_
    refine w_sub ?_ hv
    exact ⟨rfl, rfl, trivial⟩
  · have hv := hv2 c4
    refine w_aload_n (pc := 13) C dX10_sorts_13 rfl ?_
    refine w_iload_n (pc := 14) C dX10_sorts_14 rfl ?_
    refine w_aload_n (pc := 15) C dX10_sorts_15 rfl ?_
    obtain ⟨f2, hv⟩ := hv
    refine w_getI (pc := 16) C fl_X10_300 rfl dX10_sorts_16 (St10_k f2) ?_
    refine w_cV0_2 (pc := 19) C cl_X10_303 lv_X10_sinks (by decide) dX10_sorts_19 (Nat.le_of_ble_eq_true rfl) (c := 10) rfl (St10_k f2) (hv.mono (fun v h3 hp => ?_))
    obtain ⟨rfl, hv⟩ := hp
    refine w_iinc (pc := 22) C dX10_sorts_22 rfl (by decide) ?_
    refine w_goto (pc := 25) C (tgt := 9) dX10_sorts_25 (by decide) ?_
    refine w_sub ?_ hv
    exact ⟨rfl, rfl, trivial⟩
set_option maxRecDepth 20000 in
set_option maxHeartbeats 2000000 in
theorem V_X10_sorts_35 {X : Ctx} (C : C_X10_sorts X) {k n : Nat} {Q : Pq} {h : Hp} {v0 : Nat} {v1 : Int32}
    (hv : ((v1 ≤ 0 → Q none h) ∧
    (¬ v1 ≤ 0 → St10 h v0 ∧ inb v1 12100 ∧ S_X10_sinks (lX X) (dtX X) 0 0 [.ref v0, .int 0, .int v1] (sl (sl h (v0 + 9) (ix 0) (gl h (v0 + 9) (ix v1))) (v0 + 9) (ix v1) (gl h (v0 + 9) (ix 0))) (QV fun h3 =>
    Wj X k n Q 35 [(0, .ref v0), (1, .int (v1 + Int32.ofInt (-1)))] [] h3)))) :
    Wj X k n Q 35 [(0, .ref v0), (1, .int v1)] [] h := by
  refine w_iload_n (pc := 35) C dX10_sorts_35 rfl ?_
  refine w_if_le (pc := 36) C (tgt := 77) dX10_sorts_36 (by decide) ?_
  obtain ⟨hv1, hv2⟩ := hv
  refine ⟨fun c4 => ?_, fun c4 => ?_⟩
  · have hv := hv1 c4
    exact w_vret (pc := 77) C dX10_sorts_77 hv
  · have hv := hv2 c4
    refine w_aload_n (pc := 39) C dX10_sorts_39 rfl ?_
    obtain ⟨f1, hv⟩ := hv
    refine w_getR (pc := 40) C fl_X10_86 rfl dX10_sorts_40 (St10_k f1) (St10_r27 f1) ?_
    refine w_iconst (pc := 43) C (v := 0) dX10_sorts_43 (by decide) ?_
    refine w_lald (pc := 44) C dX10_sorts_44 (St10_k27 f1) (inbl (St10_l27 f1) (inbd (by decide))) ?_
    refine w_lstore_n (pc := 45) C dX10_sorts_45 (by decide) ?_
    refine w_aload_n (pc := 46) C dX10_sorts_46 rfl ?_
    refine w_getR (pc := 47) C fl_X10_86 rfl dX10_sorts_47 (St10_k f1) (St10_r27 f1) ?_
    refine w_iconst (pc := 50) C (v := 0) dX10_sorts_50 (by decide) ?_
    refine w_aload_n (pc := 51) C dX10_sorts_51 rfl ?_
    refine w_getR (pc := 52) C fl_X10_86 rfl dX10_sorts_52 (St10_k f1) (St10_r27 f1) ?_
    refine w_iload_n (pc := 55) C dX10_sorts_55 rfl ?_
    obtain ⟨f2, hv⟩ := hv
    refine w_lald (pc := 56) C dX10_sorts_56 (St10_k27 f1) (inbl (St10_l27 f1) f2) ?_
    refine w_last (pc := 57) C dX10_sorts_57 (St10_k27 f1) (inbl (St10_l27 f1) (inbd (by decide))) ?_
    refine w_aload_n (pc := 58) C dX10_sorts_58 rfl ?_
    refine w_getR (pc := 59) C fl_X10_86 rfl dX10_sorts_59 (St10_k f1) (St10_r27 f1) ?_
    refine w_iload_n (pc := 62) C dX10_sorts_62 rfl ?_
    refine w_lload_n (pc := 63) C dX10_sorts_63 rfl ?_
    refine w_last (pc := 64) C dX10_sorts_64 (St10_k27 f1) (inbl (St10_l27 f1) f2) ?_
    refine w_aload_n (pc := 65) C dX10_sorts_65 rfl ?_
    refine w_iconst (pc := 66) C (v := 0) dX10_sorts_66 (by decide) ?_
    refine w_iload_n (pc := 67) C dX10_sorts_67 rfl ?_
    refine w_cV0_2 (pc := 68) C cl_X10_303 lv_X10_sinks (by decide) dX10_sorts_68 (Nat.le_of_ble_eq_true rfl) (c := 10) rfl (St10_k f1) (hv.mono (fun v h3 hp => ?_))
    obtain ⟨rfl, hv⟩ := hp
    refine w_iinc (pc := 71) C dX10_sorts_71 rfl (by decide) ?_
    refine w_goto (pc := 74) C (tgt := 35) dX10_sorts_74 (by decide) ?_
    refine w_sub ?_ hv
    exact ⟨rfl, rfl, trivial⟩
theorem dX10_ratios_0 : decode cX10_ratios 0 = .ok (.aload_n 0, 1) := by decide +kernel
theorem dX10_ratios_1 : decode cX10_ratios 1 = .ok (.iconst 0, 1) := by decide +kernel
theorem dX10_ratios_2 : decode cX10_ratios 2 = .ok (.putfield 1, 3) := by decide +kernel
theorem dX10_ratios_5 : decode cX10_ratios 5 = .ok (.aload_n 0, 1) := by decide +kernel
theorem dX10_ratios_6 : decode cX10_ratios 6 = .ok (.invokevirtual 162, 3) := by decide +kernel
theorem dX10_ratios_9 : decode cX10_ratios 9 = .ok (.iconst 2, 1) := by decide +kernel
theorem dX10_ratios_10 : decode cX10_ratios 10 = .ok (.if_icmp .ge 6, 3) := by decide +kernel
theorem dX10_ratios_13 : decode cX10_ratios 13 = .ok (.bipush (-2), 2) := by decide +kernel
theorem dX10_ratios_15 : decode cX10_ratios 15 = .ok (.ireturn, 1) := by decide +kernel
theorem dX10_ratios_16 : decode cX10_ratios 16 = .ok (.aload_n 0, 1) := by decide +kernel
theorem dX10_ratios_17 : decode cX10_ratios 17 = .ok (.iconst 0, 1) := by decide +kernel
theorem dX10_ratios_18 : decode cX10_ratios 18 = .ok (.putfield 300, 3) := by decide +kernel
theorem dX10_ratios_21 : decode cX10_ratios 21 = .ok (.aload_n 0, 1) := by decide +kernel
theorem dX10_ratios_22 : decode cX10_ratios 22 = .ok (.iconst 0, 1) := by decide +kernel
theorem dX10_ratios_23 : decode cX10_ratios 23 = .ok (.putfield 217, 3) := by decide +kernel
theorem dX10_ratios_26 : decode cX10_ratios 26 = .ok (.aload_n 0, 1) := by decide +kernel
theorem dX10_ratios_27 : decode cX10_ratios 27 = .ok (.invokevirtual 233, 3) := by decide +kernel
theorem dX10_ratios_30 : decode cX10_ratios 30 = .ok (.ifCond .eq 54, 3) := by decide +kernel
theorem dX10_ratios_33 : decode cX10_ratios 33 = .ok (.aload_n 0, 1) := by decide +kernel
theorem dX10_ratios_34 : decode cX10_ratios 34 = .ok (.invokevirtual 236, 3) := by decide +kernel
theorem dX10_ratios_37 : decode cX10_ratios 37 = .ok (.aload_n 0, 1) := by decide +kernel
theorem dX10_ratios_38 : decode cX10_ratios 38 = .ok (.invokevirtual 240, 3) := by decide +kernel
theorem dX10_ratios_41 : decode cX10_ratios 41 = .ok (.invokestatic 14, 3) := by decide +kernel
theorem dX10_ratios_44 : decode cX10_ratios 44 = .ok (.lstore_n 1, 1) := by decide +kernel
theorem dX10_ratios_45 : decode cX10_ratios 45 = .ok (.aload_n 0, 1) := by decide +kernel
theorem dX10_ratios_46 : decode cX10_ratios 46 = .ok (.getfield 86, 3) := by decide +kernel
theorem dX10_ratios_49 : decode cX10_ratios 49 = .ok (.aload_n 0, 1) := by decide +kernel
theorem dX10_ratios_50 : decode cX10_ratios 50 = .ok (.getfield 300, 3) := by decide +kernel
theorem dX10_ratios_53 : decode cX10_ratios 53 = .ok (.aload_n 0, 1) := by decide +kernel
theorem dX10_ratios_54 : decode cX10_ratios 54 = .ok (.invokevirtual 236, 3) := by decide +kernel
theorem dX10_ratios_57 : decode cX10_ratios 57 = .ok (.lload_n 1, 1) := by decide +kernel
theorem dX10_ratios_58 : decode cX10_ratios 58 = .ok (.ldiv, 1) := by decide +kernel
theorem dX10_ratios_59 : decode cX10_ratios 59 = .ok (.ldc2_w 306, 3) := by decide +kernel
theorem dX10_ratios_62 : decode cX10_ratios 62 = .ok (.lmul, 1) := by decide +kernel
theorem dX10_ratios_63 : decode cX10_ratios 63 = .ok (.aload_n 0, 1) := by decide +kernel
theorem dX10_ratios_64 : decode cX10_ratios 64 = .ok (.invokevirtual 240, 3) := by decide +kernel
theorem dX10_ratios_67 : decode cX10_ratios 67 = .ok (.lload_n 1, 1) := by decide +kernel
theorem dX10_ratios_68 : decode cX10_ratios 68 = .ok (.ldiv, 1) := by decide +kernel
theorem dX10_ratios_69 : decode cX10_ratios 69 = .ok (.ladd, 1) := by decide +kernel
theorem dX10_ratios_70 : decode cX10_ratios 70 = .ok (.lastore, 1) := by decide +kernel
theorem dX10_ratios_71 : decode cX10_ratios 71 = .ok (.aload_n 0, 1) := by decide +kernel
theorem dX10_ratios_72 : decode cX10_ratios 72 = .ok (.dup, 1) := by decide +kernel
theorem dX10_ratios_73 : decode cX10_ratios 73 = .ok (.getfield 300, 3) := by decide +kernel
theorem dX10_ratios_76 : decode cX10_ratios 76 = .ok (.iconst 1, 1) := by decide +kernel
theorem dX10_ratios_77 : decode cX10_ratios 77 = .ok (.iadd, 1) := by decide +kernel
theorem dX10_ratios_78 : decode cX10_ratios 78 = .ok (.putfield 300, 3) := by decide +kernel
theorem dX10_ratios_81 : decode cX10_ratios 81 = .ok (.goto (-55), 3) := by decide +kernel
theorem dX10_ratios_84 : decode cX10_ratios 84 = .ok (.aload_n 0, 1) := by decide +kernel
theorem dX10_ratios_85 : decode cX10_ratios 85 = .ok (.invokevirtual 308, 3) := by decide +kernel
theorem dX10_ratios_88 : decode cX10_ratios 88 = .ok (.iconst 0, 1) := by decide +kernel
theorem dX10_ratios_89 : decode cX10_ratios 89 = .ok (.istore_n 1, 1) := by decide +kernel
theorem dX10_ratios_90 : decode cX10_ratios 90 = .ok (.aload_n 0, 1) := by decide +kernel
theorem dX10_ratios_91 : decode cX10_ratios 91 = .ok (.getfield 86, 3) := by decide +kernel
theorem dX10_ratios_94 : decode cX10_ratios 94 = .ok (.iconst 0, 1) := by decide +kernel
theorem dX10_ratios_95 : decode cX10_ratios 95 = .ok (.laload, 1) := by decide +kernel
theorem dX10_ratios_96 : decode cX10_ratios 96 = .ok (.lstore_n 2, 1) := by decide +kernel
theorem dX10_ratios_97 : decode cX10_ratios 97 = .ok (.aload_n 0, 1) := by decide +kernel
theorem dX10_ratios_98 : decode cX10_ratios 98 = .ok (.getfield 86, 3) := by decide +kernel
theorem dX10_ratios_101 : decode cX10_ratios 101 = .ok (.iconst 0, 1) := by decide +kernel
theorem dX10_ratios_102 : decode cX10_ratios 102 = .ok (.laload, 1) := by decide +kernel
theorem dX10_ratios_103 : decode cX10_ratios 103 = .ok (.lstore 4, 2) := by decide +kernel
theorem dX10_ratios_105 : decode cX10_ratios 105 = .ok (.iconst 0, 1) := by decide +kernel
theorem dX10_ratios_106 : decode cX10_ratios 106 = .ok (.istore 6, 2) := by decide +kernel
theorem dX10_ratios_108 : decode cX10_ratios 108 = .ok (.iload 6, 2) := by decide +kernel
theorem dX10_ratios_110 : decode cX10_ratios 110 = .ok (.aload_n 0, 1) := by decide +kernel
theorem dX10_ratios_111 : decode cX10_ratios 111 = .ok (.getfield 300, 3) := by decide +kernel
theorem dX10_ratios_114 : decode cX10_ratios 114 = .ok (.if_icmp .ge 100, 3) := by decide +kernel
theorem dX10_ratios_117 : decode cX10_ratios 117 = .ok (.iload_n 1, 1) := by decide +kernel
theorem dX10_ratios_118 : decode cX10_ratios 118 = .ok (.iload 6, 2) := by decide +kernel
theorem dX10_ratios_120 : decode cX10_ratios 120 = .ok (.ifCond .eq 23, 3) := by decide +kernel
theorem dX10_ratios_123 : decode cX10_ratios 123 = .ok (.aload_n 0, 1) := by decide +kernel
theorem dX10_ratios_124 : decode cX10_ratios 124 = .ok (.getfield 86, 3) := by decide +kernel
theorem dX10_ratios_127 : decode cX10_ratios 127 = .ok (.iload 6, 2) := by decide +kernel
theorem dX10_ratios_129 : decode cX10_ratios 129 = .ok (.laload, 1) := by decide +kernel
theorem dX10_ratios_130 : decode cX10_ratios 130 = .ok (.aload_n 0, 1) := by decide +kernel
theorem dX10_ratios_131 : decode cX10_ratios 131 = .ok (.getfield 86, 3) := by decide +kernel
theorem dX10_ratios_134 : decode cX10_ratios 134 = .ok (.iload 6, 2) := by decide +kernel
theorem dX10_ratios_136 : decode cX10_ratios 136 = .ok (.iconst 1, 1) := by decide +kernel
theorem dX10_ratios_137 : decode cX10_ratios 137 = .ok (.isub, 1) := by decide +kernel
theorem dX10_ratios_138 : decode cX10_ratios 138 = .ok (.laload, 1) := by decide +kernel
theorem dX10_ratios_139 : decode cX10_ratios 139 = .ok (.lcmp, 1) := by decide +kernel
theorem dX10_ratios_140 : decode cX10_ratios 140 = .ok (.ifCond .eq 7, 3) := by decide +kernel
theorem dX10_ratios_143 : decode cX10_ratios 143 = .ok (.iconst 1, 1) := by decide +kernel
theorem dX10_ratios_144 : decode cX10_ratios 144 = .ok (.goto 4, 3) := by decide +kernel
theorem dX10_ratios_147 : decode cX10_ratios 147 = .ok (.iconst 0, 1) := by decide +kernel
theorem dX10_ratios_148 : decode cX10_ratios 148 = .ok (.invokestatic 39, 3) := by decide +kernel
theorem dX10_ratios_151 : decode cX10_ratios 151 = .ok (.iadd, 1) := by decide +kernel
theorem dX10_ratios_152 : decode cX10_ratios 152 = .ok (.istore_n 1, 1) := by decide +kernel
theorem dX10_ratios_153 : decode cX10_ratios 153 = .ok (.aload_n 0, 1) := by decide +kernel
theorem dX10_ratios_154 : decode cX10_ratios 154 = .ok (.getfield 86, 3) := by decide +kernel
theorem dX10_ratios_157 : decode cX10_ratios 157 = .ok (.iload 6, 2) := by decide +kernel
theorem dX10_ratios_159 : decode cX10_ratios 159 = .ok (.laload, 1) := by decide +kernel
theorem dX10_ratios_160 : decode cX10_ratios 160 = .ok (.lload_n 2, 1) := by decide +kernel
theorem dX10_ratios_161 : decode cX10_ratios 161 = .ok (.invokestatic 311, 3) := by decide +kernel
theorem dX10_ratios_164 : decode cX10_ratios 164 = .ok (.ifCond .eq 13, 3) := by decide +kernel
theorem dX10_ratios_167 : decode cX10_ratios 167 = .ok (.aload_n 0, 1) := by decide +kernel
theorem dX10_ratios_168 : decode cX10_ratios 168 = .ok (.getfield 86, 3) := by decide +kernel
theorem dX10_ratios_171 : decode cX10_ratios 171 = .ok (.iload 6, 2) := by decide +kernel
theorem dX10_ratios_173 : decode cX10_ratios 173 = .ok (.laload, 1) := by decide +kernel
theorem dX10_ratios_174 : decode cX10_ratios 174 = .ok (.goto 4, 3) := by decide +kernel
theorem dX10_ratios_177 : decode cX10_ratios 177 = .ok (.lload_n 2, 1) := by decide +kernel
theorem dX10_ratios_178 : decode cX10_ratios 178 = .ok (.lstore_n 2, 1) := by decide +kernel
theorem dX10_ratios_179 : decode cX10_ratios 179 = .ok (.lload 4, 2) := by decide +kernel
theorem dX10_ratios_181 : decode cX10_ratios 181 = .ok (.aload_n 0, 1) := by decide +kernel
theorem dX10_ratios_182 : decode cX10_ratios 182 = .ok (.getfield 86, 3) := by decide +kernel
theorem dX10_ratios_185 : decode cX10_ratios 185 = .ok (.iload 6, 2) := by decide +kernel
theorem dX10_ratios_187 : decode cX10_ratios 187 = .ok (.laload, 1) := by decide +kernel
theorem dX10_ratios_188 : decode cX10_ratios 188 = .ok (.invokestatic 311, 3) := by decide +kernel
theorem dX10_ratios_191 : decode cX10_ratios 191 = .ok (.ifCond .eq 13, 3) := by decide +kernel
theorem dX10_ratios_194 : decode cX10_ratios 194 = .ok (.aload_n 0, 1) := by decide +kernel
theorem dX10_ratios_195 : decode cX10_ratios 195 = .ok (.getfield 86, 3) := by decide +kernel
theorem dX10_ratios_198 : decode cX10_ratios 198 = .ok (.iload 6, 2) := by decide +kernel
theorem dX10_ratios_200 : decode cX10_ratios 200 = .ok (.laload, 1) := by decide +kernel
theorem dX10_ratios_201 : decode cX10_ratios 201 = .ok (.goto 5, 3) := by decide +kernel
theorem dX10_ratios_204 : decode cX10_ratios 204 = .ok (.lload 4, 2) := by decide +kernel
theorem dX10_ratios_206 : decode cX10_ratios 206 = .ok (.lstore 4, 2) := by decide +kernel
theorem dX10_ratios_208 : decode cX10_ratios 208 = .ok (.iinc 6 1, 3) := by decide +kernel
theorem dX10_ratios_211 : decode cX10_ratios 211 = .ok (.goto (-103), 3) := by decide +kernel
theorem dX10_ratios_214 : decode cX10_ratios 214 = .ok (.aload_n 0, 1) := by decide +kernel
theorem dX10_ratios_215 : decode cX10_ratios 215 = .ok (.iconst 0, 1) := by decide +kernel
theorem dX10_ratios_216 : decode cX10_ratios 216 = .ok (.putfield 11, 3) := by decide +kernel
theorem dX10_ratios_219 : decode cX10_ratios 219 = .ok (.aload_n 0, 1) := by decide +kernel
theorem dX10_ratios_220 : decode cX10_ratios 220 = .ok (.lload_n 2, 1) := by decide +kernel
theorem dX10_ratios_221 : decode cX10_ratios 221 = .ok (.ldc2_w 306, 3) := by decide +kernel
theorem dX10_ratios_224 : decode cX10_ratios 224 = .ok (.ldiv, 1) := by decide +kernel
theorem dX10_ratios_225 : decode cX10_ratios 225 = .ok (.lload_n 2, 1) := by decide +kernel
theorem dX10_ratios_226 : decode cX10_ratios 226 = .ok (.ldc2_w 306, 3) := by decide +kernel
theorem dX10_ratios_229 : decode cX10_ratios 229 = .ok (.lrem, 1) := by decide +kernel
theorem dX10_ratios_230 : decode cX10_ratios 230 = .ok (.invokevirtual 284, 3) := by decide +kernel
theorem dX10_ratios_233 : decode cX10_ratios 233 = .ok (.aload_n 0, 1) := by decide +kernel
theorem dX10_ratios_234 : decode cX10_ratios 234 = .ok (.lload 4, 2) := by decide +kernel
theorem dX10_ratios_236 : decode cX10_ratios 236 = .ok (.ldc2_w 306, 3) := by decide +kernel
theorem dX10_ratios_239 : decode cX10_ratios 239 = .ok (.ldiv, 1) := by decide +kernel
theorem dX10_ratios_240 : decode cX10_ratios 240 = .ok (.lload 4, 2) := by decide +kernel
theorem dX10_ratios_242 : decode cX10_ratios 242 = .ok (.ldc2_w 306, 3) := by decide +kernel
theorem dX10_ratios_245 : decode cX10_ratios 245 = .ok (.lrem, 1) := by decide +kernel
theorem dX10_ratios_246 : decode cX10_ratios 246 = .ok (.invokevirtual 284, 3) := by decide +kernel
theorem dX10_ratios_249 : decode cX10_ratios 249 = .ok (.iload_n 1, 1) := by decide +kernel
theorem dX10_ratios_250 : decode cX10_ratios 250 = .ok (.ireturn, 1) := by decide +kernel
set_option maxRecDepth 20000 in
set_option maxHeartbeats 2000000 in
theorem V_X10_ratios_0 {X : Ctx} (C : C_X10_ratios X) {k n : Nat} {Q : Pq} {h : Hp} {v0 : Nat}
    (hv : St10 h v0 ∧ ((2 ≤ (gi (si h v0 0 0) (v0 + 3) (ix 4)) → Wj X k n Q 26 [(0, .ref v0)] [] (si (si (si h v0 0 0) v0 28 0) v0 18 0)) ∧
    (¬ 2 ≤ (gi (si h v0 0 0) (v0 + 3) (ix 4)) → Q (some (.int (-2))) (si h v0 0 0)))) :
    Wj X k n Q 0 [(0, .ref v0)] [] h := by
  refine w_aload_n (pc := 0) C dX10_ratios_0 rfl ?_
  refine w_iconst (pc := 1) C (v := 0) dX10_ratios_1 (by decide) ?_
  obtain ⟨f1, hv⟩ := hv
  refine w_putI (pc := 2) C fl_X10_1 rfl rfl dX10_ratios_2 (St10_k f1) ?_
  refine w_aload_n (pc := 5) C dX10_ratios_5 rfl ?_
  refine w_cV0_0 (pc := 6) C cl_X10_162 lv_X10_gearMany (by decide) dX10_ratios_6 (Nat.le_of_ble_eq_true rfl) (c := 10) rfl (St10_k f1) ((sf_X10_gearMany (h := (si h v0 0 0)) f1).mono (fun v h9 hp => ?_))
  obtain ⟨e1, e2⟩ := hp
  rw [e1, e2]
  refine w_iconst (pc := 9) C (v := 2) dX10_ratios_9 (by decide) ?_
  refine w_icmp_ge (pc := 10) C (tgt := 16) dX10_ratios_10 (by decide) ?_
  obtain ⟨hv1, hv2⟩ := hv
  refine ⟨fun c2 => ?_, fun c2 => ?_⟩
  · have hv := hv1 c2
    refine w_aload_n (pc := 16) C dX10_ratios_16 rfl ?_
    refine w_iconst (pc := 17) C (v := 0) dX10_ratios_17 (by decide) ?_
    refine w_putI (pc := 18) C fl_X10_300 rfl rfl dX10_ratios_18 (St10_k f1) ?_
    refine w_aload_n (pc := 21) C dX10_ratios_21 rfl ?_
    refine w_iconst (pc := 22) C (v := 0) dX10_ratios_22 (by decide) ?_
    refine w_putI (pc := 23) C fl_X10_217 rfl rfl dX10_ratios_23 (St10_k f1) ?_
    refine w_sub ?_ hv
    exact ⟨rfl, trivial⟩
  · have hv := hv2 c2
    refine w_bipush (pc := 13) C (v := (-2)) dX10_ratios_13 (by decide) ?_
    exact w_iret (pc := 15) C dX10_ratios_15 hv
set_option maxRecDepth 20000 in
set_option maxHeartbeats 2000000 in
theorem V_X10_ratios_26 {X : Ctx} (C : C_X10_ratios X) {k n : Nat} {Q : Pq} {h : Hp} {v0 : Nat}
    (hv : St10 h v0 ∧ S_X10_nextTrain (lX X) (dtX X) 0 0 [.ref v0] h (QI fun x3 h2 =>
    ((x3 = 0 → St10 h2 v0 ∧ S_X10_sorts (lX X) (dtX X) 0 0 [.ref v0] h2 (QV fun h5 =>
    St10 h5 v0 ∧ Wj X k n Q 108 [(0, .ref v0), (1, .int 0), (2, .long (gl h5 (v0 + 9) (ix 0))), (4, .long (gl h5 (v0 + 9) (ix 0))), (6, .int 0)] [] h5)) ∧
    (¬ x3 = 0 → St10 h2 v0 ∧ inb (41 + gi h2 (v0 + 7) (ix 0)) 732 ∧ (gi h2 v0 18 = 4 → inb (41 + gi h2 (v0 + 7) (ix 2)) 732) ∧ inb (41 + gi h2 (v0 + 7) (ix 1)) 732 ∧ (gi h2 v0 18 = 4 → inb (41 + gi h2 (v0 + 7) (ix 3)) 732) ∧ -9223372036854775807 ≤ (Int64.toInt (mUp h2 v0)) ∧ 0 < (Int64.toInt (mLw h2 v0)) ∧ ¬ (cm (mUp h2 v0) (mLw h2 v0)) = 0 ∧ inb (gi h2 v0 28) 12100 ∧ Wj X k n Q 26 [(0, .ref v0)] [] (si (sl h2 (v0 + 9) (ix (gi h2 v0 28)) ((((mUp h2 v0) / (cm (mUp h2 v0) (mLw h2 v0))) * 1000000) + ((mLw h2 v0) / (cm (mUp h2 v0) (mLw h2 v0))))) v0 28 ((gi h2 v0 28) + 1)))))) :
    Wj X k n Q 26 [(0, .ref v0)] [] h := by
  refine w_aload_n (pc := 26) C dX10_ratios_26 rfl ?_
  obtain ⟨f1, hv⟩ := hv
  refine w_cV0_0 (pc := 27) C cl_X10_233 lv_X10_nextTrain (by decide) dX10_ratios_27 (Nat.le_of_ble_eq_true rfl) (c := 10) rfl (St10_k f1) (hv.mono (fun v h2 hp => ?_))
  obtain ⟨x3, rfl, hv⟩ := hp
  refine w_if_eq (pc := 30) C (tgt := 84) dX10_ratios_30 (by decide) ?_
  obtain ⟨hv1, hv2⟩ := hv
  refine ⟨fun c16 => ?_, fun c16 => ?_⟩
  · have hv := hv1 c16
    refine w_aload_n (pc := 84) C dX10_ratios_84 rfl ?_
    obtain ⟨f4, hv⟩ := hv
    refine w_cV0_0 (pc := 85) C cl_X10_308 lv_X10_sorts (by decide) dX10_ratios_85 (Nat.le_of_ble_eq_true rfl) (c := 10) rfl (St10_k f4) (hv.mono (fun v h5 hp => ?_))
    obtain ⟨rfl, hv⟩ := hp
    refine w_iconst (pc := 88) C (v := 0) dX10_ratios_88 (by decide) ?_
    refine w_istore_n (pc := 89) C dX10_ratios_89 (by decide) ?_
    refine w_aload_n (pc := 90) C dX10_ratios_90 rfl ?_
    obtain ⟨f6, hv⟩ := hv
    refine w_getR (pc := 91) C fl_X10_86 rfl dX10_ratios_91 (St10_k f6) (St10_r27 f6) ?_
    refine w_iconst (pc := 94) C (v := 0) dX10_ratios_94 (by decide) ?_
    refine w_lald (pc := 95) C dX10_ratios_95 (St10_k27 f6) (inbl (St10_l27 f6) (inbd (by decide))) ?_
    refine w_lstore_n (pc := 96) C dX10_ratios_96 (by decide) ?_
    refine w_aload_n (pc := 97) C dX10_ratios_97 rfl ?_
    refine w_getR (pc := 98) C fl_X10_86 rfl dX10_ratios_98 (St10_k f6) (St10_r27 f6) ?_
    refine w_iconst (pc := 101) C (v := 0) dX10_ratios_101 (by decide) ?_
    refine w_lald (pc := 102) C dX10_ratios_102 (St10_k27 f6) (inbl (St10_l27 f6) (inbd (by decide))) ?_
    refine w_lstore (pc := 103) C dX10_ratios_103 (by decide) ?_
    refine w_iconst (pc := 105) C (v := 0) dX10_ratios_105 (by decide) ?_
    refine w_istore (pc := 106) C dX10_ratios_106 (by decide) ?_
    refine w_sub ?_ hv
    exact ⟨rfl, rfl, rfl, rfl, rfl, trivial⟩
  · have hv := hv2 c16
    refine w_aload_n (pc := 33) C dX10_ratios_33 rfl ?_
    obtain ⟨f7, hv⟩ := hv
    obtain ⟨f8, hv⟩ := hv
    obtain ⟨f9, hv⟩ := hv
    refine w_cV0_0 (pc := 34) C cl_X10_236 lv_X10_upper (by decide) dX10_ratios_34 (Nat.le_of_ble_eq_true rfl) (c := 10) rfl (St10_k f7) ((sf_X10_upper (h := h2) f7 f8 f9).mono (fun v h9 hp => ?_))
    obtain ⟨e1, e2⟩ := hp
    rw [e1, e2]
    refine w_aload_n (pc := 37) C dX10_ratios_37 rfl ?_
    obtain ⟨f10, hv⟩ := hv
    obtain ⟨f11, hv⟩ := hv
    refine w_cV0_0 (pc := 38) C cl_X10_240 lv_X10_lower (by decide) dX10_ratios_38 (Nat.le_of_ble_eq_true rfl) (c := 10) rfl (St10_k f7) ((sf_X10_lower (h := h2) f7 f10 f11).mono (fun v h9 hp => ?_))
    obtain ⟨e1, e2⟩ := hp
    rw [e1, e2]
    obtain ⟨f12, hv⟩ := hv
    obtain ⟨f13, hv⟩ := hv
    refine w_cS0_2 (pc := 41) C cl_X10_14 ls_X10_common (by decide) dX10_ratios_41 (Nat.le_of_ble_eq_true rfl) ((sf_X10_common (h := h2) f12 f13).mono (fun v h9 hp => ?_))
    obtain ⟨e1, e2⟩ := hp
    rw [e1, e2]
    refine w_lstore_n (pc := 44) C dX10_ratios_44 (by decide) ?_
    refine w_aload_n (pc := 45) C dX10_ratios_45 rfl ?_
    refine w_getR (pc := 46) C fl_X10_86 rfl dX10_ratios_46 (St10_k f7) (St10_r27 f7) ?_
    refine w_aload_n (pc := 49) C dX10_ratios_49 rfl ?_
    refine w_getI (pc := 50) C fl_X10_300 rfl dX10_ratios_50 (St10_k f7) ?_
    refine w_aload_n (pc := 53) C dX10_ratios_53 rfl ?_
    refine w_cV0_0 (pc := 54) C cl_X10_236 lv_X10_upper (by decide) dX10_ratios_54 (Nat.le_of_ble_eq_true rfl) (c := 10) rfl (St10_k f7) ((sf_X10_upper (h := h2) f7 f8 f9).mono (fun v h9 hp => ?_))
    obtain ⟨e1, e2⟩ := hp
    rw [e1, e2]
    refine w_lload_n (pc := 57) C dX10_ratios_57 rfl ?_
    obtain ⟨f14, hv⟩ := hv
    refine w_ldiv (pc := 58) C dX10_ratios_58 f14 ?_
    refine w_ldc2 (pc := 59) C ctl_X10_306 dX10_ratios_59 ?_
    refine w_lmul (pc := 62) C dX10_ratios_62 ?_
    refine w_aload_n (pc := 63) C dX10_ratios_63 rfl ?_
    refine w_cV0_0 (pc := 64) C cl_X10_240 lv_X10_lower (by decide) dX10_ratios_64 (Nat.le_of_ble_eq_true rfl) (c := 10) rfl (St10_k f7) ((sf_X10_lower (h := h2) f7 f10 f11).mono (fun v h9 hp => ?_))
    obtain ⟨e1, e2⟩ := hp
    rw [e1, e2]
    refine w_lload_n (pc := 67) C dX10_ratios_67 rfl ?_
    refine w_ldiv (pc := 68) C dX10_ratios_68 f14 ?_
    refine w_ladd (pc := 69) C dX10_ratios_69 ?_
    obtain ⟨f15, hv⟩ := hv
    refine w_last (pc := 70) C dX10_ratios_70 (St10_k27 f7) (inbl (St10_l27 f7) f15) ?_
    refine w_aload_n (pc := 71) C dX10_ratios_71 rfl ?_
    refine w_dup (pc := 72) C dX10_ratios_72 rfl ?_
    refine w_getI (pc := 73) C fl_X10_300 rfl dX10_ratios_73 (St10_k f7) ?_
    refine w_iconst (pc := 76) C (v := 1) dX10_ratios_76 (by decide) ?_
    refine w_iadd (pc := 77) C dX10_ratios_77 ?_
    refine w_putI (pc := 78) C fl_X10_300 rfl rfl dX10_ratios_78 (St10_k f7) ?_
    refine w_goto (pc := 81) C (tgt := 26) dX10_ratios_81 (by decide) ?_
    refine w_sub ?_ hv
    exact ⟨rfl, trivial⟩
set_option maxRecDepth 20000 in
set_option maxHeartbeats 2000000 in
theorem V_X10_ratios_108 {X : Ctx} (C : C_X10_ratios X) {k n : Nat} {Q : Pq} {h : Hp} {v0 : Nat} {v1 v6 : Int32} {v2 v4 : Int64}
    (hv : St10 h v0 ∧ (((gi h v0 28) ≤ v6 → S_X10_entersPart (lX X) (dtX X) 0 0 [.ref v0, .long (v2 / 1000000), .long (v2 % 1000000)] (si h v0 1 0) (QV fun h2 =>
    St10 h2 v0 ∧ S_X10_entersPart (lX X) (dtX X) 0 0 [.ref v0, .long (v4 / 1000000), .long (v4 % 1000000)] h2 (QV fun h4 =>
    Q (some (.int v1)) h4))) ∧
    (¬ (gi h v0 28) ≤ v6 → ((v6 = 0 → Wj X k n Q 148 [(0, .ref v0), (2, .long v2), (4, .long v4), (6, .int v6)] [.int 1, .int v1] h) ∧
    (¬ v6 = 0 → inb v6 12100 ∧ inb (v6 - 1) 12100 ∧ (((gl h (v0 + 9) (ix v6)) = (gl h (v0 + 9) (ix (v6 - 1))) → Wj X k n Q 148 [(0, .ref v0), (2, .long v2), (4, .long v4), (6, .int v6)] [.int 0, .int v1] h) ∧
    (¬ (gl h (v0 + 9) (ix v6)) = (gl h (v0 + 9) (ix (v6 - 1))) → Wj X k n Q 148 [(0, .ref v0), (2, .long v2), (4, .long v4), (6, .int v6)] [.int 1, .int v1] h))))))) :
    Wj X k n Q 108 [(0, .ref v0), (1, .int v1), (2, .long v2), (4, .long v4), (6, .int v6)] [] h := by
  refine w_iload (pc := 108) C dX10_ratios_108 rfl ?_
  refine w_aload_n (pc := 110) C dX10_ratios_110 rfl ?_
  obtain ⟨f1, hv⟩ := hv
  refine w_getI (pc := 111) C fl_X10_300 rfl dX10_ratios_111 (St10_k f1) ?_
  refine w_icmp_ge (pc := 114) C (tgt := 214) dX10_ratios_114 (by decide) ?_
  obtain ⟨hv1, hv2⟩ := hv
  refine ⟨fun c9 => ?_, fun c9 => ?_⟩
  · have hv := hv1 c9
    refine w_aload_n (pc := 214) C dX10_ratios_214 rfl ?_
    refine w_iconst (pc := 215) C (v := 0) dX10_ratios_215 (by decide) ?_
    refine w_putI (pc := 216) C fl_X10_11 rfl rfl dX10_ratios_216 (St10_k f1) ?_
    refine w_aload_n (pc := 219) C dX10_ratios_219 rfl ?_
    refine w_lload_n (pc := 220) C dX10_ratios_220 rfl ?_
    refine w_ldc2 (pc := 221) C ctl_X10_306 dX10_ratios_221 ?_
    refine w_ldiv (pc := 224) C dX10_ratios_224 (by decide) ?_
    refine w_lload_n (pc := 225) C dX10_ratios_225 rfl ?_
    refine w_ldc2 (pc := 226) C ctl_X10_306 dX10_ratios_226 ?_
    refine w_lrem (pc := 229) C dX10_ratios_229 (by decide) ?_
    refine w_cV0_2 (pc := 230) C cl_X10_284 lv_X10_entersPart (by decide) dX10_ratios_230 (Nat.le_of_ble_eq_true rfl) (c := 10) rfl (St10_k f1) (hv.mono (fun v h2 hp => ?_))
    obtain ⟨rfl, hv⟩ := hp
    refine w_aload_n (pc := 233) C dX10_ratios_233 rfl ?_
    refine w_lload (pc := 234) C dX10_ratios_234 rfl ?_
    refine w_ldc2 (pc := 236) C ctl_X10_306 dX10_ratios_236 ?_
    refine w_ldiv (pc := 239) C dX10_ratios_239 (by decide) ?_
    refine w_lload (pc := 240) C dX10_ratios_240 rfl ?_
    refine w_ldc2 (pc := 242) C ctl_X10_306 dX10_ratios_242 ?_
    refine w_lrem (pc := 245) C dX10_ratios_245 (by decide) ?_
    obtain ⟨f3, hv⟩ := hv
    refine w_cV0_2 (pc := 246) C cl_X10_284 lv_X10_entersPart (by decide) dX10_ratios_246 (Nat.le_of_ble_eq_true rfl) (c := 10) rfl (St10_k f3) (hv.mono (fun v h4 hp => ?_))
    obtain ⟨rfl, hv⟩ := hp
    refine w_iload_n (pc := 249) C dX10_ratios_249 rfl ?_
    exact w_iret (pc := 250) C dX10_ratios_250 hv
  · have hv := hv2 c9
    refine w_iload_n (pc := 117) C dX10_ratios_117 rfl ?_
    refine w_iload (pc := 118) C dX10_ratios_118 rfl ?_
    refine w_if_eq (pc := 120) C (tgt := 143) dX10_ratios_120 (by decide) ?_
    obtain ⟨hv1, hv2⟩ := hv
    refine ⟨fun c8 => ?_, fun c8 => ?_⟩
    · have hv := hv1 c8
      refine w_iconst (pc := 143) C (v := 1) dX10_ratios_143 (by decide) ?_
      refine w_goto (pc := 144) C (tgt := 148) dX10_ratios_144 (by decide) ?_
      refine w_sub ?_ hv
      exact ⟨rfl, rfl, rfl, rfl, trivial⟩
    · have hv := hv2 c8
      refine w_aload_n (pc := 123) C dX10_ratios_123 rfl ?_
      refine w_getR (pc := 124) C fl_X10_86 rfl dX10_ratios_124 (St10_k f1) (St10_r27 f1) ?_
      refine w_iload (pc := 127) C dX10_ratios_127 rfl ?_
      obtain ⟨f5, hv⟩ := hv
      refine w_lald (pc := 129) C dX10_ratios_129 (St10_k27 f1) (inbl (St10_l27 f1) f5) ?_
      refine w_aload_n (pc := 130) C dX10_ratios_130 rfl ?_
      refine w_getR (pc := 131) C fl_X10_86 rfl dX10_ratios_131 (St10_k f1) (St10_r27 f1) ?_
      refine w_iload (pc := 134) C dX10_ratios_134 rfl ?_
      refine w_iconst (pc := 136) C (v := 1) dX10_ratios_136 (by decide) ?_
      refine w_isub (pc := 137) C dX10_ratios_137 ?_
      obtain ⟨f6, hv⟩ := hv
      refine w_lald (pc := 138) C dX10_ratios_138 (St10_k27 f1) (inbl (St10_l27 f1) f6) ?_
      refine w_lcmp_eq (pc := 139) C (tgt := 147) dX10_ratios_139 dX10_ratios_140 (by decide) ?_
      obtain ⟨hv1, hv2⟩ := hv
      refine ⟨fun c7 => ?_, fun c7 => ?_⟩
      · have hv := hv1 c7
        refine w_iconst (pc := 147) C (v := 0) dX10_ratios_147 (by decide) ?_
        refine w_sub ?_ hv
        exact ⟨rfl, rfl, rfl, rfl, trivial⟩
      · have hv := hv2 c7
        refine w_iconst (pc := 143) C (v := 1) dX10_ratios_143 (by decide) ?_
        refine w_goto (pc := 144) C (tgt := 148) dX10_ratios_144 (by decide) ?_
        refine w_sub ?_ hv
        exact ⟨rfl, rfl, rfl, rfl, trivial⟩
set_option maxRecDepth 20000 in
set_option maxHeartbeats 2000000 in
theorem V_X10_ratios_148 {X : Ctx} (C : C_X10_ratios X) {k n : Nat} {Q : Pq} {h : Hp} {v0 : Nat} {v2 v4 : Int64} {v6 s0 s1 : Int32}
    (hv : St10 h v0 ∧ inb v6 12100 ∧ S_X10_isLess (lX X) (dtX X) 0 0 [.long (gl h (v0 + 9) (ix v6)), .long v2] h (QI fun x4 h3 =>
    ((x4 = 0 → Wj X k n Q 178 [(0, .ref v0), (1, .int (s0 + (flg s1))), (4, .long v4), (6, .int v6)] [.long v2] h3) ∧
    (¬ x4 = 0 → St10 h3 v0 ∧ inb v6 12100 ∧ Wj X k n Q 178 [(0, .ref v0), (1, .int (s0 + (flg s1))), (4, .long v4), (6, .int v6)] [.long (gl h3 (v0 + 9) (ix v6))] h3)))) :
    Wj X k n Q 148 [(0, .ref v0), (2, .long v2), (4, .long v4), (6, .int v6)] [.int s1, .int s0] h := by
  refine w_cS0_1 (pc := 148) C cl_X10_39 ls_X10_flag (by decide) dX10_ratios_148 (Nat.le_of_ble_eq_true rfl) ((sf_X10_flag (h := h) ).mono (fun v h9 hp => ?_))
  obtain ⟨e1, e2⟩ := hp
  rw [e1, e2]
  refine w_iadd (pc := 151) C dX10_ratios_151 ?_
  refine w_istore_n (pc := 152) C dX10_ratios_152 (by decide) ?_
  refine w_aload_n (pc := 153) C dX10_ratios_153 rfl ?_
  obtain ⟨f1, hv⟩ := hv
  refine w_getR (pc := 154) C fl_X10_86 rfl dX10_ratios_154 (St10_k f1) (St10_r27 f1) ?_
  refine w_iload (pc := 157) C dX10_ratios_157 rfl ?_
  obtain ⟨f2, hv⟩ := hv
  refine w_lald (pc := 159) C dX10_ratios_159 (St10_k27 f1) (inbl (St10_l27 f1) f2) ?_
  refine w_lload_n (pc := 160) C dX10_ratios_160 rfl ?_
  refine w_cS0_2 (pc := 161) C cl_X10_311 ls_X10_isLess (by decide) dX10_ratios_161 (Nat.le_of_ble_eq_true rfl) (hv.mono (fun v h3 hp => ?_))
  obtain ⟨x4, rfl, hv⟩ := hp
  refine w_if_eq (pc := 164) C (tgt := 177) dX10_ratios_164 (by decide) ?_
  obtain ⟨hv1, hv2⟩ := hv
  refine ⟨fun c7 => ?_, fun c7 => ?_⟩
  · have hv := hv1 c7
    refine w_lload_n (pc := 177) C dX10_ratios_177 rfl ?_
    refine w_sub ?_ hv
    exact ⟨rfl, rfl, rfl, rfl, trivial⟩
  · have hv := hv2 c7
    refine w_aload_n (pc := 167) C dX10_ratios_167 rfl ?_
    obtain ⟨f5, hv⟩ := hv
    refine w_getR (pc := 168) C fl_X10_86 rfl dX10_ratios_168 (St10_k f5) (St10_r27 f5) ?_
    refine w_iload (pc := 171) C dX10_ratios_171 rfl ?_
    obtain ⟨f6, hv⟩ := hv
    refine w_lald (pc := 173) C dX10_ratios_173 (St10_k27 f5) (inbl (St10_l27 f5) f6) ?_
    refine w_goto (pc := 174) C (tgt := 178) dX10_ratios_174 (by decide) ?_
    refine w_sub ?_ hv
    exact ⟨rfl, rfl, rfl, rfl, trivial⟩
set_option maxRecDepth 20000 in
set_option maxHeartbeats 2000000 in
theorem V_X10_ratios_178 {X : Ctx} (C : C_X10_ratios X) {k n : Nat} {Q : Pq} {h : Hp} {v0 : Nat} {v4 s0 : Int64} {v6 v1 : Int32}
    (hv : St10 h v0 ∧ inb v6 12100 ∧ S_X10_isLess (lX X) (dtX X) 0 0 [.long v4, .long (gl h (v0 + 9) (ix v6))] h (QI fun x4 h3 =>
    ((x4 = 0 → Wj X k n Q 108 [(0, .ref v0), (1, .int v1), (2, .long s0), (4, .long v4), (6, .int (v6 + Int32.ofInt 1))] [] h3) ∧
    (¬ x4 = 0 → St10 h3 v0 ∧ inb v6 12100 ∧ Wj X k n Q 108 [(0, .ref v0), (1, .int v1), (2, .long s0), (4, .long (gl h3 (v0 + 9) (ix v6))), (6, .int (v6 + Int32.ofInt 1))] [] h3)))) :
    Wj X k n Q 178 [(0, .ref v0), (1, .int v1), (4, .long v4), (6, .int v6)] [.long s0] h := by
  refine w_lstore_n (pc := 178) C dX10_ratios_178 (by decide) ?_
  refine w_lload (pc := 179) C dX10_ratios_179 rfl ?_
  refine w_aload_n (pc := 181) C dX10_ratios_181 rfl ?_
  obtain ⟨f1, hv⟩ := hv
  refine w_getR (pc := 182) C fl_X10_86 rfl dX10_ratios_182 (St10_k f1) (St10_r27 f1) ?_
  refine w_iload (pc := 185) C dX10_ratios_185 rfl ?_
  obtain ⟨f2, hv⟩ := hv
  refine w_lald (pc := 187) C dX10_ratios_187 (St10_k27 f1) (inbl (St10_l27 f1) f2) ?_
  refine w_cS0_2 (pc := 188) C cl_X10_311 ls_X10_isLess (by decide) dX10_ratios_188 (Nat.le_of_ble_eq_true rfl) (hv.mono (fun v h3 hp => ?_))
  obtain ⟨x4, rfl, hv⟩ := hp
  refine w_if_eq (pc := 191) C (tgt := 204) dX10_ratios_191 (by decide) ?_
  obtain ⟨hv1, hv2⟩ := hv
  refine ⟨fun c7 => ?_, fun c7 => ?_⟩
  · have hv := hv1 c7
    refine w_lload (pc := 204) C dX10_ratios_204 rfl ?_
    refine w_lstore (pc := 206) C dX10_ratios_206 (by decide) ?_
    refine w_iinc (pc := 208) C dX10_ratios_208 rfl (by decide) ?_
    refine w_goto (pc := 211) C (tgt := 108) dX10_ratios_211 (by decide) ?_
    refine w_sub ?_ hv
    exact ⟨rfl, rfl, rfl, rfl, rfl, trivial⟩
  · have hv := hv2 c7
    refine w_aload_n (pc := 194) C dX10_ratios_194 rfl ?_
    obtain ⟨f5, hv⟩ := hv
    refine w_getR (pc := 195) C fl_X10_86 rfl dX10_ratios_195 (St10_k f5) (St10_r27 f5) ?_
    refine w_iload (pc := 198) C dX10_ratios_198 rfl ?_
    obtain ⟨f6, hv⟩ := hv
    refine w_lald (pc := 200) C dX10_ratios_200 (St10_k27 f5) (inbl (St10_l27 f5) f6) ?_
    refine w_goto (pc := 201) C (tgt := 206) dX10_ratios_201 (by decide) ?_
    refine w_lstore (pc := 206) C dX10_ratios_206 (by decide) ?_
    refine w_iinc (pc := 208) C dX10_ratios_208 rfl (by decide) ?_
    refine w_goto (pc := 211) C (tgt := 108) dX10_ratios_211 (by decide) ?_
    refine w_sub ?_ hv
    exact ⟨rfl, rfl, rfl, rfl, rfl, trivial⟩
