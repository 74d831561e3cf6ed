-- near, tree, angle, years (by program: gen_parts.py)
theorem dX9_findNear_0 : decode cX9_findNear 0 = .ok (.lload_n 3, 1) := by decide +kernel
theorem dX9_findNear_1 : decode cX9_findNear 1 = .ok (.lconst 0, 1) := by decide +kernel
theorem dX9_findNear_2 : decode cX9_findNear 2 = .ok (.lcmp, 1) := by decide +kernel
theorem dX9_findNear_3 : decode cX9_findNear 3 = .ok (.ifCond .gt 4, 3) := by decide +kernel
theorem dX9_findNear_6 : decode cX9_findNear 6 = .ok (.return_, 1) := by decide +kernel
theorem dX9_findNear_7 : decode cX9_findNear 7 = .ok (.lconst 0, 1) := by decide +kernel
theorem dX9_findNear_8 : decode cX9_findNear 8 = .ok (.lstore 6, 2) := by decide +kernel
theorem dX9_findNear_10 : decode cX9_findNear 10 = .ok (.lconst 1, 1) := by decide +kernel
theorem dX9_findNear_11 : decode cX9_findNear 11 = .ok (.lstore 8, 2) := by decide +kernel
theorem dX9_findNear_13 : decode cX9_findNear 13 = .ok (.lload_n 1, 1) := by decide +kernel
theorem dX9_findNear_14 : decode cX9_findNear 14 = .ok (.lstore 10, 2) := by decide +kernel
theorem dX9_findNear_16 : decode cX9_findNear 16 = .ok (.lconst 1, 1) := by decide +kernel
theorem dX9_findNear_17 : decode cX9_findNear 17 = .ok (.lstore 12, 2) := by decide +kernel
theorem dX9_findNear_19 : decode cX9_findNear 19 = .ok (.lload 12, 2) := by decide +kernel
theorem dX9_findNear_21 : decode cX9_findNear 21 = .ok (.iload 5, 2) := by decide +kernel
theorem dX9_findNear_23 : decode cX9_findNear 23 = .ok (.i2l, 1) := by decide +kernel
theorem dX9_findNear_24 : decode cX9_findNear 24 = .ok (.lcmp, 1) := by decide +kernel
theorem dX9_findNear_25 : decode cX9_findNear 25 = .ok (.ifCond .gt 117, 3) := by decide +kernel
theorem dX9_findNear_28 : decode cX9_findNear 28 = .ok (.lload 10, 2) := by decide +kernel
theorem dX9_findNear_30 : decode cX9_findNear 30 = .ok (.lconst 0, 1) := by decide +kernel
theorem dX9_findNear_31 : decode cX9_findNear 31 = .ok (.lcmp, 1) := by decide +kernel
theorem dX9_findNear_32 : decode cX9_findNear 32 = .ok (.ifCond .eq 110, 3) := by decide +kernel
theorem dX9_findNear_35 : decode cX9_findNear 35 = .ok (.lload_n 1, 1) := by decide +kernel
theorem dX9_findNear_36 : decode cX9_findNear 36 = .ok (.lload 12, 2) := by decide +kernel
theorem dX9_findNear_38 : decode cX9_findNear 38 = .ok (.lmul, 1) := by decide +kernel
theorem dX9_findNear_39 : decode cX9_findNear 39 = .ok (.lload_n 3, 1) := by decide +kernel
theorem dX9_findNear_40 : decode cX9_findNear 40 = .ok (.ldiv, 1) := by decide +kernel
theorem dX9_findNear_41 : decode cX9_findNear 41 = .ok (.lstore 14, 2) := by decide +kernel
theorem dX9_findNear_43 : decode cX9_findNear 43 = .ok (.lload 14, 2) := by decide +kernel
theorem dX9_findNear_45 : decode cX9_findNear 45 = .ok (.lstore 16, 2) := by decide +kernel
theorem dX9_findNear_47 : decode cX9_findNear 47 = .ok (.lload 16, 2) := by decide +kernel
theorem dX9_findNear_49 : decode cX9_findNear 49 = .ok (.lload 14, 2) := by decide +kernel
theorem dX9_findNear_51 : decode cX9_findNear 51 = .ok (.lconst 1, 1) := by decide +kernel
theorem dX9_findNear_52 : decode cX9_findNear 52 = .ok (.ladd, 1) := by decide +kernel
theorem dX9_findNear_53 : decode cX9_findNear 53 = .ok (.lcmp, 1) := by decide +kernel
theorem dX9_findNear_54 : decode cX9_findNear 54 = .ok (.ifCond .gt 79, 3) := by decide +kernel
theorem dX9_findNear_57 : decode cX9_findNear 57 = .ok (.lload_n 1, 1) := by decide +kernel
theorem dX9_findNear_58 : decode cX9_findNear 58 = .ok (.lload 12, 2) := by decide +kernel
theorem dX9_findNear_60 : decode cX9_findNear 60 = .ok (.lmul, 1) := by decide +kernel
theorem dX9_findNear_61 : decode cX9_findNear 61 = .ok (.lload 16, 2) := by decide +kernel
theorem dX9_findNear_63 : decode cX9_findNear 63 = .ok (.lload_n 3, 1) := by decide +kernel
theorem dX9_findNear_64 : decode cX9_findNear 64 = .ok (.lmul, 1) := by decide +kernel
theorem dX9_findNear_65 : decode cX9_findNear 65 = .ok (.lsub, 1) := by decide +kernel
theorem dX9_findNear_66 : decode cX9_findNear 66 = .ok (.invokestatic 302, 3) := by decide +kernel
theorem dX9_findNear_69 : decode cX9_findNear 69 = .ok (.lstore 18, 2) := by decide +kernel
theorem dX9_findNear_71 : decode cX9_findNear 71 = .ok (.lload 18, 2) := by decide +kernel
theorem dX9_findNear_73 : decode cX9_findNear 73 = .ok (.lload 8, 2) := by decide +kernel
theorem dX9_findNear_75 : decode cX9_findNear 75 = .ok (.lmul, 1) := by decide +kernel
theorem dX9_findNear_76 : decode cX9_findNear 76 = .ok (.lload 10, 2) := by decide +kernel
theorem dX9_findNear_78 : decode cX9_findNear 78 = .ok (.lload 12, 2) := by decide +kernel
theorem dX9_findNear_80 : decode cX9_findNear 80 = .ok (.lmul, 1) := by decide +kernel
theorem dX9_findNear_81 : decode cX9_findNear 81 = .ok (.lsub, 1) := by decide +kernel
theorem dX9_findNear_82 : decode cX9_findNear 82 = .ok (.lstore 20, 2) := by decide +kernel
theorem dX9_findNear_84 : decode cX9_findNear 84 = .ok (.lload 20, 2) := by decide +kernel
theorem dX9_findNear_86 : decode cX9_findNear 86 = .ok (.lconst 0, 1) := by decide +kernel
theorem dX9_findNear_87 : decode cX9_findNear 87 = .ok (.lcmp, 1) := by decide +kernel
theorem dX9_findNear_88 : decode cX9_findNear 88 = .ok (.ifCond .lt 24, 3) := by decide +kernel
theorem dX9_findNear_91 : decode cX9_findNear 91 = .ok (.lload 20, 2) := by decide +kernel
theorem dX9_findNear_93 : decode cX9_findNear 93 = .ok (.lconst 0, 1) := by decide +kernel
theorem dX9_findNear_94 : decode cX9_findNear 94 = .ok (.lcmp, 1) := by decide +kernel
theorem dX9_findNear_95 : decode cX9_findNear 95 = .ok (.ifCond .ne 29, 3) := by decide +kernel
theorem dX9_findNear_98 : decode cX9_findNear 98 = .ok (.lload 16, 2) := by decide +kernel
theorem dX9_findNear_100 : decode cX9_findNear 100 = .ok (.lload 8, 2) := by decide +kernel
theorem dX9_findNear_102 : decode cX9_findNear 102 = .ok (.lmul, 1) := by decide +kernel
theorem dX9_findNear_103 : decode cX9_findNear 103 = .ok (.lload 6, 2) := by decide +kernel
theorem dX9_findNear_105 : decode cX9_findNear 105 = .ok (.lload 12, 2) := by decide +kernel
theorem dX9_findNear_107 : decode cX9_findNear 107 = .ok (.lmul, 1) := by decide +kernel
theorem dX9_findNear_108 : decode cX9_findNear 108 = .ok (.lcmp, 1) := by decide +kernel
theorem dX9_findNear_109 : decode cX9_findNear 109 = .ok (.ifCond .ge 15, 3) := by decide +kernel
theorem dX9_findNear_112 : decode cX9_findNear 112 = .ok (.lload 16, 2) := by decide +kernel
theorem dX9_findNear_114 : decode cX9_findNear 114 = .ok (.lstore 6, 2) := by decide +kernel
theorem dX9_findNear_116 : decode cX9_findNear 116 = .ok (.lload 12, 2) := by decide +kernel
theorem dX9_findNear_118 : decode cX9_findNear 118 = .ok (.lstore 8, 2) := by decide +kernel
theorem dX9_findNear_120 : decode cX9_findNear 120 = .ok (.lload 18, 2) := by decide +kernel
theorem dX9_findNear_122 : decode cX9_findNear 122 = .ok (.lstore 10, 2) := by decide +kernel
theorem dX9_findNear_124 : decode cX9_findNear 124 = .ok (.lload 16, 2) := by decide +kernel
theorem dX9_findNear_126 : decode cX9_findNear 126 = .ok (.lconst 1, 1) := by decide +kernel
theorem dX9_findNear_127 : decode cX9_findNear 127 = .ok (.ladd, 1) := by decide +kernel
theorem dX9_findNear_128 : decode cX9_findNear 128 = .ok (.lstore 16, 2) := by decide +kernel
theorem dX9_findNear_130 : decode cX9_findNear 130 = .ok (.goto (-83), 3) := by decide +kernel
theorem dX9_findNear_133 : decode cX9_findNear 133 = .ok (.lload 12, 2) := by decide +kernel
theorem dX9_findNear_135 : decode cX9_findNear 135 = .ok (.lconst 1, 1) := by decide +kernel
theorem dX9_findNear_136 : decode cX9_findNear 136 = .ok (.ladd, 1) := by decide +kernel
theorem dX9_findNear_137 : decode cX9_findNear 137 = .ok (.lstore 12, 2) := by decide +kernel
theorem dX9_findNear_139 : decode cX9_findNear 139 = .ok (.goto (-120), 3) := by decide +kernel
theorem dX9_findNear_142 : decode cX9_findNear 142 = .ok (.aload_n 0, 1) := by decide +kernel
theorem dX9_findNear_143 : decode cX9_findNear 143 = .ok (.getfield 54, 3) := by decide +kernel
theorem dX9_findNear_146 : decode cX9_findNear 146 = .ok (.lload 6, 2) := by decide +kernel
theorem dX9_findNear_148 : decode cX9_findNear 148 = .ok (.lload 8, 2) := by decide +kernel
theorem dX9_findNear_150 : decode cX9_findNear 150 = .ok (.invokevirtual 289, 3) := by decide +kernel
theorem dX9_findNear_153 : decode cX9_findNear 153 = .ok (.return_, 1) := by decide +kernel
set_option maxRecDepth 20000 in
set_option maxHeartbeats 2000000 in
theorem V_X9_findNear_0 {X : Ctx} (C : C_X9_findNear X) {k n : Nat} {Q : Pq} {h : Hp} {v0 : Nat} {v1 v3 : Int64} {v5 : Int32}
    (hv : ((0 < v3 → Wj X k n Q 19 [(0, .ref v0), (1, .long v1), (3, .long v3), (5, .int v5), (6, .long 0), (8, .long 1), (10, .long v1), (12, .long 1)] [] h) ∧
    (¬ 0 < v3 → Q none h))) :
    Wj X k n Q 0 [(0, .ref v0), (1, .long v1), (3, .long v3), (5, .int v5)] [] h := by
  refine w_lload_n (pc := 0) C dX9_findNear_0 rfl ?_
  refine w_lconst (pc := 1) C (v := 0) dX9_findNear_1 (by decide) ?_
  refine w_lcmp_gt (pc := 2) C (tgt := 7) dX9_findNear_2 dX9_findNear_3 (by decide) ?_
  obtain ⟨hv1, hv2⟩ := hv
  refine ⟨fun c1 => ?_, fun c1 => ?_⟩
  · have hv := hv1 c1
    refine w_lconst (pc := 7) C (v := 0) dX9_findNear_7 (by decide) ?_
    refine w_lstore (pc := 8) C dX9_findNear_8 (by decide) ?_
    refine w_lconst (pc := 10) C (v := 1) dX9_findNear_10 (by decide) ?_
    refine w_lstore (pc := 11) C dX9_findNear_11 (by decide) ?_
    refine w_lload_n (pc := 13) C dX9_findNear_13 rfl ?_
    refine w_lstore (pc := 14) C dX9_findNear_14 (by decide) ?_
    refine w_lconst (pc := 16) C (v := 1) dX9_findNear_16 (by decide) ?_
    refine w_lstore (pc := 17) C dX9_findNear_17 (by decide) ?_
    refine w_sub ?_ hv
    exact ⟨rfl, rfl, rfl, rfl, rfl, rfl, rfl, rfl, trivial⟩
  · have hv := hv2 c1
    exact w_vret (pc := 6) C dX9_findNear_6 hv
set_option maxRecDepth 20000 in
set_option maxHeartbeats 2000000 in
theorem V_X9_findNear_19 {X : Ctx} (C : C_X9_findNear X) {k n : Nat} {Q : Pq} {h : Hp} {v0 : Nat} {v1 v3 v6 v8 v10 v12 : Int64} {v5 : Int32}
    (hv : (((Int32.toInt64 v5) < v12 → Wj X k n Q 142 [(0, .ref v0), (6, .long v6), (8, .long v8)] [] h) ∧
    (¬ (Int32.toInt64 v5) < v12 → ((v10 = 0 → Wj X k n Q 142 [(0, .ref v0), (6, .long v6), (8, .long v8)] [] h) ∧
    (¬ v10 = 0 → ¬ v3 = 0 ∧ Wj X k n Q 47 [(0, .ref v0), (1, .long v1), (3, .long v3), (5, .int v5), (6, .long v6), (8, .long v8), (10, .long v10), (12, .long v12), (14, .long ((v1 * v12) / v3)), (16, .long ((v1 * v12) / v3))] [] h))))) :
    Wj X k n Q 19 [(0, .ref v0), (1, .long v1), (3, .long v3), (5, .int v5), (6, .long v6), (8, .long v8), (10, .long v10), (12, .long v12)] [] h := by
  refine w_lload (pc := 19) C dX9_findNear_19 rfl ?_
  refine w_iload (pc := 21) C dX9_findNear_21 rfl ?_
  refine w_i2l (pc := 23) C dX9_findNear_23 ?_
  refine w_lcmp_gt (pc := 24) C (tgt := 142) dX9_findNear_24 dX9_findNear_25 (by decide) ?_
  obtain ⟨hv1, hv2⟩ := hv
  refine ⟨fun c3 => ?_, fun c3 => ?_⟩
  · have hv := hv1 c3
    refine w_sub ?_ hv
    exact ⟨rfl, rfl, rfl, trivial⟩
  · have hv := hv2 c3
    refine w_lload (pc := 28) C dX9_findNear_28 rfl ?_
    refine w_lconst (pc := 30) C (v := 0) dX9_findNear_30 (by decide) ?_
    refine w_lcmp_eq (pc := 31) C (tgt := 142) dX9_findNear_31 dX9_findNear_32 (by decide) ?_
    obtain ⟨hv1, hv2⟩ := hv
    refine ⟨fun c2 => ?_, fun c2 => ?_⟩
    · have hv := hv1 c2
      refine w_sub ?_ hv
      exact ⟨rfl, rfl, rfl, trivial⟩
    · have hv := hv2 c2
      refine w_lload_n (pc := 35) C dX9_findNear_35 rfl ?_
      refine w_lload (pc := 36) C dX9_findNear_36 rfl ?_
      refine w_lmul (pc := 38) C dX9_findNear_38 ?_
      refine w_lload_n (pc := 39) C dX9_findNear_39 rfl ?_
      obtain ⟨f1, hv⟩ := hv
      refine w_ldiv (pc := 40) C dX9_findNear_40 f1 ?_
      refine w_lstore (pc := 41) C dX9_findNear_41 (by decide) ?_
      refine w_lload (pc := 43) C dX9_findNear_43 rfl ?_
      refine w_lstore (pc := 45) C dX9_findNear_45 (by decide) ?_
      refine w_sub ?_ hv
      exact ⟨rfl, rfl, rfl, rfl, rfl, rfl, rfl, rfl, rfl, rfl, trivial⟩
set_option maxRecDepth 20000 in
set_option maxHeartbeats 2000000 in
theorem V_X9_findNear_47 {X : Ctx} (C : C_X9_findNear X) {k n : Nat} {Q : Pq} {h : Hp} {v0 : Nat} {v1 v3 v6 v8 v10 v12 v14 v16 : Int64} {v5 : Int32}
    (hv : (((v14 + 1) < v16 → Wj X k n Q 19 [(0, .ref v0), (1, .long v1), (3, .long v3), (5, .int v5), (6, .long v6), (8, .long v8), (10, .long v10), (12, .long (v12 + 1))] [] h) ∧
    (¬ (v14 + 1) < v16 → (((((abL ((v1 * v12) - (v16 * v3))) * v8) - (v10 * v12)) < 0 → Wj X k n Q 112 [(0, .ref v0), (1, .long v1), (3, .long v3), (5, .int v5), (12, .long v12), (14, .long v14), (16, .long v16), (18, .long (abL ((v1 * v12) - (v16 * v3))))] [] h) ∧
    (¬ (((abL ((v1 * v12) - (v16 * v3))) * v8) - (v10 * v12)) < 0 → ((¬ (((abL ((v1 * v12) - (v16 * v3))) * v8) - (v10 * v12)) = 0 → Wj X k n Q 47 [(0, .ref v0), (1, .long v1), (3, .long v3), (5, .int v5), (6, .long v6), (8, .long v8), (10, .long v10), (12, .long v12), (14, .long v14), (16, .long (v16 + 1))] [] h) ∧
    ((((abL ((v1 * v12) - (v16 * v3))) * v8) - (v10 * v12)) = 0 → (((v6 * v12) ≤ (v16 * v8) → Wj X k n Q 47 [(0, .ref v0), (1, .long v1), (3, .long v3), (5, .int v5), (6, .long v6), (8, .long v8), (10, .long v10), (12, .long v12), (14, .long v14), (16, .long (v16 + 1))] [] h) ∧
    (¬ (v6 * v12) ≤ (v16 * v8) → Wj X k n Q 112 [(0, .ref v0), (1, .long v1), (3, .long v3), (5, .int v5), (12, .long v12), (14, .long v14), (16, .long v16), (18, .long (abL ((v1 * v12) - (v16 * v3))))] [] h))))))))) :
    Wj X k n Q 47 [(0, .ref v0), (1, .long v1), (3, .long v3), (5, .int v5), (6, .long v6), (8, .long v8), (10, .long v10), (12, .long v12), (14, .long v14), (16, .long v16)] [] h := by
  refine w_lload (pc := 47) C dX9_findNear_47 rfl ?_
  refine w_lload (pc := 49) C dX9_findNear_49 rfl ?_
  refine w_lconst (pc := 51) C (v := 1) dX9_findNear_51 (by decide) ?_
  refine w_ladd (pc := 52) C dX9_findNear_52 ?_
  refine w_lcmp_gt (pc := 53) C (tgt := 133) dX9_findNear_53 dX9_findNear_54 (by decide) ?_
  obtain ⟨hv1, hv2⟩ := hv
  refine ⟨fun c4 => ?_, fun c4 => ?_⟩
  · have hv := hv1 c4
    refine w_lload (pc := 133) C dX9_findNear_133 rfl ?_
    refine w_lconst (pc := 135) C (v := 1) dX9_findNear_135 (by decide) ?_
    refine w_ladd (pc := 136) C dX9_findNear_136 ?_
    refine w_lstore (pc := 137) C dX9_findNear_137 (by decide) ?_
    refine w_goto (pc := 139) C (tgt := 19) dX9_findNear_139 (by decide) ?_
    refine w_sub ?_ hv
    exact ⟨rfl, rfl, rfl, rfl, rfl, rfl, rfl, rfl, trivial⟩
  · have hv := hv2 c4
    refine w_lload_n (pc := 57) C dX9_findNear_57 rfl ?_
    refine w_lload (pc := 58) C dX9_findNear_58 rfl ?_
    refine w_lmul (pc := 60) C dX9_findNear_60 ?_
    refine w_lload (pc := 61) C dX9_findNear_61 rfl ?_
    refine w_lload_n (pc := 63) C dX9_findNear_63 rfl ?_
    refine w_lmul (pc := 64) C dX9_findNear_64 ?_
    refine w_lsub (pc := 65) C dX9_findNear_65 ?_
    refine w_cS0_1 (pc := 66) C cl_X9_302 ls_J9_abs_067f4 (by decide) dX9_findNear_66 (Nat.le_of_ble_eq_true rfl) ((sf_J9_abs_067f4 (h := h) ).mono (fun v h9 hp => ?_))
    obtain ⟨e1, e2⟩ := hp
    rw [e1, e2]
    refine w_lstore (pc := 69) C dX9_findNear_69 (by decide) ?_
    refine w_lload (pc := 71) C dX9_findNear_71 rfl ?_
    refine w_lload (pc := 73) C dX9_findNear_73 rfl ?_
    refine w_lmul (pc := 75) C dX9_findNear_75 ?_
    refine w_lload (pc := 76) C dX9_findNear_76 rfl ?_
    refine w_lload (pc := 78) C dX9_findNear_78 rfl ?_
    refine w_lmul (pc := 80) C dX9_findNear_80 ?_
    refine w_lsub (pc := 81) C dX9_findNear_81 ?_
    refine w_lstore (pc := 82) C dX9_findNear_82 (by decide) ?_
    refine w_lload (pc := 84) C dX9_findNear_84 rfl ?_
    refine w_lconst (pc := 86) C (v := 0) dX9_findNear_86 (by decide) ?_
    refine w_lcmp_lt (pc := 87) C (tgt := 112) dX9_findNear_87 dX9_findNear_88 (by decide) ?_
    obtain ⟨hv1, hv2⟩ := hv
    refine ⟨fun c3 => ?_, fun c3 => ?_⟩
    · have hv := hv1 c3
      refine w_sub ?_ hv
      exact ⟨rfl, rfl, rfl, rfl, rfl, rfl, rfl, rfl, trivial⟩
    · have hv := hv2 c3
      refine w_lload (pc := 91) C dX9_findNear_91 rfl ?_
      refine w_lconst (pc := 93) C (v := 0) dX9_findNear_93 (by decide) ?_
      refine w_lcmp_ne (pc := 94) C (tgt := 124) dX9_findNear_94 dX9_findNear_95 (by decide) ?_
      obtain ⟨hv1, hv2⟩ := hv
      refine ⟨fun c2 => ?_, fun c2 => ?_⟩
      · have hv := hv1 c2
        refine w_lload (pc := 124) C dX9_findNear_124 rfl ?_
        refine w_lconst (pc := 126) C (v := 1) dX9_findNear_126 (by decide) ?_
        refine w_ladd (pc := 127) C dX9_findNear_127 ?_
        refine w_lstore (pc := 128) C dX9_findNear_128 (by decide) ?_
        refine w_goto (pc := 130) C (tgt := 47) dX9_findNear_130 (by decide) ?_
        refine w_sub ?_ hv
        exact ⟨rfl, rfl, rfl, rfl, rfl, rfl, rfl, rfl, rfl, rfl, trivial⟩
      · have hv := hv2 c2
        refine w_lload (pc := 98) C dX9_findNear_98 rfl ?_
        refine w_lload (pc := 100) C dX9_findNear_100 rfl ?_
        refine w_lmul (pc := 102) C dX9_findNear_102 ?_
        refine w_lload (pc := 103) C dX9_findNear_103 rfl ?_
        refine w_lload (pc := 105) C dX9_findNear_105 rfl ?_
        refine w_lmul (pc := 107) C dX9_findNear_107 ?_
        refine w_lcmp_ge (pc := 108) C (tgt := 124) dX9_findNear_108 dX9_findNear_109 (by decide) ?_
        obtain ⟨hv1, hv2⟩ := hv
        refine ⟨fun c1 => ?_, fun c1 => ?_⟩
        · have hv := hv1 c1
          refine w_lload (pc := 124) C dX9_findNear_124 rfl ?_
          refine w_lconst (pc := 126) C (v := 1) dX9_findNear_126 (by decide) ?_
          refine w_ladd (pc := 127) C dX9_findNear_127 ?_
          refine w_lstore (pc := 128) C dX9_findNear_128 (by decide) ?_
          refine w_goto (pc := 130) C (tgt := 47) dX9_findNear_130 (by decide) ?_
          refine w_sub ?_ hv
          exact ⟨rfl, rfl, rfl, rfl, rfl, rfl, rfl, rfl, rfl, rfl, trivial⟩
        · have hv := hv2 c1
          refine w_sub ?_ hv
          exact ⟨rfl, rfl, rfl, rfl, rfl, rfl, rfl, rfl, trivial⟩
set_option maxRecDepth 20000 in
set_option maxHeartbeats 2000000 in
theorem V_X9_findNear_112 {X : Ctx} (C : C_X9_findNear X) {k n : Nat} {Q : Pq} {h : Hp} {v0 : Nat} {v1 v3 v12 v14 v16 v18 : Int64} {v5 : Int32}
    (hv : Wj X k n Q 47 [(0, .ref v0), (1, .long v1), (3, .long v3), (5, .int v5), (6, .long v16), (8, .long v12), (10, .long v18), (12, .long v12), (14, .long v14), (16, .long (v16 + 1))] [] h) :
    Wj X k n Q 112 [(0, .ref v0), (1, .long v1), (3, .long v3), (5, .int v5), (12, .long v12), (14, .long v14), (16, .long v16), (18, .long v18)] [] h := by
  refine w_lload (pc := 112) C dX9_findNear_112 rfl ?_
  refine w_lstore (pc := 114) C dX9_findNear_114 (by decide) ?_
  refine w_lload (pc := 116) C dX9_findNear_116 rfl ?_
  refine w_lstore (pc := 118) C dX9_findNear_118 (by decide) ?_
  refine w_lload (pc := 120) C dX9_findNear_120 rfl ?_
  refine w_lstore (pc := 122) C dX9_findNear_122 (by decide) ?_
  refine w_lload (pc := 124) C dX9_findNear_124 rfl ?_
  refine w_lconst (pc := 126) C (v := 1) dX9_findNear_126 (by decide) ?_
  refine w_ladd (pc := 127) C dX9_findNear_127 ?_
  refine w_lstore (pc := 128) C dX9_findNear_128 (by decide) ?_
  refine w_goto (pc := 130) C (tgt := 47) dX9_findNear_130 (by decide) ?_
  refine w_sub ?_ hv
  exact ⟨rfl, rfl, rfl, rfl, rfl, rfl, rfl, rfl, rfl, rfl, trivial⟩
set_option maxRecDepth 20000 in
set_option maxHeartbeats 2000000 in
theorem V_X9_findNear_142 {X : Ctx} (C : C_X9_findNear X) {k n : Nat} {Q : Pq} {h : Hp} {v0 : Nat} {v6 v8 : Int64}
    (hv : St9 h v0 ∧ -9223372036854775807 ≤ (Int64.toInt v6) ∧ 0 < (Int64.toInt v8) ∧ Q none (fpt h (v0 + 13) v6 v8)) :
    Wj X k n Q 142 [(0, .ref v0), (6, .long v6), (8, .long v8)] [] h := by
  refine w_aload_n (pc := 142) C dX9_findNear_142 rfl ?_
  obtain ⟨f1, hv⟩ := hv
  refine w_getR (pc := 143) C fl_X9_54 rfl dX9_findNear_143 (St9_k f1) (St9_r6 f1) ?_
  refine w_lload (pc := 146) C dX9_findNear_146 rfl ?_
  refine w_lload (pc := 148) C dX9_findNear_148 rfl ?_
  obtain ⟨f2, hv⟩ := hv
  obtain ⟨f3, hv⟩ := hv
  refine w_cV0_2 (pc := 150) C cl_X9_289 lv_X2_put (by decide) dX9_findNear_150 (Nat.le_of_ble_eq_true rfl) (c := 2) rfl (St9_k6 f1) ((sf_X2_put (h := h) (St9_k6 f1) f2 f3).mono (fun v h9 hp => ?_))
  obtain ⟨e1, e2⟩ := hp
  rw [e1, e2]
  exact w_vret (pc := 153) C dX9_findNear_153 hv
theorem dX9_near_0 : decode cX9_near 0 = .ok (.iload_n 1, 1) := by decide +kernel
theorem dX9_near_1 : decode cX9_near 1 = .ok (.iconst 1, 1) := by decide +kernel
theorem dX9_near_2 : decode cX9_near 2 = .ok (.ldc_w 311, 3) := by decide +kernel
theorem dX9_near_5 : decode cX9_near 5 = .ok (.invokestatic 247, 3) := by decide +kernel
theorem dX9_near_8 : decode cX9_near 8 = .ok (.ifCond .eq 25, 3) := by decide +kernel
theorem dX9_near_11 : decode cX9_near 11 = .ok (.iload_n 2, 1) := by decide +kernel
theorem dX9_near_12 : decode cX9_near 12 = .ok (.iconst 1, 1) := by decide +kernel
theorem dX9_near_13 : decode cX9_near 13 = .ok (.ldc_w 311, 3) := by decide +kernel
theorem dX9_near_16 : decode cX9_near 16 = .ok (.invokestatic 247, 3) := by decide +kernel
theorem dX9_near_19 : decode cX9_near 19 = .ok (.ifCond .eq 14, 3) := by decide +kernel
theorem dX9_near_22 : decode cX9_near 22 = .ok (.iload_n 3, 1) := by decide +kernel
theorem dX9_near_23 : decode cX9_near 23 = .ok (.iconst 1, 1) := by decide +kernel
theorem dX9_near_24 : decode cX9_near 24 = .ok (.sipush 1000, 3) := by decide +kernel
theorem dX9_near_27 : decode cX9_near 27 = .ok (.invokestatic 247, 3) := by decide +kernel
theorem dX9_near_30 : decode cX9_near 30 = .ok (.ifCond .ne 5, 3) := by decide +kernel
theorem dX9_near_33 : decode cX9_near 33 = .ok (.iconst (-1), 1) := by decide +kernel
theorem dX9_near_34 : decode cX9_near 34 = .ok (.ireturn, 1) := by decide +kernel
theorem dX9_near_35 : decode cX9_near 35 = .ok (.aload_n 0, 1) := by decide +kernel
theorem dX9_near_36 : decode cX9_near 36 = .ok (.iload_n 1, 1) := by decide +kernel
theorem dX9_near_37 : decode cX9_near 37 = .ok (.i2l, 1) := by decide +kernel
theorem dX9_near_38 : decode cX9_near 38 = .ok (.iload_n 2, 1) := by decide +kernel
theorem dX9_near_39 : decode cX9_near 39 = .ok (.i2l, 1) := by decide +kernel
theorem dX9_near_40 : decode cX9_near 40 = .ok (.iload_n 3, 1) := by decide +kernel
theorem dX9_near_41 : decode cX9_near 41 = .ok (.invokevirtual 312, 3) := by decide +kernel
theorem dX9_near_44 : decode cX9_near 44 = .ok (.aload_n 0, 1) := by decide +kernel
theorem dX9_near_45 : decode cX9_near 45 = .ok (.getfield 19, 3) := by decide +kernel
theorem dX9_near_48 : decode cX9_near 48 = .ok (.invokevirtual 158, 3) := by decide +kernel
theorem dX9_near_51 : decode cX9_near 51 = .ok (.aload_n 0, 1) := by decide +kernel
theorem dX9_near_52 : decode cX9_near 52 = .ok (.getfield 19, 3) := by decide +kernel
theorem dX9_near_55 : decode cX9_near 55 = .ok (.aload_n 0, 1) := by decide +kernel
theorem dX9_near_56 : decode cX9_near 56 = .ok (.getfield 54, 3) := by decide +kernel
theorem dX9_near_59 : decode cX9_near 59 = .ok (.invokevirtual 293, 3) := by decide +kernel
theorem dX9_near_62 : decode cX9_near 62 = .ok (.aload_n 0, 1) := by decide +kernel
theorem dX9_near_63 : decode cX9_near 63 = .ok (.getfield 58, 3) := by decide +kernel
theorem dX9_near_66 : decode cX9_near 66 = .ok (.iload_n 1, 1) := by decide +kernel
theorem dX9_near_67 : decode cX9_near 67 = .ok (.i2l, 1) := by decide +kernel
theorem dX9_near_68 : decode cX9_near 68 = .ok (.aload_n 0, 1) := by decide +kernel
theorem dX9_near_69 : decode cX9_near 69 = .ok (.getfield 54, 3) := by decide +kernel
theorem dX9_near_72 : decode cX9_near 72 = .ok (.getfield 300, 3) := by decide +kernel
theorem dX9_near_75 : decode cX9_near 75 = .ok (.lmul, 1) := by decide +kernel
theorem dX9_near_76 : decode cX9_near 76 = .ok (.aload_n 0, 1) := by decide +kernel
theorem dX9_near_77 : decode cX9_near 77 = .ok (.getfield 54, 3) := by decide +kernel
theorem dX9_near_80 : decode cX9_near 80 = .ok (.getfield 297, 3) := by decide +kernel
theorem dX9_near_83 : decode cX9_near 83 = .ok (.iload_n 2, 1) := by decide +kernel
theorem dX9_near_84 : decode cX9_near 84 = .ok (.i2l, 1) := by decide +kernel
theorem dX9_near_85 : decode cX9_near 85 = .ok (.lmul, 1) := by decide +kernel
theorem dX9_near_86 : decode cX9_near 86 = .ok (.lsub, 1) := by decide +kernel
theorem dX9_near_87 : decode cX9_near 87 = .ok (.invokestatic 302, 3) := by decide +kernel
theorem dX9_near_90 : decode cX9_near 90 = .ok (.iload_n 2, 1) := by decide +kernel
theorem dX9_near_91 : decode cX9_near 91 = .ok (.i2l, 1) := by decide +kernel
theorem dX9_near_92 : decode cX9_near 92 = .ok (.aload_n 0, 1) := by decide +kernel
theorem dX9_near_93 : decode cX9_near 93 = .ok (.getfield 54, 3) := by decide +kernel
theorem dX9_near_96 : decode cX9_near 96 = .ok (.getfield 300, 3) := by decide +kernel
theorem dX9_near_99 : decode cX9_near 99 = .ok (.lmul, 1) := by decide +kernel
theorem dX9_near_100 : decode cX9_near 100 = .ok (.invokevirtual 289, 3) := by decide +kernel
theorem dX9_near_103 : decode cX9_near 103 = .ok (.aload_n 0, 1) := by decide +kernel
theorem dX9_near_104 : decode cX9_near 104 = .ok (.getfield 19, 3) := by decide +kernel
theorem dX9_near_107 : decode cX9_near 107 = .ok (.aload_n 0, 1) := by decide +kernel
theorem dX9_near_108 : decode cX9_near 108 = .ok (.getfield 58, 3) := by decide +kernel
theorem dX9_near_111 : decode cX9_near 111 = .ok (.invokevirtual 293, 3) := by decide +kernel
theorem dX9_near_114 : decode cX9_near 114 = .ok (.aload_n 0, 1) := by decide +kernel
theorem dX9_near_115 : decode cX9_near 115 = .ok (.getfield 54, 3) := by decide +kernel
theorem dX9_near_118 : decode cX9_near 118 = .ok (.getfield 297, 3) := by decide +kernel
theorem dX9_near_121 : decode cX9_near 121 = .ok (.aload_n 0, 1) := by decide +kernel
theorem dX9_near_122 : decode cX9_near 122 = .ok (.getfield 54, 3) := by decide +kernel
theorem dX9_near_125 : decode cX9_near 125 = .ok (.getfield 300, 3) := by decide +kernel
theorem dX9_near_128 : decode cX9_near 128 = .ok (.invokestatic 316, 3) := by decide +kernel
theorem dX9_near_131 : decode cX9_near 131 = .ok (.ireturn, 1) := by decide +kernel
set_option maxRecDepth 20000 in
set_option maxHeartbeats 2000000 in
theorem V_X9_near_0 {X : Ctx} (C : C_X9_near X) {k n : Nat} {Q : Pq} {h : Hp} {v0 : Nat} {v1 v2 v3 : Int32}
    (hv : (((bt v1 1 100000) = 0 → Q (some (.int (-1))) h) ∧
    (¬ (bt v1 1 100000) = 0 → (((bt v2 1 100000) = 0 → Q (some (.int (-1))) h) ∧
    (¬ (bt v2 1 100000) = 0 → ((¬ (bt v3 1 1000) = 0 → St9 h v0 ∧ S_X9_findNear (lX X) (dtX X) 0 0 [.ref v0, .long (Int32.toInt64 v1), .long (Int32.toInt64 v2), .int v3] h (QV fun h2 =>
    St9 h2 v0 ∧ S_X8_addFraction (lX X) (dtX X) 0 0 [.ref (v0 + 3), .ref (v0 + 13)] (tcl h2 (v0 + 3)) (QV fun h4 =>
    St9 h4 v0 ∧ -9223372036854775807 ≤ (Int64.toInt (abL (((Int32.toInt64 v1) * (gl h4 (v0 + 13) 1)) - ((gl h4 (v0 + 13) 0) * (Int32.toInt64 v2))))) ∧ 0 < (Int64.toInt ((Int32.toInt64 v2) * (gl h4 (v0 + 13) 1))) ∧ S_X8_addFraction (lX X) (dtX X) 0 0 [.ref (v0 + 3), .ref (v0 + 14)] (fpt h4 (v0 + 14) (abL (((Int32.toInt64 v1) * (gl h4 (v0 + 13) 1)) - ((gl h4 (v0 + 13) 0) * (Int32.toInt64 v2)))) ((Int32.toInt64 v2) * (gl h4 (v0 + 13) 1))) (QV fun h8 =>
    St9 h8 v0 ∧ S_X9_treeSteps (lX X) (dtX X) 0 0 [.long (gl h8 (v0 + 13) 0), .long (gl h8 (v0 + 13) 1)] h8 (QI fun x11 h10 =>
    Q (some (.int x11)) h10))))) ∧
    ((bt v3 1 1000) = 0 → Q (some (.int (-1))) h))))))) :
    Wj X k n Q 0 [(0, .ref v0), (1, .int v1), (2, .int v2), (3, .int v3)] [] h := by
  refine w_iload_n (pc := 0) C dX9_near_0 rfl ?_
  refine w_iconst (pc := 1) C (v := 1) dX9_near_1 (by decide) ?_
  refine w_ldcw (pc := 2) C ct_X9_311 dX9_near_2 ?_
  refine w_cS0_3 (pc := 5) C cl_X9_247 ls_X9_isBetween (by decide) dX9_near_5 (Nat.le_of_ble_eq_true rfl) ((sf_X9_isBetween (h := h) ).mono (fun v h9 hp => ?_))
  obtain ⟨e1, e2⟩ := hp
  rw [e1, e2]
  refine w_if_eq (pc := 8) C (tgt := 33) dX9_near_8 (by decide) ?_
  obtain ⟨hv1, hv2⟩ := hv
  refine ⟨fun c14 => ?_, fun c14 => ?_⟩
  · have hv := hv1 c14
    refine w_iconst (pc := 33) C (v := (-1)) dX9_near_33 (by decide) ?_
    exact w_iret (pc := 34) C dX9_near_34 hv
  · have hv := hv2 c14
    refine w_iload_n (pc := 11) C dX9_near_11 rfl ?_
    refine w_iconst (pc := 12) C (v := 1) dX9_near_12 (by decide) ?_
    refine w_ldcw (pc := 13) C ct_X9_311 dX9_near_13 ?_
    refine w_cS0_3 (pc := 16) C cl_X9_247 ls_X9_isBetween (by decide) dX9_near_16 (Nat.le_of_ble_eq_true rfl) ((sf_X9_isBetween (h := h) ).mono (fun v h9 hp => ?_))
    obtain ⟨e1, e2⟩ := hp
    rw [e1, e2]
    refine w_if_eq (pc := 19) C (tgt := 33) dX9_near_19 (by decide) ?_
    obtain ⟨hv1, hv2⟩ := hv
    refine ⟨fun c13 => ?_, fun c13 => ?_⟩
    · have hv := hv1 c13
      refine w_iconst (pc := 33) C (v := (-1)) dX9_near_33 (by decide) ?_
      exact w_iret (pc := 34) C dX9_near_34 hv
    · have hv := hv2 c13
      refine w_iload_n (pc := 22) C dX9_near_22 rfl ?_
      refine w_iconst (pc := 23) C (v := 1) dX9_near_23 (by decide) ?_
      refine w_sipush (pc := 24) C (v := 1000) dX9_near_24 (by decide) ?_
      refine w_cS0_3 (pc := 27) C cl_X9_247 ls_X9_isBetween (by decide) dX9_near_27 (Nat.le_of_ble_eq_true rfl) ((sf_X9_isBetween (h := h) ).mono (fun v h9 hp => ?_))
      obtain ⟨e1, e2⟩ := hp
      rw [e1, e2]
      refine w_if_ne (pc := 30) C (tgt := 35) dX9_near_30 (by decide) ?_
      obtain ⟨hv1, hv2⟩ := hv
      refine ⟨fun c12 => ?_, fun c12 => ?_⟩
      · have hv := hv1 c12
        refine w_aload_n (pc := 35) C dX9_near_35 rfl ?_
        refine w_iload_n (pc := 36) C dX9_near_36 rfl ?_
        refine w_i2l (pc := 37) C dX9_near_37 ?_
        refine w_iload_n (pc := 38) C dX9_near_38 rfl ?_
        refine w_i2l (pc := 39) C dX9_near_39 ?_
        refine w_iload_n (pc := 40) C dX9_near_40 rfl ?_
        obtain ⟨f1, hv⟩ := hv
        refine w_cV0_3 (pc := 41) C cl_X9_312 lv_X9_findNear (by decide) dX9_near_41 (Nat.le_of_ble_eq_true rfl) (c := 9) rfl (St9_k f1) (hv.mono (fun v h2 hp => ?_))
        obtain ⟨rfl, hv⟩ := hp
        refine w_aload_n (pc := 44) C dX9_near_44 rfl ?_
        obtain ⟨f3, hv⟩ := hv
        refine w_getR (pc := 45) C fl_X9_19 rfl dX9_near_45 (St9_k f3) (St9_r1 f3) ?_
        refine w_cV0_0 (pc := 48) C cl_X9_158 lv_X8_clear (by decide) dX9_near_48 (Nat.le_of_ble_eq_true rfl) (c := 8) rfl (St8_k (St9_s1 f3)) ((sf_X8_clear (h := h2) (St9_s1 f3)).mono (fun v h9 hp => ?_))
        obtain ⟨e1, e2⟩ := hp
        rw [e1, e2]
        refine w_aload_n (pc := 51) C dX9_near_51 rfl ?_
        refine w_getR (pc := 52) C fl_X9_19 rfl dX9_near_52 (St9_k f3) (St9_r1 f3) ?_
        refine w_aload_n (pc := 55) C dX9_near_55 rfl ?_
        refine w_getR (pc := 56) C fl_X9_54 rfl dX9_near_56 (St9_k f3) (St9_r6 f3) ?_
        refine w_cV0_1 (pc := 59) C cl_X9_293 lv_X8_addFraction (by decide) dX9_near_59 (Nat.le_of_ble_eq_true rfl) (c := 8) rfl (St8_k (St9_s1 f3)) (hv.mono (fun v h4 hp => ?_))
        obtain ⟨rfl, hv⟩ := hp
        refine w_aload_n (pc := 62) C dX9_near_62 rfl ?_
        obtain ⟨f5, hv⟩ := hv
        refine w_getR (pc := 63) C fl_X9_58 rfl dX9_near_63 (St9_k f5) (St9_r7 f5) ?_
        refine w_iload_n (pc := 66) C dX9_near_66 rfl ?_
        refine w_i2l (pc := 67) C dX9_near_67 ?_
        refine w_aload_n (pc := 68) C dX9_near_68 rfl ?_
        refine w_getR (pc := 69) C fl_X9_54 rfl dX9_near_69 (St9_k f5) (St9_r6 f5) ?_
        refine w_getL (pc := 72) C fl_X9_300 rfl dX9_near_72 (St9_k6 f5) ?_
        refine w_lmul (pc := 75) C dX9_near_75 ?_
        refine w_aload_n (pc := 76) C dX9_near_76 rfl ?_
        refine w_getR (pc := 77) C fl_X9_54 rfl dX9_near_77 (St9_k f5) (St9_r6 f5) ?_
        refine w_getL (pc := 80) C fl_X9_297 rfl dX9_near_80 (St9_k6 f5) ?_
        refine w_iload_n (pc := 83) C dX9_near_83 rfl ?_
        refine w_i2l (pc := 84) C dX9_near_84 ?_
        refine w_lmul (pc := 85) C dX9_near_85 ?_
        refine w_lsub (pc := 86) C dX9_near_86 ?_
        refine w_cS0_1 (pc := 87) C cl_X9_302 ls_J9_abs_067f4 (by decide) dX9_near_87 (Nat.le_of_ble_eq_true rfl) ((sf_J9_abs_067f4 (h := h4) ).mono (fun v h9 hp => ?_))
        obtain ⟨e1, e2⟩ := hp
        rw [e1, e2]
        refine w_iload_n (pc := 90) C dX9_near_90 rfl ?_
        refine w_i2l (pc := 91) C dX9_near_91 ?_
        refine w_aload_n (pc := 92) C dX9_near_92 rfl ?_
        refine w_getR (pc := 93) C fl_X9_54 rfl dX9_near_93 (St9_k f5) (St9_r6 f5) ?_
        refine w_getL (pc := 96) C fl_X9_300 rfl dX9_near_96 (St9_k6 f5) ?_
        refine w_lmul (pc := 99) C dX9_near_99 ?_
        obtain ⟨f6, hv⟩ := hv
        obtain ⟨f7, hv⟩ := hv
        refine w_cV0_2 (pc := 100) C cl_X9_289 lv_X2_put (by decide) dX9_near_100 (Nat.le_of_ble_eq_true rfl) (c := 2) rfl (St9_k7 f5) ((sf_X2_put (h := h4) (St9_k7 f5) f6 f7).mono (fun v h9 hp => ?_))
        obtain ⟨e1, e2⟩ := hp
        rw [e1, e2]
        refine w_aload_n (pc := 103) C dX9_near_103 rfl ?_
        refine w_getR (pc := 104) C fl_X9_19 rfl dX9_near_104 (St9_k f5) (St9_r1 f5) ?_
        refine w_aload_n (pc := 107) C dX9_near_107 rfl ?_
        refine w_getR (pc := 108) C fl_X9_58 rfl dX9_near_108 (St9_k f5) (St9_r7 f5) ?_
        refine w_cV0_1 (pc := 111) C cl_X9_293 lv_X8_addFraction (by decide) dX9_near_111 (Nat.le_of_ble_eq_true rfl) (c := 8) rfl (St8_k (St9_s1 f5)) (hv.mono (fun v h8 hp => ?_))
        obtain ⟨rfl, hv⟩ := hp
        refine w_aload_n (pc := 114) C dX9_near_114 rfl ?_
        obtain ⟨f9, hv⟩ := hv
        refine w_getR (pc := 115) C fl_X9_54 rfl dX9_near_115 (St9_k f9) (St9_r6 f9) ?_
        refine w_getL (pc := 118) C fl_X9_297 rfl dX9_near_118 (St9_k6 f9) ?_
        refine w_aload_n (pc := 121) C dX9_near_121 rfl ?_
        refine w_getR (pc := 122) C fl_X9_54 rfl dX9_near_122 (St9_k f9) (St9_r6 f9) ?_
        refine w_getL (pc := 125) C fl_X9_300 rfl dX9_near_125 (St9_k6 f9) ?_
        refine w_cS0_2 (pc := 128) C cl_X9_316 ls_X9_treeSteps (by decide) dX9_near_128 (Nat.le_of_ble_eq_true rfl) (hv.mono (fun v h10 hp => ?_))
        obtain ⟨x11, rfl, hv⟩ := hp
        exact w_iret (pc := 131) C dX9_near_131 hv
      · have hv := hv2 c12
        refine w_iconst (pc := 33) C (v := (-1)) dX9_near_33 (by decide) ?_
        exact w_iret (pc := 34) C dX9_near_34 hv
theorem dX9_tree_0 : decode cX9_tree 0 = .ok (.iload_n 1, 1) := by decide +kernel
theorem dX9_tree_1 : decode cX9_tree 1 = .ok (.iconst 1, 1) := by decide +kernel
theorem dX9_tree_2 : decode cX9_tree 2 = .ok (.sipush 400, 3) := by decide +kernel
theorem dX9_tree_5 : decode cX9_tree 5 = .ok (.invokestatic 247, 3) := by decide +kernel
theorem dX9_tree_8 : decode cX9_tree 8 = .ok (.ifCond .eq 14, 3) := by decide +kernel
theorem dX9_tree_11 : decode cX9_tree 11 = .ok (.iload_n 2, 1) := by decide +kernel
theorem dX9_tree_12 : decode cX9_tree 12 = .ok (.iconst 1, 1) := by decide +kernel
theorem dX9_tree_13 : decode cX9_tree 13 = .ok (.sipush 400, 3) := by decide +kernel
theorem dX9_tree_16 : decode cX9_tree 16 = .ok (.invokestatic 247, 3) := by decide +kernel
theorem dX9_tree_19 : decode cX9_tree 19 = .ok (.ifCond .ne 5, 3) := by decide +kernel
theorem dX9_tree_22 : decode cX9_tree 22 = .ok (.iconst (-1), 1) := by decide +kernel
theorem dX9_tree_23 : decode cX9_tree 23 = .ok (.ireturn, 1) := by decide +kernel
theorem dX9_tree_24 : decode cX9_tree 24 = .ok (.aload_n 0, 1) := by decide +kernel
theorem dX9_tree_25 : decode cX9_tree 25 = .ok (.getfield 54, 3) := by decide +kernel
theorem dX9_tree_28 : decode cX9_tree 28 = .ok (.iload_n 1, 1) := by decide +kernel
theorem dX9_tree_29 : decode cX9_tree 29 = .ok (.i2l, 1) := by decide +kernel
theorem dX9_tree_30 : decode cX9_tree 30 = .ok (.iload_n 2, 1) := by decide +kernel
theorem dX9_tree_31 : decode cX9_tree 31 = .ok (.i2l, 1) := by decide +kernel
theorem dX9_tree_32 : decode cX9_tree 32 = .ok (.invokevirtual 289, 3) := by decide +kernel
theorem dX9_tree_35 : decode cX9_tree 35 = .ok (.aload_n 0, 1) := by decide +kernel
theorem dX9_tree_36 : decode cX9_tree 36 = .ok (.getfield 54, 3) := by decide +kernel
theorem dX9_tree_39 : decode cX9_tree 39 = .ok (.getfield 297, 3) := by decide +kernel
theorem dX9_tree_42 : decode cX9_tree 42 = .ok (.lstore_n 3, 1) := by decide +kernel
theorem dX9_tree_43 : decode cX9_tree 43 = .ok (.aload_n 0, 1) := by decide +kernel
theorem dX9_tree_44 : decode cX9_tree 44 = .ok (.getfield 54, 3) := by decide +kernel
theorem dX9_tree_47 : decode cX9_tree 47 = .ok (.getfield 300, 3) := by decide +kernel
theorem dX9_tree_50 : decode cX9_tree 50 = .ok (.lstore 5, 2) := by decide +kernel
theorem dX9_tree_52 : decode cX9_tree 52 = .ok (.aload_n 0, 1) := by decide +kernel
theorem dX9_tree_53 : decode cX9_tree 53 = .ok (.getfield 19, 3) := by decide +kernel
theorem dX9_tree_56 : decode cX9_tree 56 = .ok (.invokevirtual 158, 3) := by decide +kernel
theorem dX9_tree_59 : decode cX9_tree 59 = .ok (.iconst 0, 1) := by decide +kernel
theorem dX9_tree_60 : decode cX9_tree 60 = .ok (.istore 7, 2) := by decide +kernel
theorem dX9_tree_62 : decode cX9_tree 62 = .ok (.iconst 0, 1) := by decide +kernel
theorem dX9_tree_63 : decode cX9_tree 63 = .ok (.istore 8, 2) := by decide +kernel
theorem dX9_tree_65 : decode cX9_tree 65 = .ok (.iload 8, 2) := by decide +kernel
theorem dX9_tree_67 : decode cX9_tree 67 = .ok (.sipush 800, 3) := by decide +kernel
theorem dX9_tree_70 : decode cX9_tree 70 = .ok (.if_icmp .ge 56, 3) := by decide +kernel
theorem dX9_tree_73 : decode cX9_tree 73 = .ok (.lload_n 3, 1) := by decide +kernel
theorem dX9_tree_74 : decode cX9_tree 74 = .ok (.lload 5, 2) := by decide +kernel
theorem dX9_tree_76 : decode cX9_tree 76 = .ok (.lcmp, 1) := by decide +kernel
theorem dX9_tree_77 : decode cX9_tree 77 = .ok (.ifCond .eq 49, 3) := by decide +kernel
theorem dX9_tree_80 : decode cX9_tree 80 = .ok (.lload_n 3, 1) := by decide +kernel
theorem dX9_tree_81 : decode cX9_tree 81 = .ok (.lload 5, 2) := by decide +kernel
theorem dX9_tree_83 : decode cX9_tree 83 = .ok (.lcmp, 1) := by decide +kernel
theorem dX9_tree_84 : decode cX9_tree 84 = .ok (.ifCond .le 19, 3) := by decide +kernel
theorem dX9_tree_87 : decode cX9_tree 87 = .ok (.aload_n 0, 1) := by decide +kernel
theorem dX9_tree_88 : decode cX9_tree 88 = .ok (.getfield 19, 3) := by decide +kernel
theorem dX9_tree_91 : decode cX9_tree 91 = .ok (.lconst 1, 1) := by decide +kernel
theorem dX9_tree_92 : decode cX9_tree 92 = .ok (.invokevirtual 164, 3) := by decide +kernel
theorem dX9_tree_95 : decode cX9_tree 95 = .ok (.lload_n 3, 1) := by decide +kernel
theorem dX9_tree_96 : decode cX9_tree 96 = .ok (.lload 5, 2) := by decide +kernel
theorem dX9_tree_98 : decode cX9_tree 98 = .ok (.lsub, 1) := by decide +kernel
theorem dX9_tree_99 : decode cX9_tree 99 = .ok (.lstore_n 3, 1) := by decide +kernel
theorem dX9_tree_100 : decode cX9_tree 100 = .ok (.goto 17, 3) := by decide +kernel
theorem dX9_tree_103 : decode cX9_tree 103 = .ok (.aload_n 0, 1) := by decide +kernel
theorem dX9_tree_104 : decode cX9_tree 104 = .ok (.getfield 19, 3) := by decide +kernel
theorem dX9_tree_107 : decode cX9_tree 107 = .ok (.lconst 0, 1) := by decide +kernel
theorem dX9_tree_108 : decode cX9_tree 108 = .ok (.invokevirtual 164, 3) := by decide +kernel
theorem dX9_tree_111 : decode cX9_tree 111 = .ok (.lload 5, 2) := by decide +kernel
theorem dX9_tree_113 : decode cX9_tree 113 = .ok (.lload_n 3, 1) := by decide +kernel
theorem dX9_tree_114 : decode cX9_tree 114 = .ok (.lsub, 1) := by decide +kernel
theorem dX9_tree_115 : decode cX9_tree 115 = .ok (.lstore 5, 2) := by decide +kernel
theorem dX9_tree_117 : decode cX9_tree 117 = .ok (.iinc 7 1, 3) := by decide +kernel
theorem dX9_tree_120 : decode cX9_tree 120 = .ok (.iinc 8 1, 3) := by decide +kernel
theorem dX9_tree_123 : decode cX9_tree 123 = .ok (.goto (-58), 3) := by decide +kernel
theorem dX9_tree_126 : decode cX9_tree 126 = .ok (.iload 7, 2) := by decide +kernel
theorem dX9_tree_128 : decode cX9_tree 128 = .ok (.ireturn, 1) := by decide +kernel
set_option maxRecDepth 20000 in
set_option maxHeartbeats 2000000 in
theorem V_X9_tree_0 {X : Ctx} (C : C_X9_tree X) {k n : Nat} {Q : Pq} {h : Hp} {v0 : Nat} {v1 v2 : Int32}
    (hv : (((bt v1 1 400) = 0 → Q (some (.int (-1))) h) ∧
    (¬ (bt v1 1 400) = 0 → ((¬ (bt v2 1 400) = 0 → St9 h v0 ∧ -9223372036854775807 ≤ (Int64.toInt (Int32.toInt64 v1)) ∧ 0 < (Int64.toInt (Int32.toInt64 v2)) ∧ (∀ z4 : Int64, z4 = (gl (fpt h (v0 + 13) (Int32.toInt64 v1) (Int32.toInt64 v2)) (v0 + 13) 0) →
    (∀ z5 : Int64, z5 = (gl (fpt h (v0 + 13) (Int32.toInt64 v1) (Int32.toInt64 v2)) (v0 + 13) 1) →
    Wj X k n Q 65 [(0, .ref v0), (3, .long z4), (5, .long z5), (7, .int 0), (8, .int 0)] [] (tcl (fpt h (v0 + 13) (Int32.toInt64 v1) (Int32.toInt64 v2)) (v0 + 3))))) ∧
    ((bt v2 1 400) = 0 → Q (some (.int (-1))) h))))) :
    Wj X k n Q 0 [(0, .ref v0), (1, .int v1), (2, .int v2)] [] h := by
  refine w_iload_n (pc := 0) C dX9_tree_0 rfl ?_
  refine w_iconst (pc := 1) C (v := 1) dX9_tree_1 (by decide) ?_
  refine w_sipush (pc := 2) C (v := 400) dX9_tree_2 (by decide) ?_
  refine w_cS0_3 (pc := 5) C cl_X9_247 ls_X9_isBetween (by decide) dX9_tree_5 (Nat.le_of_ble_eq_true rfl) ((sf_X9_isBetween (h := h) ).mono (fun v h9 hp => ?_))
  obtain ⟨e1, e2⟩ := hp
  rw [e1, e2]
  refine w_if_eq (pc := 8) C (tgt := 22) dX9_tree_8 (by decide) ?_
  obtain ⟨hv1, hv2⟩ := hv
  refine ⟨fun c7 => ?_, fun c7 => ?_⟩
  · have hv := hv1 c7
    refine w_iconst (pc := 22) C (v := (-1)) dX9_tree_22 (by decide) ?_
    exact w_iret (pc := 23) C dX9_tree_23 hv
  · have hv := hv2 c7
    refine w_iload_n (pc := 11) C dX9_tree_11 rfl ?_
    refine w_iconst (pc := 12) C (v := 1) dX9_tree_12 (by decide) ?_
    refine w_sipush (pc := 13) C (v := 400) dX9_tree_13 (by decide) ?_
    refine w_cS0_3 (pc := 16) C cl_X9_247 ls_X9_isBetween (by decide) dX9_tree_16 (Nat.le_of_ble_eq_true rfl) ((sf_X9_isBetween (h := h) ).mono (fun v h9 hp => ?_))
    obtain ⟨e1, e2⟩ := hp
    rw [e1, e2]
    refine w_if_ne (pc := 19) C (tgt := 24) dX9_tree_19 (by decide) ?_
    obtain ⟨hv1, hv2⟩ := hv
    refine ⟨fun c6 => ?_, fun c6 => ?_⟩
    · have hv := hv1 c6
      refine w_aload_n (pc := 24) C dX9_tree_24 rfl ?_
      obtain ⟨f1, hv⟩ := hv
      refine w_getR (pc := 25) C fl_X9_54 rfl dX9_tree_25 (St9_k f1) (St9_r6 f1) ?_
      refine w_iload_n (pc := 28) C dX9_tree_28 rfl ?_
      refine w_i2l (pc := 29) C dX9_tree_29 ?_
      refine w_iload_n (pc := 30) C dX9_tree_30 rfl ?_
      refine w_i2l (pc := 31) C dX9_tree_31 ?_
      obtain ⟨f2, hv⟩ := hv
      obtain ⟨f3, hv⟩ := hv
      refine w_cV0_2 (pc := 32) C cl_X9_289 lv_X2_put (by decide) dX9_tree_32 (Nat.le_of_ble_eq_true rfl) (c := 2) rfl (St9_k6 f1) ((sf_X2_put (h := h) (St9_k6 f1) f2 f3).mono (fun v h9 hp => ?_))
      obtain ⟨e1, e2⟩ := hp
      rw [e1, e2]
      refine w_aload_n (pc := 35) C dX9_tree_35 rfl ?_
      refine w_getR (pc := 36) C fl_X9_54 rfl dX9_tree_36 (St9_k f1) (St9_r6 f1) ?_
      refine w_getL (pc := 39) C fl_X9_297 rfl dX9_tree_39 (St9_k6 f1) ?_
      obtain ⟨z4, ez4⟩ : ∃ z : Int64, z = (gl (fpt h (v0 + 13) (Int32.toInt64 v1) (Int32.toInt64 v2)) (v0 + 13) 0) := ⟨_, rfl⟩
      have hv := hv z4 ez4
      rw [← ez4]
      refine w_lstore_n (pc := 42) C dX9_tree_42 (by decide) ?_
      refine w_aload_n (pc := 43) C dX9_tree_43 rfl ?_
      refine w_getR (pc := 44) C fl_X9_54 rfl dX9_tree_44 (St9_k f1) (St9_r6 f1) ?_
      refine w_getL (pc := 47) C fl_X9_300 rfl dX9_tree_47 (St9_k6 f1) ?_
      obtain ⟨z5, ez5⟩ : ∃ z : Int64, z = (gl (fpt h (v0 + 13) (Int32.toInt64 v1) (Int32.toInt64 v2)) (v0 + 13) 1) := ⟨_, rfl⟩
      have hv := hv z5 ez5
      rw [← ez5]
      refine w_lstore (pc := 50) C dX9_tree_50 (by decide) ?_
      refine w_aload_n (pc := 52) C dX9_tree_52 rfl ?_
      refine w_getR (pc := 53) C fl_X9_19 rfl dX9_tree_53 (St9_k f1) (St9_r1 f1) ?_
      refine w_cV0_0 (pc := 56) C cl_X9_158 lv_X8_clear (by decide) dX9_tree_56 (Nat.le_of_ble_eq_true rfl) (c := 8) rfl (St8_k (St9_s1 f1)) ((sf_X8_clear (h := (fpt h (v0 + 13) (Int32.toInt64 v1) (Int32.toInt64 v2))) (St9_s1 f1)).mono (fun v h9 hp => ?_))
      obtain ⟨e1, e2⟩ := hp
      rw [e1, e2]
      refine w_iconst (pc := 59) C (v := 0) dX9_tree_59 (by decide) ?_
      refine w_istore (pc := 60) C dX9_tree_60 (by decide) ?_
      refine w_iconst (pc := 62) C (v := 0) dX9_tree_62 (by decide) ?_
      refine w_istore (pc := 63) C dX9_tree_63 (by decide) ?_
      refine w_sub ?_ hv
      exact ⟨rfl, rfl, rfl, rfl, rfl, trivial⟩
    · have hv := hv2 c6
      refine w_iconst (pc := 22) C (v := (-1)) dX9_tree_22 (by decide) ?_
      exact w_iret (pc := 23) C dX9_tree_23 hv
set_option maxRecDepth 20000 in
set_option maxHeartbeats 2000000 in
theorem V_X9_tree_65 {X : Ctx} (C : C_X9_tree X) {k n : Nat} {Q : Pq} {h : Hp} {v0 : Nat} {v3 v5 : Int64} {v7 v8 : Int32}
    (hv : ((800 ≤ v8 → Q (some (.int v7)) h) ∧
    (¬ 800 ≤ v8 → ((v3 = v5 → Q (some (.int v7)) h) ∧
    (¬ v3 = v5 → ((v3 ≤ v5 → St9 h v0 ∧ S_X8_add (lX X) (dtX X) 0 0 [.ref (v0 + 3), .long 0] h (QV fun h2 =>
    Wj X k n Q 65 [(0, .ref v0), (3, .long v3), (5, .long (v5 - v3)), (7, .int (v7 + Int32.ofInt 1)), (8, .int (v8 + Int32.ofInt 1))] [] h2)) ∧
    (¬ v3 ≤ v5 → St9 h v0 ∧ S_X8_add (lX X) (dtX X) 0 0 [.ref (v0 + 3), .long 1] h (QV fun h4 =>
    Wj X k n Q 65 [(0, .ref v0), (3, .long (v3 - v5)), (5, .long v5), (7, .int (v7 + Int32.ofInt 1)), (8, .int (v8 + Int32.ofInt 1))] [] h4)))))))) :
    Wj X k n Q 65 [(0, .ref v0), (3, .long v3), (5, .long v5), (7, .int v7), (8, .int v8)] [] h := by
  refine w_iload (pc := 65) C dX9_tree_65 rfl ?_
  refine w_sipush (pc := 67) C (v := 800) dX9_tree_67 (by decide) ?_
  refine w_icmp_ge (pc := 70) C (tgt := 126) dX9_tree_70 (by decide) ?_
  obtain ⟨hv1, hv2⟩ := hv
  refine ⟨fun c7 => ?_, fun c7 => ?_⟩
  · have hv := hv1 c7
    refine w_iload (pc := 126) C dX9_tree_126 rfl ?_
    exact w_iret (pc := 128) C dX9_tree_128 hv
  · have hv := hv2 c7
    refine w_lload_n (pc := 73) C dX9_tree_73 rfl ?_
    refine w_lload (pc := 74) C dX9_tree_74 rfl ?_
    refine w_lcmp_eq (pc := 76) C (tgt := 126) dX9_tree_76 dX9_tree_77 (by decide) ?_
    obtain ⟨hv1, hv2⟩ := hv
    refine ⟨fun c6 => ?_, fun c6 => ?_⟩
    · have hv := hv1 c6
      refine w_iload (pc := 126) C dX9_tree_126 rfl ?_
      exact w_iret (pc := 128) C dX9_tree_128 hv
    · have hv := hv2 c6
      refine w_lload_n (pc := 80) C dX9_tree_80 rfl ?_
      refine w_lload (pc := 81) C dX9_tree_81 rfl ?_
      refine w_lcmp_le (pc := 83) C (tgt := 103) dX9_tree_83 dX9_tree_84 (by decide) ?_
      obtain ⟨hv1, hv2⟩ := hv
      refine ⟨fun c5 => ?_, fun c5 => ?_⟩
      · have hv := hv1 c5
        refine w_aload_n (pc := 103) C dX9_tree_103 rfl ?_
        obtain ⟨f1, hv⟩ := hv
        refine w_getR (pc := 104) C fl_X9_19 rfl dX9_tree_104 (St9_k f1) (St9_r1 f1) ?_
        refine w_lconst (pc := 107) C (v := 0) dX9_tree_107 (by decide) ?_
        refine w_cV0_1 (pc := 108) C cl_X9_164 lv_X8_add (by decide) dX9_tree_108 (Nat.le_of_ble_eq_true rfl) (c := 8) rfl (St8_k (St9_s1 f1)) (hv.mono (fun v h2 hp => ?_))
        obtain ⟨rfl, hv⟩ := hp
        refine w_lload (pc := 111) C dX9_tree_111 rfl ?_
        refine w_lload_n (pc := 113) C dX9_tree_113 rfl ?_
        refine w_lsub (pc := 114) C dX9_tree_114 ?_
        refine w_lstore (pc := 115) C dX9_tree_115 (by decide) ?_
        refine w_iinc (pc := 117) C dX9_tree_117 rfl (by decide) ?_
        refine w_iinc (pc := 120) C dX9_tree_120 rfl (by decide) ?_
        refine w_goto (pc := 123) C (tgt := 65) dX9_tree_123 (by decide) ?_
        refine w_sub ?_ hv
        exact ⟨rfl, rfl, rfl, rfl, rfl, trivial⟩
      · have hv := hv2 c5
        refine w_aload_n (pc := 87) C dX9_tree_87 rfl ?_
        obtain ⟨f3, hv⟩ := hv
        refine w_getR (pc := 88) C fl_X9_19 rfl dX9_tree_88 (St9_k f3) (St9_r1 f3) ?_
        refine w_lconst (pc := 91) C (v := 1) dX9_tree_91 (by decide) ?_
        refine w_cV0_1 (pc := 92) C cl_X9_164 lv_X8_add (by decide) dX9_tree_92 (Nat.le_of_ble_eq_true rfl) (c := 8) rfl (St8_k (St9_s1 f3)) (hv.mono (fun v h4 hp => ?_))
        obtain ⟨rfl, hv⟩ := hp
        refine w_lload_n (pc := 95) C dX9_tree_95 rfl ?_
        refine w_lload (pc := 96) C dX9_tree_96 rfl ?_
        refine w_lsub (pc := 98) C dX9_tree_98 ?_
        refine w_lstore_n (pc := 99) C dX9_tree_99 (by decide) ?_
        refine w_goto (pc := 100) C (tgt := 117) dX9_tree_100 (by decide) ?_
        refine w_iinc (pc := 117) C dX9_tree_117 rfl (by decide) ?_
        refine w_iinc (pc := 120) C dX9_tree_120 rfl (by decide) ?_
        refine w_goto (pc := 123) C (tgt := 65) dX9_tree_123 (by decide) ?_
        refine w_sub ?_ hv
        exact ⟨rfl, rfl, rfl, rfl, rfl, trivial⟩
theorem dX9_tellAngle_0 : decode cX9_tellAngle 0 = .ok (.aload_n 0, 1) := by decide +kernel
theorem dX9_tellAngle_1 : decode cX9_tellAngle 1 = .ok (.getfield 78, 3) := by decide +kernel
theorem dX9_tellAngle_4 : decode cX9_tellAngle 4 = .ok (.iload_n 1, 1) := by decide +kernel
theorem dX9_tellAngle_5 : decode cX9_tellAngle 5 = .ok (.invokevirtual 168, 3) := by decide +kernel
theorem dX9_tellAngle_8 : decode cX9_tellAngle 8 = .ok (.istore 4, 2) := by decide +kernel
theorem dX9_tellAngle_10 : decode cX9_tellAngle 10 = .ok (.aload_n 0, 1) := by decide +kernel
theorem dX9_tellAngle_11 : decode cX9_tellAngle 11 = .ok (.getfield 19, 3) := by decide +kernel
theorem dX9_tellAngle_14 : decode cX9_tellAngle 14 = .ok (.invokevirtual 158, 3) := by decide +kernel
theorem dX9_tellAngle_17 : decode cX9_tellAngle 17 = .ok (.aload_n 0, 1) := by decide +kernel
theorem dX9_tellAngle_18 : decode cX9_tellAngle 18 = .ok (.getfield 19, 3) := by decide +kernel
theorem dX9_tellAngle_21 : decode cX9_tellAngle 21 = .ok (.iload_n 1, 1) := by decide +kernel
theorem dX9_tellAngle_22 : decode cX9_tellAngle 22 = .ok (.i2l, 1) := by decide +kernel
theorem dX9_tellAngle_23 : decode cX9_tellAngle 23 = .ok (.invokevirtual 164, 3) := by decide +kernel
theorem dX9_tellAngle_26 : decode cX9_tellAngle 26 = .ok (.aload_n 0, 1) := by decide +kernel
theorem dX9_tellAngle_27 : decode cX9_tellAngle 27 = .ok (.getfield 19, 3) := by decide +kernel
theorem dX9_tellAngle_30 : decode cX9_tellAngle 30 = .ok (.iload 4, 2) := by decide +kernel
theorem dX9_tellAngle_32 : decode cX9_tellAngle 32 = .ok (.ifCond .ne 7, 3) := by decide +kernel
theorem dX9_tellAngle_35 : decode cX9_tellAngle 35 = .ok (.lconst 0, 1) := by decide +kernel
theorem dX9_tellAngle_36 : decode cX9_tellAngle 36 = .ok (.goto 8, 3) := by decide +kernel
theorem dX9_tellAngle_39 : decode cX9_tellAngle 39 = .ok (.lload_n 2, 1) := by decide +kernel
theorem dX9_tellAngle_40 : decode cX9_tellAngle 40 = .ok (.iload 4, 2) := by decide +kernel
theorem dX9_tellAngle_42 : decode cX9_tellAngle 42 = .ok (.i2l, 1) := by decide +kernel
theorem dX9_tellAngle_43 : decode cX9_tellAngle 43 = .ok (.ldiv, 1) := by decide +kernel
theorem dX9_tellAngle_44 : decode cX9_tellAngle 44 = .ok (.invokevirtual 164, 3) := by decide +kernel
theorem dX9_tellAngle_47 : decode cX9_tellAngle 47 = .ok (.aload_n 0, 1) := by decide +kernel
theorem dX9_tellAngle_48 : decode cX9_tellAngle 48 = .ok (.getfield 19, 3) := by decide +kernel
theorem dX9_tellAngle_51 : decode cX9_tellAngle 51 = .ok (.iload 4, 2) := by decide +kernel
theorem dX9_tellAngle_53 : decode cX9_tellAngle 53 = .ok (.ifCond .ne 7, 3) := by decide +kernel
theorem dX9_tellAngle_56 : decode cX9_tellAngle 56 = .ok (.lconst 0, 1) := by decide +kernel
theorem dX9_tellAngle_57 : decode cX9_tellAngle 57 = .ok (.goto 8, 3) := by decide +kernel
theorem dX9_tellAngle_60 : decode cX9_tellAngle 60 = .ok (.lload_n 2, 1) := by decide +kernel
theorem dX9_tellAngle_61 : decode cX9_tellAngle 61 = .ok (.iload 4, 2) := by decide +kernel
theorem dX9_tellAngle_63 : decode cX9_tellAngle 63 = .ok (.i2l, 1) := by decide +kernel
theorem dX9_tellAngle_64 : decode cX9_tellAngle 64 = .ok (.lrem, 1) := by decide +kernel
theorem dX9_tellAngle_65 : decode cX9_tellAngle 65 = .ok (.invokevirtual 164, 3) := by decide +kernel
theorem dX9_tellAngle_68 : decode cX9_tellAngle 68 = .ok (.return_, 1) := by decide +kernel
set_option maxRecDepth 20000 in
set_option maxHeartbeats 2000000 in
theorem V_X9_tellAngle_0 {X : Ctx} (C : C_X9_tellAngle X) {k n : Nat} {Q : Pq} {h : Hp} {v0 : Nat} {v1 : Int32} {v2 : Int64}
    (hv : St9 h v0 ∧ nn h v0 12 ∧ St4 h (gp h v0 12) ∧ S_X8_add (lX X) (dtX X) 0 0 [.ref (v0 + 3), .long (Int32.toInt64 v1)] (tcl h (v0 + 3)) (QV fun h4 =>
    St9 h4 v0 ∧ ((¬ (hHo h (gp h v0 12) v1) = 0 → ¬ (Int32.toInt64 (hHo h (gp h v0 12) v1)) = 0 ∧ Wj X k n Q 44 [(0, .ref v0), (2, .long v2), (4, .int (hHo h (gp h v0 12) v1))] [.long (v2 / (Int32.toInt64 (hHo h (gp h v0 12) v1))), .ref (v0 + 3)] h4) ∧
    ((hHo h (gp h v0 12) v1) = 0 → Wj X k n Q 44 [(0, .ref v0), (2, .long v2), (4, .int (hHo h (gp h v0 12) v1))] [.long 0, .ref (v0 + 3)] h4)))) :
    Wj X k n Q 0 [(0, .ref v0), (1, .int v1), (2, .long v2)] [] h := by
  refine w_aload_n (pc := 0) C dX9_tellAngle_0 rfl ?_
  obtain ⟨f1, hv⟩ := hv
  obtain ⟨f2, hv⟩ := hv
  refine w_getR (pc := 1) C fl_X9_78 rfl dX9_tellAngle_1 (St9_k f1) f2 ?_
  refine w_iload_n (pc := 4) C dX9_tellAngle_4 rfl ?_
  obtain ⟨f3, hv⟩ := hv
  refine w_cV0_1 (pc := 5) C cl_X9_168 lv_X4_holesOf (by decide) dX9_tellAngle_5 (Nat.le_of_ble_eq_true rfl) (c := 4) rfl (St4_k f3) ((sf_X4_holesOf (h := h) f3).mono (fun v h9 hp => ?_))
  obtain ⟨e1, e2⟩ := hp
  rw [e1, e2]
  refine w_istore (pc := 8) C dX9_tellAngle_8 (by decide) ?_
  refine w_aload_n (pc := 10) C dX9_tellAngle_10 rfl ?_
  refine w_getR (pc := 11) C fl_X9_19 rfl dX9_tellAngle_11 (St9_k f1) (St9_r1 f1) ?_
  refine w_cV0_0 (pc := 14) C cl_X9_158 lv_X8_clear (by decide) dX9_tellAngle_14 (Nat.le_of_ble_eq_true rfl) (c := 8) rfl (St8_k (St9_s1 f1)) ((sf_X8_clear (h := h) (St9_s1 f1)).mono (fun v h9 hp => ?_))
  obtain ⟨e1, e2⟩ := hp
  rw [e1, e2]
  refine w_aload_n (pc := 17) C dX9_tellAngle_17 rfl ?_
  refine w_getR (pc := 18) C fl_X9_19 rfl dX9_tellAngle_18 (St9_k f1) (St9_r1 f1) ?_
  refine w_iload_n (pc := 21) C dX9_tellAngle_21 rfl ?_
  refine w_i2l (pc := 22) C dX9_tellAngle_22 ?_
  refine w_cV0_1 (pc := 23) C cl_X9_164 lv_X8_add (by decide) dX9_tellAngle_23 (Nat.le_of_ble_eq_true rfl) (c := 8) rfl (St8_k (St9_s1 f1)) (hv.mono (fun v h4 hp => ?_))
  obtain ⟨rfl, hv⟩ := hp
  refine w_aload_n (pc := 26) C dX9_tellAngle_26 rfl ?_
  obtain ⟨f5, hv⟩ := hv
  refine w_getR (pc := 27) C fl_X9_19 rfl dX9_tellAngle_27 (St9_k f5) (St9_r1 f5) ?_
  refine w_iload (pc := 30) C dX9_tellAngle_30 rfl ?_
  refine w_if_ne (pc := 32) C (tgt := 39) dX9_tellAngle_32 (by decide) ?_
  obtain ⟨hv1, hv2⟩ := hv
  refine ⟨fun c7 => ?_, fun c7 => ?_⟩
  · have hv := hv1 c7
    refine w_lload_n (pc := 39) C dX9_tellAngle_39 rfl ?_
    refine w_iload (pc := 40) C dX9_tellAngle_40 rfl ?_
    refine w_i2l (pc := 42) C dX9_tellAngle_42 ?_
    obtain ⟨f6, hv⟩ := hv
    refine w_ldiv (pc := 43) C dX9_tellAngle_43 f6 ?_
    refine w_sub ?_ hv
    exact ⟨rfl, rfl, rfl, trivial⟩
  · have hv := hv2 c7
    refine w_lconst (pc := 35) C (v := 0) dX9_tellAngle_35 (by decide) ?_
    refine w_goto (pc := 36) C (tgt := 44) dX9_tellAngle_36 (by decide) ?_
    refine w_sub ?_ hv
    exact ⟨rfl, rfl, rfl, trivial⟩
set_option maxRecDepth 20000 in
set_option maxHeartbeats 2000000 in
theorem V_X9_tellAngle_44 {X : Ctx} (C : C_X9_tellAngle X) {k n : Nat} {Q : Pq} {h : Hp} {v0 s0 : Nat} {v2 s1 : Int64} {v4 : Int32}
    (hv : St8 h s0 ∧ S_X8_add (lX X) (dtX X) 0 0 [.ref s0, .long s1] h (QV fun h2 =>
    St9 h2 v0 ∧ ((¬ v4 = 0 → ¬ (Int32.toInt64 v4) = 0 ∧ S_X8_add (lX X) (dtX X) 0 0 [.ref (v0 + 3), .long (v2 % (Int32.toInt64 v4))] h2 (QV fun h5 =>
    Q none h5)) ∧
    (v4 = 0 → S_X8_add (lX X) (dtX X) 0 0 [.ref (v0 + 3), .long 0] h2 (QV fun h6 =>
    Q none h6))))) :
    Wj X k n Q 44 [(0, .ref v0), (2, .long v2), (4, .int v4)] [.long s1, .ref s0] h := by
  obtain ⟨f1, hv⟩ := hv
  refine w_cV0_1 (pc := 44) C cl_X9_164 lv_X8_add (by decide) dX9_tellAngle_44 (Nat.le_of_ble_eq_true rfl) (c := 8) rfl (St8_k f1) (hv.mono (fun v h2 hp => ?_))
  obtain ⟨rfl, hv⟩ := hp
  refine w_aload_n (pc := 47) C dX9_tellAngle_47 rfl ?_
  obtain ⟨f3, hv⟩ := hv
  refine w_getR (pc := 48) C fl_X9_19 rfl dX9_tellAngle_48 (St9_k f3) (St9_r1 f3) ?_
  refine w_iload (pc := 51) C dX9_tellAngle_51 rfl ?_
  refine w_if_ne (pc := 53) C (tgt := 60) dX9_tellAngle_53 (by decide) ?_
  obtain ⟨hv1, hv2⟩ := hv
  refine ⟨fun c7 => ?_, fun c7 => ?_⟩
  · have hv := hv1 c7
    refine w_lload_n (pc := 60) C dX9_tellAngle_60 rfl ?_
    refine w_iload (pc := 61) C dX9_tellAngle_61 rfl ?_
    refine w_i2l (pc := 63) C dX9_tellAngle_63 ?_
    obtain ⟨f4, hv⟩ := hv
    refine w_lrem (pc := 64) C dX9_tellAngle_64 f4 ?_
    refine w_cV0_1 (pc := 65) C cl_X9_164 lv_X8_add (by decide) dX9_tellAngle_65 (Nat.le_of_ble_eq_true rfl) (c := 8) rfl (St8_k (St9_s1 f3)) (hv.mono (fun v h5 hp => ?_))
    obtain ⟨rfl, hv⟩ := hp
    exact w_vret (pc := 68) C dX9_tellAngle_68 hv
  · have hv := hv2 c7
    refine w_lconst (pc := 56) C (v := 0) dX9_tellAngle_56 (by decide) ?_
    refine w_goto (pc := 57) C (tgt := 65) dX9_tellAngle_57 (by decide) ?_
    refine w_cV0_1 (pc := 65) C cl_X9_164 lv_X8_add (by decide) dX9_tellAngle_65 (Nat.le_of_ble_eq_true rfl) (c := 8) rfl (St8_k (St9_s1 f3)) (hv.mono (fun v h6 hp => ?_))
    obtain ⟨rfl, hv⟩ := hp
    exact w_vret (pc := 68) C dX9_tellAngle_68 hv
theorem dX9_angle_0 : decode cX9_angle 0 = .ok (.iload_n 1, 1) := by decide +kernel
theorem dX9_angle_1 : decode cX9_angle 1 = .ok (.iconst 1, 1) := by decide +kernel
theorem dX9_angle_2 : decode cX9_angle 2 = .ok (.ldc_w 319, 3) := by decide +kernel
theorem dX9_angle_5 : decode cX9_angle 5 = .ok (.invokestatic 247, 3) := by decide +kernel
theorem dX9_angle_8 : decode cX9_angle 8 = .ok (.ifCond .ne 5, 3) := by decide +kernel
theorem dX9_angle_11 : decode cX9_angle 11 = .ok (.iconst (-1), 1) := by decide +kernel
theorem dX9_angle_12 : decode cX9_angle 12 = .ok (.ireturn, 1) := by decide +kernel
theorem dX9_angle_13 : decode cX9_angle 13 = .ok (.iconst (-1), 1) := by decide +kernel
theorem dX9_angle_14 : decode cX9_angle 14 = .ok (.istore_n 2, 1) := by decide +kernel
theorem dX9_angle_15 : decode cX9_angle 15 = .ok (.lconst 0, 1) := by decide +kernel
theorem dX9_angle_16 : decode cX9_angle 16 = .ok (.lstore_n 3, 1) := by decide +kernel
theorem dX9_angle_17 : decode cX9_angle 17 = .ok (.lconst 1, 1) := by decide +kernel
theorem dX9_angle_18 : decode cX9_angle 18 = .ok (.lstore 5, 2) := by decide +kernel
theorem dX9_angle_20 : decode cX9_angle 20 = .ok (.lconst 0, 1) := by decide +kernel
theorem dX9_angle_21 : decode cX9_angle 21 = .ok (.lstore 7, 2) := by decide +kernel
theorem dX9_angle_23 : decode cX9_angle 23 = .ok (.iconst 0, 1) := by decide +kernel
theorem dX9_angle_24 : decode cX9_angle 24 = .ok (.istore 9, 2) := by decide +kernel
theorem dX9_angle_26 : decode cX9_angle 26 = .ok (.iload 9, 2) := by decide +kernel
theorem dX9_angle_28 : decode cX9_angle 28 = .ok (.aload_n 0, 1) := by decide +kernel
theorem dX9_angle_29 : decode cX9_angle 29 = .ok (.getfield 78, 3) := by decide +kernel
theorem dX9_angle_32 : decode cX9_angle 32 = .ok (.getfield 131, 3) := by decide +kernel
theorem dX9_angle_35 : decode cX9_angle 35 = .ok (.if_icmp .ge 140, 3) := by decide +kernel
theorem dX9_angle_38 : decode cX9_angle 38 = .ok (.aload_n 0, 1) := by decide +kernel
theorem dX9_angle_39 : decode cX9_angle 39 = .ok (.getfield 78, 3) := by decide +kernel
theorem dX9_angle_42 : decode cX9_angle 42 = .ok (.iload 9, 2) := by decide +kernel
theorem dX9_angle_44 : decode cX9_angle 44 = .ok (.invokevirtual 168, 3) := by decide +kernel
theorem dX9_angle_47 : decode cX9_angle 47 = .ok (.i2l, 1) := by decide +kernel
theorem dX9_angle_48 : decode cX9_angle 48 = .ok (.aload_n 0, 1) := by decide +kernel
theorem dX9_angle_49 : decode cX9_angle 49 = .ok (.getfield 78, 3) := by decide +kernel
theorem dX9_angle_52 : decode cX9_angle 52 = .ok (.getfield 273, 3) := by decide +kernel
theorem dX9_angle_55 : decode cX9_angle 55 = .ok (.i2l, 1) := by decide +kernel
theorem dX9_angle_56 : decode cX9_angle 56 = .ok (.lmul, 1) := by decide +kernel
theorem dX9_angle_57 : decode cX9_angle 57 = .ok (.lstore 10, 2) := by decide +kernel
theorem dX9_angle_59 : decode cX9_angle 59 = .ok (.iload_n 1, 1) := by decide +kernel
theorem dX9_angle_60 : decode cX9_angle 60 = .ok (.i2l, 1) := by decide +kernel
theorem dX9_angle_61 : decode cX9_angle 61 = .ok (.lload 10, 2) := by decide +kernel
theorem dX9_angle_63 : decode cX9_angle 63 = .ok (.lmul, 1) := by decide +kernel
theorem dX9_angle_64 : decode cX9_angle 64 = .ok (.ldc2_w 320, 3) := by decide +kernel
theorem dX9_angle_67 : decode cX9_angle 67 = .ok (.ldiv, 1) := by decide +kernel
theorem dX9_angle_68 : decode cX9_angle 68 = .ok (.lstore 12, 2) := by decide +kernel
theorem dX9_angle_70 : decode cX9_angle 70 = .ok (.lload 12, 2) := by decide +kernel
theorem dX9_angle_72 : decode cX9_angle 72 = .ok (.lstore 14, 2) := by decide +kernel
theorem dX9_angle_74 : decode cX9_angle 74 = .ok (.lload 14, 2) := by decide +kernel
theorem dX9_angle_76 : decode cX9_angle 76 = .ok (.lload 12, 2) := by decide +kernel
theorem dX9_angle_78 : decode cX9_angle 78 = .ok (.lconst 1, 1) := by decide +kernel
theorem dX9_angle_79 : decode cX9_angle 79 = .ok (.ladd, 1) := by decide +kernel
theorem dX9_angle_80 : decode cX9_angle 80 = .ok (.lcmp, 1) := by decide +kernel
theorem dX9_angle_81 : decode cX9_angle 81 = .ok (.ifCond .gt 88, 3) := by decide +kernel
theorem dX9_angle_84 : decode cX9_angle 84 = .ok (.lload 14, 2) := by decide +kernel
theorem dX9_angle_86 : decode cX9_angle 86 = .ok (.ldc2_w 320, 3) := by decide +kernel
theorem dX9_angle_89 : decode cX9_angle 89 = .ok (.lmul, 1) := by decide +kernel
theorem dX9_angle_90 : decode cX9_angle 90 = .ok (.iload_n 1, 1) := by decide +kernel
theorem dX9_angle_91 : decode cX9_angle 91 = .ok (.i2l, 1) := by decide +kernel
theorem dX9_angle_92 : decode cX9_angle 92 = .ok (.lload 10, 2) := by decide +kernel
theorem dX9_angle_94 : decode cX9_angle 94 = .ok (.lmul, 1) := by decide +kernel
theorem dX9_angle_95 : decode cX9_angle 95 = .ok (.lsub, 1) := by decide +kernel
theorem dX9_angle_96 : decode cX9_angle 96 = .ok (.invokestatic 302, 3) := by decide +kernel
theorem dX9_angle_99 : decode cX9_angle 99 = .ok (.lstore 16, 2) := by decide +kernel
theorem dX9_angle_101 : decode cX9_angle 101 = .ok (.lload 16, 2) := by decide +kernel
theorem dX9_angle_103 : decode cX9_angle 103 = .ok (.lload 5, 2) := by decide +kernel
theorem dX9_angle_105 : decode cX9_angle 105 = .ok (.lmul, 1) := by decide +kernel
theorem dX9_angle_106 : decode cX9_angle 106 = .ok (.lload 7, 2) := by decide +kernel
theorem dX9_angle_108 : decode cX9_angle 108 = .ok (.lload 10, 2) := by decide +kernel
theorem dX9_angle_110 : decode cX9_angle 110 = .ok (.lmul, 1) := by decide +kernel
theorem dX9_angle_111 : decode cX9_angle 111 = .ok (.lsub, 1) := by decide +kernel
theorem dX9_angle_112 : decode cX9_angle 112 = .ok (.lstore 18, 2) := by decide +kernel
theorem dX9_angle_114 : decode cX9_angle 114 = .ok (.iload_n 2, 1) := by decide +kernel
theorem dX9_angle_115 : decode cX9_angle 115 = .ok (.iconst (-1), 1) := by decide +kernel
theorem dX9_angle_116 : decode cX9_angle 116 = .ok (.if_icmp .eq 30, 3) := by decide +kernel
theorem dX9_angle_119 : decode cX9_angle 119 = .ok (.lload 18, 2) := by decide +kernel
theorem dX9_angle_121 : decode cX9_angle 121 = .ok (.lconst 0, 1) := by decide +kernel
theorem dX9_angle_122 : decode cX9_angle 122 = .ok (.lcmp, 1) := by decide +kernel
theorem dX9_angle_123 : decode cX9_angle 123 = .ok (.ifCond .lt 23, 3) := by decide +kernel
theorem dX9_angle_126 : decode cX9_angle 126 = .ok (.lload 18, 2) := by decide +kernel
theorem dX9_angle_128 : decode cX9_angle 128 = .ok (.lconst 0, 1) := by decide +kernel
theorem dX9_angle_129 : decode cX9_angle 129 = .ok (.lcmp, 1) := by decide +kernel
theorem dX9_angle_130 : decode cX9_angle 130 = .ok (.ifCond .ne 30, 3) := by decide +kernel
theorem dX9_angle_133 : decode cX9_angle 133 = .ok (.lload 14, 2) := by decide +kernel
theorem dX9_angle_135 : decode cX9_angle 135 = .ok (.lload 5, 2) := by decide +kernel
theorem dX9_angle_137 : decode cX9_angle 137 = .ok (.lmul, 1) := by decide +kernel
theorem dX9_angle_138 : decode cX9_angle 138 = .ok (.lload_n 3, 1) := by decide +kernel
theorem dX9_angle_139 : decode cX9_angle 139 = .ok (.lload 10, 2) := by decide +kernel
theorem dX9_angle_141 : decode cX9_angle 141 = .ok (.lmul, 1) := by decide +kernel
theorem dX9_angle_142 : decode cX9_angle 142 = .ok (.lcmp, 1) := by decide +kernel
theorem dX9_angle_143 : decode cX9_angle 143 = .ok (.ifCond .ge 17, 3) := by decide +kernel
theorem dX9_angle_146 : decode cX9_angle 146 = .ok (.iload 9, 2) := by decide +kernel
theorem dX9_angle_148 : decode cX9_angle 148 = .ok (.istore_n 2, 1) := by decide +kernel
theorem dX9_angle_149 : decode cX9_angle 149 = .ok (.lload 14, 2) := by decide +kernel
theorem dX9_angle_151 : decode cX9_angle 151 = .ok (.lstore_n 3, 1) := by decide +kernel
theorem dX9_angle_152 : decode cX9_angle 152 = .ok (.lload 10, 2) := by decide +kernel
theorem dX9_angle_154 : decode cX9_angle 154 = .ok (.lstore 5, 2) := by decide +kernel
theorem dX9_angle_156 : decode cX9_angle 156 = .ok (.lload 16, 2) := by decide +kernel
theorem dX9_angle_158 : decode cX9_angle 158 = .ok (.lstore 7, 2) := by decide +kernel
theorem dX9_angle_160 : decode cX9_angle 160 = .ok (.lload 14, 2) := by decide +kernel
theorem dX9_angle_162 : decode cX9_angle 162 = .ok (.lconst 1, 1) := by decide +kernel
theorem dX9_angle_163 : decode cX9_angle 163 = .ok (.ladd, 1) := by decide +kernel
theorem dX9_angle_164 : decode cX9_angle 164 = .ok (.lstore 14, 2) := by decide +kernel
theorem dX9_angle_166 : decode cX9_angle 166 = .ok (.goto (-92), 3) := by decide +kernel
theorem dX9_angle_169 : decode cX9_angle 169 = .ok (.iinc 9 1, 3) := by decide +kernel
theorem dX9_angle_172 : decode cX9_angle 172 = .ok (.goto (-146), 3) := by decide +kernel
theorem dX9_angle_175 : decode cX9_angle 175 = .ok (.aload_n 0, 1) := by decide +kernel
theorem dX9_angle_176 : decode cX9_angle 176 = .ok (.iload_n 2, 1) := by decide +kernel
theorem dX9_angle_177 : decode cX9_angle 177 = .ok (.lload_n 3, 1) := by decide +kernel
theorem dX9_angle_178 : decode cX9_angle 178 = .ok (.invokevirtual 322, 3) := by decide +kernel
theorem dX9_angle_181 : decode cX9_angle 181 = .ok (.aload_n 0, 1) := by decide +kernel
theorem dX9_angle_182 : decode cX9_angle 182 = .ok (.getfield 58, 3) := by decide +kernel
theorem dX9_angle_185 : decode cX9_angle 185 = .ok (.lload 7, 2) := by decide +kernel
theorem dX9_angle_187 : decode cX9_angle 187 = .ok (.lload 5, 2) := by decide +kernel
theorem dX9_angle_189 : decode cX9_angle 189 = .ok (.invokevirtual 289, 3) := by decide +kernel
theorem dX9_angle_192 : decode cX9_angle 192 = .ok (.aload_n 0, 1) := by decide +kernel
theorem dX9_angle_193 : decode cX9_angle 193 = .ok (.getfield 19, 3) := by decide +kernel
theorem dX9_angle_196 : decode cX9_angle 196 = .ok (.aload_n 0, 1) := by decide +kernel
theorem dX9_angle_197 : decode cX9_angle 197 = .ok (.getfield 58, 3) := by decide +kernel
theorem dX9_angle_200 : decode cX9_angle 200 = .ok (.invokevirtual 293, 3) := by decide +kernel
theorem dX9_angle_203 : decode cX9_angle 203 = .ok (.lload 7, 2) := by decide +kernel
theorem dX9_angle_205 : decode cX9_angle 205 = .ok (.lconst 0, 1) := by decide +kernel
theorem dX9_angle_206 : decode cX9_angle 206 = .ok (.lcmp, 1) := by decide +kernel
theorem dX9_angle_207 : decode cX9_angle 207 = .ok (.ifCond .ne 7, 3) := by decide +kernel
theorem dX9_angle_210 : decode cX9_angle 210 = .ok (.iconst 1, 1) := by decide +kernel
theorem dX9_angle_211 : decode cX9_angle 211 = .ok (.goto 4, 3) := by decide +kernel
theorem dX9_angle_214 : decode cX9_angle 214 = .ok (.iconst 0, 1) := by decide +kernel
theorem dX9_angle_215 : decode cX9_angle 215 = .ok (.ireturn, 1) := by decide +kernel
set_option maxRecDepth 20000 in
set_option maxHeartbeats 2000000 in
theorem V_X9_angle_0 {X : Ctx} (C : C_X9_angle X) {k n : Nat} {Q : Pq} {h : Hp} {v0 : Nat} {v1 : Int32}
    (hv : ((¬ (bt v1 1 1295999) = 0 → Wj X k n Q 26 [(0, .ref v0), (1, .int v1), (2, .int (-1)), (3, .long 0), (5, .long 1), (7, .long 0), (9, .int 0)] [] h) ∧
    ((bt v1 1 1295999) = 0 → Q (some (.int (-1))) h))) :
    Wj X k n Q 0 [(0, .ref v0), (1, .int v1)] [] h := by
  refine w_iload_n (pc := 0) C dX9_angle_0 rfl ?_
  refine w_iconst (pc := 1) C (v := 1) dX9_angle_1 (by decide) ?_
  refine w_ldcw (pc := 2) C ct_X9_319 dX9_angle_2 ?_
  refine w_cS0_3 (pc := 5) C cl_X9_247 ls_X9_isBetween (by decide) dX9_angle_5 (Nat.le_of_ble_eq_true rfl) ((sf_X9_isBetween (h := h) ).mono (fun v h9 hp => ?_))
  obtain ⟨e1, e2⟩ := hp
  rw [e1, e2]
  refine w_if_ne (pc := 8) C (tgt := 13) dX9_angle_8 (by decide) ?_
  obtain ⟨hv1, hv2⟩ := hv
  refine ⟨fun c1 => ?_, fun c1 => ?_⟩
  · have hv := hv1 c1
    refine w_iconst (pc := 13) C (v := (-1)) dX9_angle_13 (by decide) ?_
    refine w_istore_n (pc := 14) C dX9_angle_14 (by decide) ?_
    refine w_lconst (pc := 15) C (v := 0) dX9_angle_15 (by decide) ?_
    refine w_lstore_n (pc := 16) C dX9_angle_16 (by decide) ?_
    refine w_lconst (pc := 17) C (v := 1) dX9_angle_17 (by decide) ?_
    refine w_lstore (pc := 18) C dX9_angle_18 (by decide) ?_
    refine w_lconst (pc := 20) C (v := 0) dX9_angle_20 (by decide) ?_
    refine w_lstore (pc := 21) C dX9_angle_21 (by decide) ?_
    refine w_iconst (pc := 23) C (v := 0) dX9_angle_23 (by decide) ?_
    refine w_istore (pc := 24) C dX9_angle_24 (by decide) ?_
    refine w_sub ?_ hv
    exact ⟨rfl, rfl, rfl, rfl, rfl, rfl, rfl, trivial⟩
  · have hv := hv2 c1
    refine w_iconst (pc := 11) C (v := (-1)) dX9_angle_11 (by decide) ?_
    exact w_iret (pc := 12) C dX9_angle_12 hv
set_option maxRecDepth 20000 in
set_option maxHeartbeats 2000000 in
theorem V_X9_angle_26 {X : Ctx} (C : C_X9_angle X) {k n : Nat} {Q : Pq} {h : Hp} {v0 : Nat} {v1 v2 v9 : Int32} {v3 v5 v7 : Int64}
    (hv : St9 h v0 ∧ nn h v0 12 ∧ St4 h (gp h v0 12) ∧ (((gi h (gp h v0 12) 3) ≤ v9 → S_X9_tellAngle (lX X) (dtX X) 0 0 [.ref v0, .int v2, .long v3] h (QV fun h4 =>
    St9 h4 v0 ∧ -9223372036854775807 ≤ (Int64.toInt v7) ∧ 0 < (Int64.toInt v5) ∧ S_X8_addFraction (lX X) (dtX X) 0 0 [.ref (v0 + 3), .ref (v0 + 14)] (fpt h4 (v0 + 14) v7 v5) (QV fun h8 =>
    ((¬ v7 = 0 → Q (some (.int 0)) h8) ∧
    (v7 = 0 → Q (some (.int 1)) h8))))) ∧
    (¬ (gi h (gp h v0 12) 3) ≤ v9 → (∀ z10 : Int64, z10 = ((Int32.toInt64 (hHo h (gp h v0 12) v9)) * (Int32.toInt64 (gi h (gp h v0 12) 0))) →
    Wj X k n Q 74 [(0, .ref v0), (1, .int v1), (2, .int v2), (3, .long v3), (5, .long v5), (7, .long v7), (9, .int v9), (10, .long z10), (12, .long (((Int32.toInt64 v1) * z10) / 1296000)), (14, .long (((Int32.toInt64 v1) * z10) / 1296000))] [] h)))) :
    Wj X k n Q 26 [(0, .ref v0), (1, .int v1), (2, .int v2), (3, .long v3), (5, .long v5), (7, .long v7), (9, .int v9)] [] h := by
  refine w_iload (pc := 26) C dX9_angle_26 rfl ?_
  refine w_aload_n (pc := 28) C dX9_angle_28 rfl ?_
  obtain ⟨f1, hv⟩ := hv
  obtain ⟨f2, hv⟩ := hv
  refine w_getR (pc := 29) C fl_X9_78 rfl dX9_angle_29 (St9_k f1) f2 ?_
  obtain ⟨f3, hv⟩ := hv
  refine w_getI (pc := 32) C fl_X9_131 rfl dX9_angle_32 (St4_k f3) ?_
  refine w_icmp_ge (pc := 35) C (tgt := 175) dX9_angle_35 (by decide) ?_
  obtain ⟨hv1, hv2⟩ := hv
  refine ⟨fun c11 => ?_, fun c11 => ?_⟩
  · have hv := hv1 c11
    refine w_aload_n (pc := 175) C dX9_angle_175 rfl ?_
    refine w_iload_n (pc := 176) C dX9_angle_176 rfl ?_
    refine w_lload_n (pc := 177) C dX9_angle_177 rfl ?_
    refine w_cV0_2 (pc := 178) C cl_X9_322 lv_X9_tellAngle (by decide) dX9_angle_178 (Nat.le_of_ble_eq_true rfl) (c := 9) rfl (St9_k f1) (hv.mono (fun v h4 hp => ?_))
    obtain ⟨rfl, hv⟩ := hp
    refine w_aload_n (pc := 181) C dX9_angle_181 rfl ?_
    obtain ⟨f5, hv⟩ := hv
    refine w_getR (pc := 182) C fl_X9_58 rfl dX9_angle_182 (St9_k f5) (St9_r7 f5) ?_
    refine w_lload (pc := 185) C dX9_angle_185 rfl ?_
    refine w_lload (pc := 187) C dX9_angle_187 rfl ?_
    obtain ⟨f6, hv⟩ := hv
    obtain ⟨f7, hv⟩ := hv
    refine w_cV0_2 (pc := 189) C cl_X9_289 lv_X2_put (by decide) dX9_angle_189 (Nat.le_of_ble_eq_true rfl) (c := 2) rfl (St9_k7 f5) ((sf_X2_put (h := h4) (St9_k7 f5) f6 f7).mono (fun v h9 hp => ?_))
    obtain ⟨e1, e2⟩ := hp
    rw [e1, e2]
    refine w_aload_n (pc := 192) C dX9_angle_192 rfl ?_
    refine w_getR (pc := 193) C fl_X9_19 rfl dX9_angle_193 (St9_k f5) (St9_r1 f5) ?_
    refine w_aload_n (pc := 196) C dX9_angle_196 rfl ?_
    refine w_getR (pc := 197) C fl_X9_58 rfl dX9_angle_197 (St9_k f5) (St9_r7 f5) ?_
    refine w_cV0_1 (pc := 200) C cl_X9_293 lv_X8_addFraction (by decide) dX9_angle_200 (Nat.le_of_ble_eq_true rfl) (c := 8) rfl (St8_k (St9_s1 f5)) (hv.mono (fun v h8 hp => ?_))
    obtain ⟨rfl, hv⟩ := hp
    refine w_lload (pc := 203) C dX9_angle_203 rfl ?_
    refine w_lconst (pc := 205) C (v := 0) dX9_angle_205 (by decide) ?_
    refine w_lcmp_ne (pc := 206) C (tgt := 214) dX9_angle_206 dX9_angle_207 (by decide) ?_
    obtain ⟨hv1, hv2⟩ := hv
    refine ⟨fun c9 => ?_, fun c9 => ?_⟩
    · have hv := hv1 c9
      refine w_iconst (pc := 214) C (v := 0) dX9_angle_214 (by decide) ?_
      exact w_iret (pc := 215) C dX9_angle_215 hv
    · have hv := hv2 c9
      refine w_iconst (pc := 210) C (v := 1) dX9_angle_210 (by decide) ?_
      refine w_goto (pc := 211) C (tgt := 215) dX9_angle_211 (by decide) ?_
      exact w_iret (pc := 215) C dX9_angle_215 hv
  · have hv := hv2 c11
    refine w_aload_n (pc := 38) C dX9_angle_38 rfl ?_
    refine w_getR (pc := 39) C fl_X9_78 rfl dX9_angle_39 (St9_k f1) f2 ?_
    refine w_iload (pc := 42) C dX9_angle_42 rfl ?_
    refine w_cV0_1 (pc := 44) C cl_X9_168 lv_X4_holesOf (by decide) dX9_angle_44 (Nat.le_of_ble_eq_true rfl) (c := 4) rfl (St4_k f3) ((sf_X4_holesOf (h := h) f3).mono (fun v h9 hp => ?_))
    obtain ⟨e1, e2⟩ := hp
    rw [e1, e2]
    refine w_i2l (pc := 47) C dX9_angle_47 ?_
    refine w_aload_n (pc := 48) C dX9_angle_48 rfl ?_
    refine w_getR (pc := 49) C fl_X9_78 rfl dX9_angle_49 (St9_k f1) f2 ?_
    refine w_getI (pc := 52) C fl_X9_273 rfl dX9_angle_52 (St4_k f3) ?_
    refine w_i2l (pc := 55) C dX9_angle_55 ?_
    refine w_lmul (pc := 56) C dX9_angle_56 ?_
    obtain ⟨z10, ez10⟩ : ∃ z : Int64, z = ((Int32.toInt64 (hHo h (gp h v0 12) v9)) * (Int32.toInt64 (gi h (gp h v0 12) 0))) := ⟨_, rfl⟩
    have hv := hv z10 ez10
    rw [← ez10]
    refine w_lstore (pc := 57) C dX9_angle_57 (by decide) ?_
    refine w_iload_n (pc := 59) C dX9_angle_59 rfl ?_
    refine w_i2l (pc := 60) C dX9_angle_60 ?_
    refine w_lload (pc := 61) C dX9_angle_61 rfl ?_
    refine w_lmul (pc := 63) C dX9_angle_63 ?_
    refine w_ldc2 (pc := 64) C ctl_X9_320 dX9_angle_64 ?_
    refine w_ldiv (pc := 67) C dX9_angle_67 (by decide) ?_
    refine w_lstore (pc := 68) C dX9_angle_68 (by decide) ?_
    refine w_lload (pc := 70) C dX9_angle_70 rfl ?_
    refine w_lstore (pc := 72) C dX9_angle_72 (by decide) ?_
    refine w_sub ?_ hv
    exact ⟨rfl, rfl, rfl, rfl, rfl, rfl, rfl, rfl, rfl, rfl, trivial⟩
set_option maxRecDepth 20000 in
set_option maxHeartbeats 2000000 in
theorem V_X9_angle_74 {X : Ctx} (C : C_X9_angle X) {k n : Nat} {Q : Pq} {h : Hp} {v0 : Nat} {v1 v2 v9 : Int32} {v3 v5 v7 v10 v12 v14 : Int64}
    (hv : (((v12 + 1) < v14 → Wj X k n Q 26 [(0, .ref v0), (1, .int v1), (2, .int v2), (3, .long v3), (5, .long v5), (7, .long v7), (9, .int (v9 + Int32.ofInt 1))] [] h) ∧
    (¬ (v12 + 1) < v14 → (∀ z1 : Int64, z1 = (((abL ((v14 * 1296000) - ((Int32.toInt64 v1) * v10))) * v5) - (v7 * v10)) →
    ((v2 = (-1) → Wj X k n Q 146 [(0, .ref v0), (1, .int v1), (9, .int v9), (10, .long v10), (12, .long v12), (14, .long v14), (16, .long (abL ((v14 * 1296000) - ((Int32.toInt64 v1) * v10))))] [] h) ∧
    (¬ v2 = (-1) → ((z1 < 0 → Wj X k n Q 146 [(0, .ref v0), (1, .int v1), (9, .int v9), (10, .long v10), (12, .long v12), (14, .long v14), (16, .long (abL ((v14 * 1296000) - ((Int32.toInt64 v1) * v10))))] [] h) ∧
    (¬ z1 < 0 → ((¬ z1 = 0 → Wj X k n Q 74 [(0, .ref v0), (1, .int v1), (2, .int v2), (3, .long v3), (5, .long v5), (7, .long v7), (9, .int v9), (10, .long v10), (12, .long v12), (14, .long (v14 + 1))] [] h) ∧
    (z1 = 0 → (((v3 * v10) ≤ (v14 * v5) → Wj X k n Q 74 [(0, .ref v0), (1, .int v1), (2, .int v2), (3, .long v3), (5, .long v5), (7, .long v7), (9, .int v9), (10, .long v10), (12, .long v12), (14, .long (v14 + 1))] [] h) ∧
    (¬ (v3 * v10) ≤ (v14 * v5) → Wj X k n Q 146 [(0, .ref v0), (1, .int v1), (9, .int v9), (10, .long v10), (12, .long v12), (14, .long v14), (16, .long (abL ((v14 * 1296000) - ((Int32.toInt64 v1) * v10))))] [] h)))))))))))) :
    Wj X k n Q 74 [(0, .ref v0), (1, .int v1), (2, .int v2), (3, .long v3), (5, .long v5), (7, .long v7), (9, .int v9), (10, .long v10), (12, .long v12), (14, .long v14)] [] h := by
  refine w_lload (pc := 74) C dX9_angle_74 rfl ?_
  refine w_lload (pc := 76) C dX9_angle_76 rfl ?_
  refine w_lconst (pc := 78) C (v := 1) dX9_angle_78 (by decide) ?_
  refine w_ladd (pc := 79) C dX9_angle_79 ?_
  refine w_lcmp_gt (pc := 80) C (tgt := 169) dX9_angle_80 dX9_angle_81 (by decide) ?_
  obtain ⟨hv1, hv2⟩ := hv
  refine ⟨fun c6 => ?_, fun c6 => ?_⟩
  · have hv := hv1 c6
    refine w_iinc (pc := 169) C dX9_angle_169 rfl (by decide) ?_
    refine w_goto (pc := 172) C (tgt := 26) dX9_angle_172 (by decide) ?_
    refine w_sub ?_ hv
    exact ⟨rfl, rfl, rfl, rfl, rfl, rfl, rfl, trivial⟩
  · have hv := hv2 c6
    refine w_lload (pc := 84) C dX9_angle_84 rfl ?_
    refine w_ldc2 (pc := 86) C ctl_X9_320 dX9_angle_86 ?_
    refine w_lmul (pc := 89) C dX9_angle_89 ?_
    refine w_iload_n (pc := 90) C dX9_angle_90 rfl ?_
    refine w_i2l (pc := 91) C dX9_angle_91 ?_
    refine w_lload (pc := 92) C dX9_angle_92 rfl ?_
    refine w_lmul (pc := 94) C dX9_angle_94 ?_
    refine w_lsub (pc := 95) C dX9_angle_95 ?_
    refine w_cS0_1 (pc := 96) C cl_X9_302 ls_J9_abs_067f4 (by decide) dX9_angle_96 (Nat.le_of_ble_eq_true rfl) ((sf_J9_abs_067f4 (h := h) ).mono (fun v h9 hp => ?_))
    obtain ⟨e1, e2⟩ := hp
    rw [e1, e2]
    refine w_lstore (pc := 99) C dX9_angle_99 (by decide) ?_
    refine w_lload (pc := 101) C dX9_angle_101 rfl ?_
    refine w_lload (pc := 103) C dX9_angle_103 rfl ?_
    refine w_lmul (pc := 105) C dX9_angle_105 ?_
    refine w_lload (pc := 106) C dX9_angle_106 rfl ?_
    refine w_lload (pc := 108) C dX9_angle_108 rfl ?_
    refine w_lmul (pc := 110) C dX9_angle_110 ?_
    refine w_lsub (pc := 111) C dX9_angle_111 ?_
    obtain ⟨z1, ez1⟩ : ∃ z : Int64, z = (((abL ((v14 * 1296000) - ((Int32.toInt64 v1) * v10))) * v5) - (v7 * v10)) := ⟨_, rfl⟩
    have hv := hv z1 ez1
    rw [← ez1]
    refine w_lstore (pc := 112) C dX9_angle_112 (by decide) ?_
    refine w_iload_n (pc := 114) C dX9_angle_114 rfl ?_
    refine w_iconst (pc := 115) C (v := (-1)) dX9_angle_115 (by decide) ?_
    refine w_icmp_eq (pc := 116) C (tgt := 146) dX9_angle_116 (by decide) ?_
    obtain ⟨hv1, hv2⟩ := hv
    refine ⟨fun c5 => ?_, fun c5 => ?_⟩
    · have hv := hv1 c5
      refine w_sub ?_ hv
      exact ⟨rfl, rfl, rfl, rfl, rfl, rfl, rfl, trivial⟩
    · have hv := hv2 c5
      refine w_lload (pc := 119) C dX9_angle_119 rfl ?_
      refine w_lconst (pc := 121) C (v := 0) dX9_angle_121 (by decide) ?_
      refine w_lcmp_lt (pc := 122) C (tgt := 146) dX9_angle_122 dX9_angle_123 (by decide) ?_
      obtain ⟨hv1, hv2⟩ := hv
      refine ⟨fun c4 => ?_, fun c4 => ?_⟩
      · have hv := hv1 c4
        refine w_sub ?_ hv
        exact ⟨rfl, rfl, rfl, rfl, rfl, rfl, rfl, trivial⟩
      · have hv := hv2 c4
        refine w_lload (pc := 126) C dX9_angle_126 rfl ?_
        refine w_lconst (pc := 128) C (v := 0) dX9_angle_128 (by decide) ?_
        refine w_lcmp_ne (pc := 129) C (tgt := 160) dX9_angle_129 dX9_angle_130 (by decide) ?_
        obtain ⟨hv1, hv2⟩ := hv
        refine ⟨fun c3 => ?_, fun c3 => ?_⟩
        · have hv := hv1 c3
          refine w_lload (pc := 160) C dX9_angle_160 rfl ?_
          refine w_lconst (pc := 162) C (v := 1) dX9_angle_162 (by decide) ?_
          refine w_ladd (pc := 163) C dX9_angle_163 ?_
          refine w_lstore (pc := 164) C dX9_angle_164 (by decide) ?_
          refine w_goto (pc := 166) C (tgt := 74) dX9_angle_166 (by decide) ?_
          refine w_sub ?_ hv
          exact ⟨rfl, rfl, rfl, rfl, rfl, rfl, rfl, rfl, rfl, rfl, trivial⟩
        · have hv := hv2 c3
          refine w_lload (pc := 133) C dX9_angle_133 rfl ?_
          refine w_lload (pc := 135) C dX9_angle_135 rfl ?_
          refine w_lmul (pc := 137) C dX9_angle_137 ?_
          refine w_lload_n (pc := 138) C dX9_angle_138 rfl ?_
          refine w_lload (pc := 139) C dX9_angle_139 rfl ?_
          refine w_lmul (pc := 141) C dX9_angle_141 ?_
          refine w_lcmp_ge (pc := 142) C (tgt := 160) dX9_angle_142 dX9_angle_143 (by decide) ?_
          obtain ⟨hv1, hv2⟩ := hv
          refine ⟨fun c2 => ?_, fun c2 => ?_⟩
          · have hv := hv1 c2
            refine w_lload (pc := 160) C dX9_angle_160 rfl ?_
            refine w_lconst (pc := 162) C (v := 1) dX9_angle_162 (by decide) ?_
            refine w_ladd (pc := 163) C dX9_angle_163 ?_
            refine w_lstore (pc := 164) C dX9_angle_164 (by decide) ?_
            refine w_goto (pc := 166) C (tgt := 74) dX9_angle_166 (by decide) ?_
            refine w_sub ?_ hv
            exact ⟨rfl, rfl, rfl, rfl, rfl, rfl, rfl, rfl, rfl, rfl, trivial⟩
          · have hv := hv2 c2
            refine w_sub ?_ hv
            exact ⟨rfl, rfl, rfl, rfl, rfl, rfl, rfl, trivial⟩
set_option maxRecDepth 20000 in
set_option maxHeartbeats 2000000 in
theorem V_X9_angle_146 {X : Ctx} (C : C_X9_angle X) {k n : Nat} {Q : Pq} {h : Hp} {v0 : Nat} {v1 v9 : Int32} {v10 v12 v14 v16 : Int64}
    (hv : Wj X k n Q 74 [(0, .ref v0), (1, .int v1), (2, .int v9), (3, .long v14), (5, .long v10), (7, .long v16), (9, .int v9), (10, .long v10), (12, .long v12), (14, .long (v14 + 1))] [] h) :
    Wj X k n Q 146 [(0, .ref v0), (1, .int v1), (9, .int v9), (10, .long v10), (12, .long v12), (14, .long v14), (16, .long v16)] [] h := by
  refine w_iload (pc := 146) C dX9_angle_146 rfl ?_
  refine w_istore_n (pc := 148) C dX9_angle_148 (by decide) ?_
  refine w_lload (pc := 149) C dX9_angle_149 rfl ?_
  refine w_lstore_n (pc := 151) C dX9_angle_151 (by decide) ?_
  refine w_lload (pc := 152) C dX9_angle_152 rfl ?_
  refine w_lstore (pc := 154) C dX9_angle_154 (by decide) ?_
  refine w_lload (pc := 156) C dX9_angle_156 rfl ?_
  refine w_lstore (pc := 158) C dX9_angle_158 (by decide) ?_
  refine w_lload (pc := 160) C dX9_angle_160 rfl ?_
  refine w_lconst (pc := 162) C (v := 1) dX9_angle_162 (by decide) ?_
  refine w_ladd (pc := 163) C dX9_angle_163 ?_
  refine w_lstore (pc := 164) C dX9_angle_164 (by decide) ?_
  refine w_goto (pc := 166) C (tgt := 74) dX9_angle_166 (by decide) ?_
  refine w_sub ?_ hv
  exact ⟨rfl, rfl, rfl, rfl, rfl, rfl, rfl, rfl, rfl, rfl, trivial⟩
theorem dX10_isNearer_0 : decode cX10_isNearer 0 = .ok (.lload_n 1, 1) := by decide +kernel
theorem dX10_isNearer_1 : decode cX10_isNearer 1 = .ok (.lload 7, 2) := by decide +kernel
theorem dX10_isNearer_3 : decode cX10_isNearer 3 = .ok (.lmul, 1) := by decide +kernel
theorem dX10_isNearer_4 : decode cX10_isNearer 4 = .ok (.lload 5, 2) := by decide +kernel
theorem dX10_isNearer_6 : decode cX10_isNearer 6 = .ok (.lload_n 3, 1) := by decide +kernel
theorem dX10_isNearer_7 : decode cX10_isNearer 7 = .ok (.lmul, 1) := by decide +kernel
theorem dX10_isNearer_8 : decode cX10_isNearer 8 = .ok (.lsub, 1) := by decide +kernel
theorem dX10_isNearer_9 : decode cX10_isNearer 9 = .ok (.lstore 9, 2) := by decide +kernel
theorem dX10_isNearer_11 : decode cX10_isNearer 11 = .ok (.lload 9, 2) := by decide +kernel
theorem dX10_isNearer_13 : decode cX10_isNearer 13 = .ok (.lconst 0, 1) := by decide +kernel
theorem dX10_isNearer_14 : decode cX10_isNearer 14 = .ok (.lcmp, 1) := by decide +kernel
theorem dX10_isNearer_15 : decode cX10_isNearer 15 = .ok (.ifCond .ge 9, 3) := by decide +kernel
theorem dX10_isNearer_18 : decode cX10_isNearer 18 = .ok (.lload 9, 2) := by decide +kernel
theorem dX10_isNearer_20 : decode cX10_isNearer 20 = .ok (.lneg, 1) := by decide +kernel
theorem dX10_isNearer_21 : decode cX10_isNearer 21 = .ok (.goto 5, 3) := by decide +kernel
theorem dX10_isNearer_24 : decode cX10_isNearer 24 = .ok (.lload 9, 2) := by decide +kernel
theorem dX10_isNearer_26 : decode cX10_isNearer 26 = .ok (.lstore 11, 2) := by decide +kernel
theorem dX10_isNearer_28 : decode cX10_isNearer 28 = .ok (.lload_n 3, 1) := by decide +kernel
theorem dX10_isNearer_29 : decode cX10_isNearer 29 = .ok (.lload 7, 2) := by decide +kernel
theorem dX10_isNearer_31 : decode cX10_isNearer 31 = .ok (.lmul, 1) := by decide +kernel
theorem dX10_isNearer_32 : decode cX10_isNearer 32 = .ok (.lstore 13, 2) := by decide +kernel
theorem dX10_isNearer_34 : decode cX10_isNearer 34 = .ok (.lload 11, 2) := by decide +kernel
theorem dX10_isNearer_36 : decode cX10_isNearer 36 = .ok (.lload 13, 2) := by decide +kernel
theorem dX10_isNearer_38 : decode cX10_isNearer 38 = .ok (.invokestatic 14, 3) := by decide +kernel
theorem dX10_isNearer_41 : decode cX10_isNearer 41 = .ok (.lstore 15, 2) := by decide +kernel
theorem dX10_isNearer_43 : decode cX10_isNearer 43 = .ok (.lload 11, 2) := by decide +kernel
theorem dX10_isNearer_45 : decode cX10_isNearer 45 = .ok (.lload 15, 2) := by decide +kernel
theorem dX10_isNearer_47 : decode cX10_isNearer 47 = .ok (.ldiv, 1) := by decide +kernel
theorem dX10_isNearer_48 : decode cX10_isNearer 48 = .ok (.lstore 17, 2) := by decide +kernel
theorem dX10_isNearer_50 : decode cX10_isNearer 50 = .ok (.lload 13, 2) := by decide +kernel
theorem dX10_isNearer_52 : decode cX10_isNearer 52 = .ok (.lload 15, 2) := by decide +kernel
theorem dX10_isNearer_54 : decode cX10_isNearer 54 = .ok (.ldiv, 1) := by decide +kernel
theorem dX10_isNearer_55 : decode cX10_isNearer 55 = .ok (.lstore 19, 2) := by decide +kernel
theorem dX10_isNearer_57 : decode cX10_isNearer 57 = .ok (.aload_n 0, 1) := by decide +kernel
theorem dX10_isNearer_58 : decode cX10_isNearer 58 = .ok (.getfield 271, 3) := by decide +kernel
theorem dX10_isNearer_61 : decode cX10_isNearer 61 = .ok (.lconst 0, 1) := by decide +kernel
theorem dX10_isNearer_62 : decode cX10_isNearer 62 = .ok (.lcmp, 1) := by decide +kernel
theorem dX10_isNearer_63 : decode cX10_isNearer 63 = .ok (.ifCond .eq 55, 3) := by decide +kernel
theorem dX10_isNearer_66 : decode cX10_isNearer 66 = .ok (.lload 17, 2) := by decide +kernel
theorem dX10_isNearer_68 : decode cX10_isNearer 68 = .ok (.aload_n 0, 1) := by decide +kernel
theorem dX10_isNearer_69 : decode cX10_isNearer 69 = .ok (.getfield 275, 3) := by decide +kernel
theorem dX10_isNearer_72 : decode cX10_isNearer 72 = .ok (.lmul, 1) := by decide +kernel
theorem dX10_isNearer_73 : decode cX10_isNearer 73 = .ok (.aload_n 0, 1) := by decide +kernel
theorem dX10_isNearer_74 : decode cX10_isNearer 74 = .ok (.getfield 278, 3) := by decide +kernel
theorem dX10_isNearer_77 : decode cX10_isNearer 77 = .ok (.lload 19, 2) := by decide +kernel
theorem dX10_isNearer_79 : decode cX10_isNearer 79 = .ok (.lmul, 1) := by decide +kernel
theorem dX10_isNearer_80 : decode cX10_isNearer 80 = .ok (.lcmp, 1) := by decide +kernel
theorem dX10_isNearer_81 : decode cX10_isNearer 81 = .ok (.ifCond .lt 37, 3) := by decide +kernel
theorem dX10_isNearer_84 : decode cX10_isNearer 84 = .ok (.lload 17, 2) := by decide +kernel
theorem dX10_isNearer_86 : decode cX10_isNearer 86 = .ok (.aload_n 0, 1) := by decide +kernel
theorem dX10_isNearer_87 : decode cX10_isNearer 87 = .ok (.getfield 275, 3) := by decide +kernel
theorem dX10_isNearer_90 : decode cX10_isNearer 90 = .ok (.lmul, 1) := by decide +kernel
theorem dX10_isNearer_91 : decode cX10_isNearer 91 = .ok (.aload_n 0, 1) := by decide +kernel
theorem dX10_isNearer_92 : decode cX10_isNearer 92 = .ok (.getfield 278, 3) := by decide +kernel
theorem dX10_isNearer_95 : decode cX10_isNearer 95 = .ok (.lload 19, 2) := by decide +kernel
theorem dX10_isNearer_97 : decode cX10_isNearer 97 = .ok (.lmul, 1) := by decide +kernel
theorem dX10_isNearer_98 : decode cX10_isNearer 98 = .ok (.lcmp, 1) := by decide +kernel
theorem dX10_isNearer_99 : decode cX10_isNearer 99 = .ok (.ifCond .ne 23, 3) := by decide +kernel
theorem dX10_isNearer_102 : decode cX10_isNearer 102 = .ok (.lload_n 1, 1) := by decide +kernel
theorem dX10_isNearer_103 : decode cX10_isNearer 103 = .ok (.aload_n 0, 1) := by decide +kernel
theorem dX10_isNearer_104 : decode cX10_isNearer 104 = .ok (.getfield 271, 3) := by decide +kernel
theorem dX10_isNearer_107 : decode cX10_isNearer 107 = .ok (.lmul, 1) := by decide +kernel
theorem dX10_isNearer_108 : decode cX10_isNearer 108 = .ok (.aload_n 0, 1) := by decide +kernel
theorem dX10_isNearer_109 : decode cX10_isNearer 109 = .ok (.getfield 281, 3) := by decide +kernel
theorem dX10_isNearer_112 : decode cX10_isNearer 112 = .ok (.lload_n 3, 1) := by decide +kernel
theorem dX10_isNearer_113 : decode cX10_isNearer 113 = .ok (.lmul, 1) := by decide +kernel
theorem dX10_isNearer_114 : decode cX10_isNearer 114 = .ok (.lcmp, 1) := by decide +kernel
theorem dX10_isNearer_115 : decode cX10_isNearer 115 = .ok (.ifCond .ge 7, 3) := by decide +kernel
theorem dX10_isNearer_118 : decode cX10_isNearer 118 = .ok (.iconst 1, 1) := by decide +kernel
theorem dX10_isNearer_119 : decode cX10_isNearer 119 = .ok (.goto 4, 3) := by decide +kernel
theorem dX10_isNearer_122 : decode cX10_isNearer 122 = .ok (.iconst 0, 1) := by decide +kernel
theorem dX10_isNearer_123 : decode cX10_isNearer 123 = .ok (.istore 21, 2) := by decide +kernel
theorem dX10_isNearer_125 : decode cX10_isNearer 125 = .ok (.iload 21, 2) := by decide +kernel
theorem dX10_isNearer_127 : decode cX10_isNearer 127 = .ok (.ifCond .eq 25, 3) := by decide +kernel
theorem dX10_isNearer_130 : decode cX10_isNearer 130 = .ok (.aload_n 0, 1) := by decide +kernel
theorem dX10_isNearer_131 : decode cX10_isNearer 131 = .ok (.lload_n 1, 1) := by decide +kernel
theorem dX10_isNearer_132 : decode cX10_isNearer 132 = .ok (.putfield 281, 3) := by decide +kernel
theorem dX10_isNearer_135 : decode cX10_isNearer 135 = .ok (.aload_n 0, 1) := by decide +kernel
theorem dX10_isNearer_136 : decode cX10_isNearer 136 = .ok (.lload_n 3, 1) := by decide +kernel
theorem dX10_isNearer_137 : decode cX10_isNearer 137 = .ok (.putfield 271, 3) := by decide +kernel
theorem dX10_isNearer_140 : decode cX10_isNearer 140 = .ok (.aload_n 0, 1) := by decide +kernel
theorem dX10_isNearer_141 : decode cX10_isNearer 141 = .ok (.lload 17, 2) := by decide +kernel
theorem dX10_isNearer_143 : decode cX10_isNearer 143 = .ok (.putfield 278, 3) := by decide +kernel
theorem dX10_isNearer_146 : decode cX10_isNearer 146 = .ok (.aload_n 0, 1) := by decide +kernel
theorem dX10_isNearer_147 : decode cX10_isNearer 147 = .ok (.lload 19, 2) := by decide +kernel
theorem dX10_isNearer_149 : decode cX10_isNearer 149 = .ok (.putfield 275, 3) := by decide +kernel
theorem dX10_isNearer_152 : decode cX10_isNearer 152 = .ok (.iload 21, 2) := by decide +kernel
theorem dX10_isNearer_154 : decode cX10_isNearer 154 = .ok (.ireturn, 1) := by decide +kernel
set_option maxRecDepth 20000 in
set_option maxHeartbeats 2000000 in
theorem V_X10_isNearer_0 {X : Ctx} (C : C_X10_isNearer X) {k n : Nat} {Q : Pq} {h : Hp} {v0 : Nat} {v1 v3 v5 v7 : Int64}
    (hv : ((0 ≤ ((v1 * v7) - (v5 * v3)) → Wj X k n Q 26 [(0, .ref v0), (1, .long v1), (3, .long v3), (7, .long v7)] [.long ((v1 * v7) - (v5 * v3))] h) ∧
    (¬ 0 ≤ ((v1 * v7) - (v5 * v3)) → Wj X k n Q 26 [(0, .ref v0), (1, .long v1), (3, .long v3), (7, .long v7)] [.long (-((v1 * v7) - (v5 * v3)))] h))) :
    Wj X k n Q 0 [(0, .ref v0), (1, .long v1), (3, .long v3), (5, .long v5), (7, .long v7)] [] h := by
  refine w_lload_n (pc := 0) C dX10_isNearer_0 rfl ?_
  refine w_lload (pc := 1) C dX10_isNearer_1 rfl ?_
  refine w_lmul (pc := 3) C dX10_isNearer_3 ?_
  refine w_lload (pc := 4) C dX10_isNearer_4 rfl ?_
  refine w_lload_n (pc := 6) C dX10_isNearer_6 rfl ?_
  refine w_lmul (pc := 7) C dX10_isNearer_7 ?_
  refine w_lsub (pc := 8) C dX10_isNearer_8 ?_
  refine w_lstore (pc := 9) C dX10_isNearer_9 (by decide) ?_
  refine w_lload (pc := 11) C dX10_isNearer_11 rfl ?_
  refine w_lconst (pc := 13) C (v := 0) dX10_isNearer_13 (by decide) ?_
  refine w_lcmp_ge (pc := 14) C (tgt := 24) dX10_isNearer_14 dX10_isNearer_15 (by decide) ?_
  obtain ⟨hv1, hv2⟩ := hv
  refine ⟨fun c1 => ?_, fun c1 => ?_⟩
  · have hv := hv1 c1
    refine w_lload (pc := 24) C dX10_isNearer_24 rfl ?_
    refine w_sub ?_ hv
    exact ⟨rfl, rfl, rfl, rfl, trivial⟩
  · have hv := hv2 c1
    refine w_lload (pc := 18) C dX10_isNearer_18 rfl ?_
    refine w_lneg (pc := 20) C dX10_isNearer_20 ?_
    refine w_goto (pc := 21) C (tgt := 26) dX10_isNearer_21 (by decide) ?_
    refine w_sub ?_ hv
    exact ⟨rfl, rfl, rfl, rfl, trivial⟩
set_option maxRecDepth 20000 in
set_option maxHeartbeats 2000000 in
theorem V_X10_isNearer_26 {X : Ctx} (C : C_X10_isNearer X) {k n : Nat} {Q : Pq} {h : Hp} {v0 : Nat} {v1 v3 v7 s0 : Int64}
    (hv : -9223372036854775807 ≤ (Int64.toInt s0) ∧ 0 < (Int64.toInt (v3 * v7)) ∧ ¬ (cm s0 (v3 * v7)) = 0 ∧ St10 h v0 ∧ (((gl h v0 24) = 0 → Wj X k n Q 123 [(0, .ref v0), (1, .long v1), (3, .long v3), (17, .long (s0 / (cm s0 (v3 * v7)))), (19, .long ((v3 * v7) / (cm s0 (v3 * v7))))] [.int 1] h) ∧
    (¬ (gl h v0 24) = 0 → ((((s0 / (cm s0 (v3 * v7))) * (gl h v0 26)) < ((gl h v0 25) * ((v3 * v7) / (cm s0 (v3 * v7)))) → Wj X k n Q 123 [(0, .ref v0), (1, .long v1), (3, .long v3), (17, .long (s0 / (cm s0 (v3 * v7)))), (19, .long ((v3 * v7) / (cm s0 (v3 * v7))))] [.int 1] h) ∧
    (¬ ((s0 / (cm s0 (v3 * v7))) * (gl h v0 26)) < ((gl h v0 25) * ((v3 * v7) / (cm s0 (v3 * v7)))) → ((¬ ((s0 / (cm s0 (v3 * v7))) * (gl h v0 26)) = ((gl h v0 25) * ((v3 * v7) / (cm s0 (v3 * v7)))) → Wj X k n Q 123 [(0, .ref v0), (1, .long v1), (3, .long v3), (17, .long (s0 / (cm s0 (v3 * v7)))), (19, .long ((v3 * v7) / (cm s0 (v3 * v7))))] [.int 0] h) ∧
    (((s0 / (cm s0 (v3 * v7))) * (gl h v0 26)) = ((gl h v0 25) * ((v3 * v7) / (cm s0 (v3 * v7)))) → ((((gl h v0 23) * v3) ≤ (v1 * (gl h v0 24)) → Wj X k n Q 123 [(0, .ref v0), (1, .long v1), (3, .long v3), (17, .long (s0 / (cm s0 (v3 * v7)))), (19, .long ((v3 * v7) / (cm s0 (v3 * v7))))] [.int 0] h) ∧
    (¬ ((gl h v0 23) * v3) ≤ (v1 * (gl h v0 24)) → Wj X k n Q 123 [(0, .ref v0), (1, .long v1), (3, .long v3), (17, .long (s0 / (cm s0 (v3 * v7)))), (19, .long ((v3 * v7) / (cm s0 (v3 * v7))))] [.int 1] h))))))))) :
    Wj X k n Q 26 [(0, .ref v0), (1, .long v1), (3, .long v3), (7, .long v7)] [.long s0] h := by
  refine w_lstore (pc := 26) C dX10_isNearer_26 (by decide) ?_
  refine w_lload_n (pc := 28) C dX10_isNearer_28 rfl ?_
  refine w_lload (pc := 29) C dX10_isNearer_29 rfl ?_
  refine w_lmul (pc := 31) C dX10_isNearer_31 ?_
  refine w_lstore (pc := 32) C dX10_isNearer_32 (by decide) ?_
  refine w_lload (pc := 34) C dX10_isNearer_34 rfl ?_
  refine w_lload (pc := 36) C dX10_isNearer_36 rfl ?_
  obtain ⟨f1, hv⟩ := hv
  obtain ⟨f2, hv⟩ := hv
  refine w_cS0_2 (pc := 38) C cl_X10_14 ls_X10_common (by decide) dX10_isNearer_38 (Nat.le_of_ble_eq_true rfl) ((sf_X10_common (h := h) f1 f2).mono (fun v h9 hp => ?_))
  obtain ⟨e1, e2⟩ := hp
  rw [e1, e2]
  refine w_lstore (pc := 41) C dX10_isNearer_41 (by decide) ?_
  refine w_lload (pc := 43) C dX10_isNearer_43 rfl ?_
  refine w_lload (pc := 45) C dX10_isNearer_45 rfl ?_
  obtain ⟨f3, hv⟩ := hv
  refine w_ldiv (pc := 47) C dX10_isNearer_47 f3 ?_
  refine w_lstore (pc := 48) C dX10_isNearer_48 (by decide) ?_
  refine w_lload (pc := 50) C dX10_isNearer_50 rfl ?_
  refine w_lload (pc := 52) C dX10_isNearer_52 rfl ?_
  refine w_ldiv (pc := 54) C dX10_isNearer_54 f3 ?_
  refine w_lstore (pc := 55) C dX10_isNearer_55 (by decide) ?_
  refine w_aload_n (pc := 57) C dX10_isNearer_57 rfl ?_
  obtain ⟨f4, hv⟩ := hv
  refine w_getL (pc := 58) C fl_X10_271 rfl dX10_isNearer_58 (St10_k f4) ?_
  refine w_lconst (pc := 61) C (v := 0) dX10_isNearer_61 (by decide) ?_
  refine w_lcmp_eq (pc := 62) C (tgt := 118) dX10_isNearer_62 dX10_isNearer_63 (by decide) ?_
  obtain ⟨hv1, hv2⟩ := hv
  refine ⟨fun c8 => ?_, fun c8 => ?_⟩
  · have hv := hv1 c8
    refine w_iconst (pc := 118) C (v := 1) dX10_isNearer_118 (by decide) ?_
    refine w_goto (pc := 119) C (tgt := 123) dX10_isNearer_119 (by decide) ?_
    refine w_sub ?_ hv
    exact ⟨rfl, rfl, rfl, rfl, rfl, trivial⟩
  · have hv := hv2 c8
    refine w_lload (pc := 66) C dX10_isNearer_66 rfl ?_
    refine w_aload_n (pc := 68) C dX10_isNearer_68 rfl ?_
    refine w_getL (pc := 69) C fl_X10_275 rfl dX10_isNearer_69 (St10_k f4) ?_
    refine w_lmul (pc := 72) C dX10_isNearer_72 ?_
    refine w_aload_n (pc := 73) C dX10_isNearer_73 rfl ?_
    refine w_getL (pc := 74) C fl_X10_278 rfl dX10_isNearer_74 (St10_k f4) ?_
    refine w_lload (pc := 77) C dX10_isNearer_77 rfl ?_
    refine w_lmul (pc := 79) C dX10_isNearer_79 ?_
    refine w_lcmp_lt (pc := 80) C (tgt := 118) dX10_isNearer_80 dX10_isNearer_81 (by decide) ?_
    obtain ⟨hv1, hv2⟩ := hv
    refine ⟨fun c7 => ?_, fun c7 => ?_⟩
    · have hv := hv1 c7
      refine w_iconst (pc := 118) C (v := 1) dX10_isNearer_118 (by decide) ?_
      refine w_goto (pc := 119) C (tgt := 123) dX10_isNearer_119 (by decide) ?_
      refine w_sub ?_ hv
      exact ⟨rfl, rfl, rfl, rfl, rfl, trivial⟩
    · have hv := hv2 c7
      refine w_lload (pc := 84) C dX10_isNearer_84 rfl ?_
      refine w_aload_n (pc := 86) C dX10_isNearer_86 rfl ?_
      refine w_getL (pc := 87) C fl_X10_275 rfl dX10_isNearer_87 (St10_k f4) ?_
      refine w_lmul (pc := 90) C dX10_isNearer_90 ?_
      refine w_aload_n (pc := 91) C dX10_isNearer_91 rfl ?_
      refine w_getL (pc := 92) C fl_X10_278 rfl dX10_isNearer_92 (St10_k f4) ?_
      refine w_lload (pc := 95) C dX10_isNearer_95 rfl ?_
      refine w_lmul (pc := 97) C dX10_isNearer_97 ?_
      refine w_lcmp_ne (pc := 98) C (tgt := 122) dX10_isNearer_98 dX10_isNearer_99 (by decide) ?_
      obtain ⟨hv1, hv2⟩ := hv
      refine ⟨fun c6 => ?_, fun c6 => ?_⟩
      · have hv := hv1 c6
        refine w_iconst (pc := 122) C (v := 0) dX10_isNearer_122 (by decide) ?_
        refine w_sub ?_ hv
        exact ⟨rfl, rfl, rfl, rfl, rfl, trivial⟩
      · have hv := hv2 c6
        refine w_lload_n (pc := 102) C dX10_isNearer_102 rfl ?_
        refine w_aload_n (pc := 103) C dX10_isNearer_103 rfl ?_
        refine w_getL (pc := 104) C fl_X10_271 rfl dX10_isNearer_104 (St10_k f4) ?_
        refine w_lmul (pc := 107) C dX10_isNearer_107 ?_
        refine w_aload_n (pc := 108) C dX10_isNearer_108 rfl ?_
        refine w_getL (pc := 109) C fl_X10_281 rfl dX10_isNearer_109 (St10_k f4) ?_
        refine w_lload_n (pc := 112) C dX10_isNearer_112 rfl ?_
        refine w_lmul (pc := 113) C dX10_isNearer_113 ?_
        refine w_lcmp_ge (pc := 114) C (tgt := 122) dX10_isNearer_114 dX10_isNearer_115 (by decide) ?_
        obtain ⟨hv1, hv2⟩ := hv
        refine ⟨fun c5 => ?_, fun c5 => ?_⟩
        · have hv := hv1 c5
          refine w_iconst (pc := 122) C (v := 0) dX10_isNearer_122 (by decide) ?_
          refine w_sub ?_ hv
          exact ⟨rfl, rfl, rfl, rfl, rfl, trivial⟩
        · have hv := hv2 c5
          refine w_iconst (pc := 118) C (v := 1) dX10_isNearer_118 (by decide) ?_
          refine w_goto (pc := 119) C (tgt := 123) dX10_isNearer_119 (by decide) ?_
          refine w_sub ?_ hv
          exact ⟨rfl, rfl, rfl, rfl, rfl, trivial⟩
set_option maxRecDepth 20000 in
set_option maxHeartbeats 2000000 in
theorem V_X10_isNearer_123 {X : Ctx} (C : C_X10_isNearer X) {k n : Nat} {Q : Pq} {h : Hp} {v0 : Nat} {v1 v3 v17 v19 : Int64} {s0 : Int32}
    (hv : ((s0 = 0 → (s0 = 0 ∨ s0 = 1) ∧ Q (some (.int s0)) h) ∧
    (¬ s0 = 0 → St10 h v0 ∧ (s0 = 0 ∨ s0 = 1) ∧ Q (some (.int s0)) (sl (sl (sl (sl h v0 23 v1) v0 24 v3) v0 25 v17) v0 26 v19)))) :
    Wj X k n Q 123 [(0, .ref v0), (1, .long v1), (3, .long v3), (17, .long v17), (19, .long v19)] [.int s0] h := by
  refine w_istore (pc := 123) C dX10_isNearer_123 (by decide) ?_
  refine w_iload (pc := 125) C dX10_isNearer_125 rfl ?_
  refine w_if_eq (pc := 127) C (tgt := 152) dX10_isNearer_127 (by decide) ?_
  obtain ⟨hv1, hv2⟩ := hv
  refine ⟨fun c4 => ?_, fun c4 => ?_⟩
  · have hv := hv1 c4
    refine w_iload (pc := 152) C dX10_isNearer_152 rfl ?_
    obtain ⟨f1, hv⟩ := hv
    exact w_zret (pc := 154) C dX10_isNearer_154 f1 hv
  · have hv := hv2 c4
    refine w_aload_n (pc := 130) C dX10_isNearer_130 rfl ?_
    refine w_lload_n (pc := 131) C dX10_isNearer_131 rfl ?_
    obtain ⟨f2, hv⟩ := hv
    refine w_putL (pc := 132) C fl_X10_281 rfl rfl dX10_isNearer_132 (St10_k f2) ?_
    refine w_aload_n (pc := 135) C dX10_isNearer_135 rfl ?_
    refine w_lload_n (pc := 136) C dX10_isNearer_136 rfl ?_
    refine w_putL (pc := 137) C fl_X10_271 rfl rfl dX10_isNearer_137 (St10_k f2) ?_
    refine w_aload_n (pc := 140) C dX10_isNearer_140 rfl ?_
    refine w_lload (pc := 141) C dX10_isNearer_141 rfl ?_
    refine w_putL (pc := 143) C fl_X10_278 rfl rfl dX10_isNearer_143 (St10_k f2) ?_
    refine w_aload_n (pc := 146) C dX10_isNearer_146 rfl ?_
    refine w_lload (pc := 147) C dX10_isNearer_147 rfl ?_
    refine w_putL (pc := 149) C fl_X10_275 rfl rfl dX10_isNearer_149 (St10_k f2) ?_
    refine w_iload (pc := 152) C dX10_isNearer_152 rfl ?_
    obtain ⟨f3, hv⟩ := hv
    exact w_zret (pc := 154) C dX10_isNearer_154 f3 hv
theorem dX10_entersNear_0 : decode cX10_entersNear 0 = .ok (.aload_n 0, 1) := by decide +kernel
theorem dX10_entersNear_1 : decode cX10_entersNear 1 = .ok (.aload_n 0, 1) := by decide +kernel
theorem dX10_entersNear_2 : decode cX10_entersNear 2 = .ok (.getfield 281, 3) := by decide +kernel
theorem dX10_entersNear_5 : decode cX10_entersNear 5 = .ok (.aload_n 0, 1) := by decide +kernel
theorem dX10_entersNear_6 : decode cX10_entersNear 6 = .ok (.getfield 271, 3) := by decide +kernel
theorem dX10_entersNear_9 : decode cX10_entersNear 9 = .ok (.invokevirtual 284, 3) := by decide +kernel
theorem dX10_entersNear_12 : decode cX10_entersNear 12 = .ok (.aload_n 0, 1) := by decide +kernel
theorem dX10_entersNear_13 : decode cX10_entersNear 13 = .ok (.aload_n 0, 1) := by decide +kernel
theorem dX10_entersNear_14 : decode cX10_entersNear 14 = .ok (.getfield 278, 3) := by decide +kernel
theorem dX10_entersNear_17 : decode cX10_entersNear 17 = .ok (.aload_n 0, 1) := by decide +kernel
theorem dX10_entersNear_18 : decode cX10_entersNear 18 = .ok (.getfield 275, 3) := by decide +kernel
theorem dX10_entersNear_21 : decode cX10_entersNear 21 = .ok (.invokevirtual 284, 3) := by decide +kernel
theorem dX10_entersNear_24 : decode cX10_entersNear 24 = .ok (.return_, 1) := by decide +kernel
set_option maxRecDepth 20000 in
set_option maxHeartbeats 2000000 in
theorem V_X10_entersNear_0 {X : Ctx} (C : C_X10_entersNear X) {k n : Nat} {Q : Pq} {h : Hp} {v0 : Nat}
    (hv : St10 h v0 ∧ S_X10_entersPart (lX X) (dtX X) 0 0 [.ref v0, .long (gl h v0 23), .long (gl h v0 24)] h (QV fun h2 =>
    St10 h2 v0 ∧ S_X10_entersPart (lX X) (dtX X) 0 0 [.ref v0, .long (gl h2 v0 25), .long (gl h2 v0 26)] h2 (QV fun h4 =>
    Q none h4))) :
    Wj X k n Q 0 [(0, .ref v0)] [] h := by
  refine w_aload_n (pc := 0) C dX10_entersNear_0 rfl ?_
  refine w_aload_n (pc := 1) C dX10_entersNear_1 rfl ?_
  obtain ⟨f1, hv⟩ := hv
  refine w_getL (pc := 2) C fl_X10_281 rfl dX10_entersNear_2 (St10_k f1) ?_
  refine w_aload_n (pc := 5) C dX10_entersNear_5 rfl ?_
  refine w_getL (pc := 6) C fl_X10_271 rfl dX10_entersNear_6 (St10_k f1) ?_
  refine w_cV0_2 (pc := 9) C cl_X10_284 lv_X10_entersPart (by decide) dX10_entersNear_9 (Nat.le_of_ble_eq_true rfl) (c := 10) rfl (St10_k f1) (hv.mono (fun v h2 hp => ?_))
  obtain ⟨rfl, hv⟩ := hp
  refine w_aload_n (pc := 12) C dX10_entersNear_12 rfl ?_
  refine w_aload_n (pc := 13) C dX10_entersNear_13 rfl ?_
  obtain ⟨f3, hv⟩ := hv
  refine w_getL (pc := 14) C fl_X10_278 rfl dX10_entersNear_14 (St10_k f3) ?_
  refine w_aload_n (pc := 17) C dX10_entersNear_17 rfl ?_
  refine w_getL (pc := 18) C fl_X10_275 rfl dX10_entersNear_18 (St10_k f3) ?_
  refine w_cV0_2 (pc := 21) C cl_X10_284 lv_X10_entersPart (by decide) dX10_entersNear_21 (Nat.le_of_ble_eq_true rfl) (c := 10) rfl (St10_k f3) (hv.mono (fun v h4 hp => ?_))
  obtain ⟨rfl, hv⟩ := hp
  exact w_vret (pc := 24) C dX10_entersNear_24 hv
theorem dX10_stepsTo_0 : decode cX10_stepsTo 0 = .ok (.lconst 0, 1) := by decide +kernel
theorem dX10_stepsTo_1 : decode cX10_stepsTo 1 = .ok (.lstore 6, 2) := by decide +kernel
theorem dX10_stepsTo_3 : decode cX10_stepsTo 3 = .ok (.lconst 1, 1) := by decide +kernel
theorem dX10_stepsTo_4 : decode cX10_stepsTo 4 = .ok (.lstore 8, 2) := by decide +kernel
theorem dX10_stepsTo_6 : decode cX10_stepsTo 6 = .ok (.lconst 1, 1) := by decide +kernel
theorem dX10_stepsTo_7 : decode cX10_stepsTo 7 = .ok (.lstore 10, 2) := by decide +kernel
theorem dX10_stepsTo_9 : decode cX10_stepsTo 9 = .ok (.lconst 0, 1) := by decide +kernel
theorem dX10_stepsTo_10 : decode cX10_stepsTo 10 = .ok (.lstore 12, 2) := by decide +kernel
theorem dX10_stepsTo_12 : decode cX10_stepsTo 12 = .ok (.lconst 1, 1) := by decide +kernel
theorem dX10_stepsTo_13 : decode cX10_stepsTo 13 = .ok (.lstore 14, 2) := by decide +kernel
theorem dX10_stepsTo_15 : decode cX10_stepsTo 15 = .ok (.lconst 1, 1) := by decide +kernel
theorem dX10_stepsTo_16 : decode cX10_stepsTo 16 = .ok (.lstore 16, 2) := by decide +kernel
theorem dX10_stepsTo_18 : decode cX10_stepsTo 18 = .ok (.iconst 0, 1) := by decide +kernel
theorem dX10_stepsTo_19 : decode cX10_stepsTo 19 = .ok (.istore 18, 2) := by decide +kernel
theorem dX10_stepsTo_21 : decode cX10_stepsTo 21 = .ok (.lload 14, 2) := by decide +kernel
theorem dX10_stepsTo_23 : decode cX10_stepsTo 23 = .ok (.lload_n 3, 1) := by decide +kernel
theorem dX10_stepsTo_24 : decode cX10_stepsTo 24 = .ok (.lmul, 1) := by decide +kernel
theorem dX10_stepsTo_25 : decode cX10_stepsTo 25 = .ok (.lload_n 1, 1) := by decide +kernel
theorem dX10_stepsTo_26 : decode cX10_stepsTo 26 = .ok (.lload 16, 2) := by decide +kernel
theorem dX10_stepsTo_28 : decode cX10_stepsTo 28 = .ok (.lmul, 1) := by decide +kernel
theorem dX10_stepsTo_29 : decode cX10_stepsTo 29 = .ok (.lcmp, 1) := by decide +kernel
theorem dX10_stepsTo_30 : decode cX10_stepsTo 30 = .ok (.ifCond .eq 88, 3) := by decide +kernel
theorem dX10_stepsTo_33 : decode cX10_stepsTo 33 = .ok (.lload 14, 2) := by decide +kernel
theorem dX10_stepsTo_35 : decode cX10_stepsTo 35 = .ok (.lload_n 3, 1) := by decide +kernel
theorem dX10_stepsTo_36 : decode cX10_stepsTo 36 = .ok (.lmul, 1) := by decide +kernel
theorem dX10_stepsTo_37 : decode cX10_stepsTo 37 = .ok (.lload_n 1, 1) := by decide +kernel
theorem dX10_stepsTo_38 : decode cX10_stepsTo 38 = .ok (.lload 16, 2) := by decide +kernel
theorem dX10_stepsTo_40 : decode cX10_stepsTo 40 = .ok (.lmul, 1) := by decide +kernel
theorem dX10_stepsTo_41 : decode cX10_stepsTo 41 = .ok (.lcmp, 1) := by decide +kernel
theorem dX10_stepsTo_42 : decode cX10_stepsTo 42 = .ok (.ifCond .ge 7, 3) := by decide +kernel
theorem dX10_stepsTo_45 : decode cX10_stepsTo 45 = .ok (.iconst 1, 1) := by decide +kernel
theorem dX10_stepsTo_46 : decode cX10_stepsTo 46 = .ok (.goto 4, 3) := by decide +kernel
theorem dX10_stepsTo_49 : decode cX10_stepsTo 49 = .ok (.iconst 0, 1) := by decide +kernel
theorem dX10_stepsTo_50 : decode cX10_stepsTo 50 = .ok (.istore 19, 2) := by decide +kernel
theorem dX10_stepsTo_52 : decode cX10_stepsTo 52 = .ok (.iload 19, 2) := by decide +kernel
theorem dX10_stepsTo_54 : decode cX10_stepsTo 54 = .ok (.ifCond .eq 14, 3) := by decide +kernel
theorem dX10_stepsTo_57 : decode cX10_stepsTo 57 = .ok (.lload 14, 2) := by decide +kernel
theorem dX10_stepsTo_59 : decode cX10_stepsTo 59 = .ok (.lstore 6, 2) := by decide +kernel
theorem dX10_stepsTo_61 : decode cX10_stepsTo 61 = .ok (.lload 16, 2) := by decide +kernel
theorem dX10_stepsTo_63 : decode cX10_stepsTo 63 = .ok (.lstore 8, 2) := by decide +kernel
theorem dX10_stepsTo_65 : decode cX10_stepsTo 65 = .ok (.goto 11, 3) := by decide +kernel
theorem dX10_stepsTo_68 : decode cX10_stepsTo 68 = .ok (.lload 14, 2) := by decide +kernel
theorem dX10_stepsTo_70 : decode cX10_stepsTo 70 = .ok (.lstore 10, 2) := by decide +kernel
theorem dX10_stepsTo_72 : decode cX10_stepsTo 72 = .ok (.lload 16, 2) := by decide +kernel
theorem dX10_stepsTo_74 : decode cX10_stepsTo 74 = .ok (.lstore 12, 2) := by decide +kernel
theorem dX10_stepsTo_76 : decode cX10_stepsTo 76 = .ok (.lload 6, 2) := by decide +kernel
theorem dX10_stepsTo_78 : decode cX10_stepsTo 78 = .ok (.lload 10, 2) := by decide +kernel
theorem dX10_stepsTo_80 : decode cX10_stepsTo 80 = .ok (.ladd, 1) := by decide +kernel
theorem dX10_stepsTo_81 : decode cX10_stepsTo 81 = .ok (.lstore 14, 2) := by decide +kernel
theorem dX10_stepsTo_83 : decode cX10_stepsTo 83 = .ok (.lload 8, 2) := by decide +kernel
theorem dX10_stepsTo_85 : decode cX10_stepsTo 85 = .ok (.lload 12, 2) := by decide +kernel
theorem dX10_stepsTo_87 : decode cX10_stepsTo 87 = .ok (.ladd, 1) := by decide +kernel
theorem dX10_stepsTo_88 : decode cX10_stepsTo 88 = .ok (.lstore 16, 2) := by decide +kernel
theorem dX10_stepsTo_90 : decode cX10_stepsTo 90 = .ok (.iload 5, 2) := by decide +kernel
theorem dX10_stepsTo_92 : decode cX10_stepsTo 92 = .ok (.ifCond .eq 20, 3) := by decide +kernel
theorem dX10_stepsTo_95 : decode cX10_stepsTo 95 = .ok (.iload 18, 2) := by decide +kernel
theorem dX10_stepsTo_97 : decode cX10_stepsTo 97 = .ok (.bipush 60, 2) := by decide +kernel
theorem dX10_stepsTo_99 : decode cX10_stepsTo 99 = .ok (.if_icmp .ge 13, 3) := by decide +kernel
theorem dX10_stepsTo_102 : decode cX10_stepsTo 102 = .ok (.aload_n 0, 1) := by decide +kernel
theorem dX10_stepsTo_103 : decode cX10_stepsTo 103 = .ok (.iload 19, 2) := by decide +kernel
theorem dX10_stepsTo_105 : decode cX10_stepsTo 105 = .ok (.invokestatic 39, 3) := by decide +kernel
theorem dX10_stepsTo_108 : decode cX10_stepsTo 108 = .ok (.i2l, 1) := by decide +kernel
theorem dX10_stepsTo_109 : decode cX10_stepsTo 109 = .ok (.invokevirtual 18, 3) := by decide +kernel
theorem dX10_stepsTo_112 : decode cX10_stepsTo 112 = .ok (.iinc 18 1, 3) := by decide +kernel
theorem dX10_stepsTo_115 : decode cX10_stepsTo 115 = .ok (.goto (-94), 3) := by decide +kernel
theorem dX10_stepsTo_118 : decode cX10_stepsTo 118 = .ok (.iload 18, 2) := by decide +kernel
theorem dX10_stepsTo_120 : decode cX10_stepsTo 120 = .ok (.ireturn, 1) := by decide +kernel
set_option maxRecDepth 20000 in
set_option maxHeartbeats 2000000 in
theorem V_X10_stepsTo_0 {X : Ctx} (C : C_X10_stepsTo X) {k n : Nat} {Q : Pq} {h : Hp} {v0 : Nat} {v1 v3 : Int64} {v5 : Int32}
    (hv : Wj X k n Q 21 [(0, .ref v0), (1, .long v1), (3, .long v3), (5, .int v5), (6, .long 0), (8, .long 1), (10, .long 1), (12, .long 0), (14, .long 1), (16, .long 1), (18, .int 0)] [] h) :
    Wj X k n Q 0 [(0, .ref v0), (1, .long v1), (3, .long v3), (5, .int v5)] [] h := by
  refine w_lconst (pc := 0) C (v := 0) dX10_stepsTo_0 (by decide) ?_
  refine w_lstore (pc := 1) C dX10_stepsTo_1 (by decide) ?_
  refine w_lconst (pc := 3) C (v := 1) dX10_stepsTo_3 (by decide) ?_
  refine w_lstore (pc := 4) C dX10_stepsTo_4 (by decide) ?_
  refine w_lconst (pc := 6) C (v := 1) dX10_stepsTo_6 (by decide) ?_
  refine w_lstore (pc := 7) C dX10_stepsTo_7 (by decide) ?_
  refine w_lconst (pc := 9) C (v := 0) dX10_stepsTo_9 (by decide) ?_
  refine w_lstore (pc := 10) C dX10_stepsTo_10 (by decide) ?_
  refine w_lconst (pc := 12) C (v := 1) dX10_stepsTo_12 (by decide) ?_
  refine w_lstore (pc := 13) C dX10_stepsTo_13 (by decide) ?_
  refine w_lconst (pc := 15) C (v := 1) dX10_stepsTo_15 (by decide) ?_
  refine w_lstore (pc := 16) C dX10_stepsTo_16 (by decide) ?_
  refine w_iconst (pc := 18) C (v := 0) dX10_stepsTo_18 (by decide) ?_
  refine w_istore (pc := 19) C dX10_stepsTo_19 (by decide) ?_
  refine w_sub ?_ hv
  exact ⟨rfl, rfl, rfl, rfl, rfl, rfl, rfl, rfl, rfl, rfl, rfl, trivial⟩
set_option maxRecDepth 20000 in
set_option maxHeartbeats 2000000 in
theorem V_X10_stepsTo_21 {X : Ctx} (C : C_X10_stepsTo X) {k n : Nat} {Q : Pq} {h : Hp} {v0 : Nat} {v1 v3 v6 v8 v10 v12 v14 v16 : Int64} {v5 v18 : Int32}
    (hv : (((v14 * v3) = (v1 * v16) → Q (some (.int v18)) h) ∧
    (¬ (v14 * v3) = (v1 * v16) → (((v1 * v16) ≤ (v14 * v3) → Wj X k n Q 50 [(0, .ref v0), (1, .long v1), (3, .long v3), (5, .int v5), (6, .long v6), (8, .long v8), (10, .long v10), (12, .long v12), (14, .long v14), (16, .long v16), (18, .int v18)] [.int 0] h) ∧
    (¬ (v1 * v16) ≤ (v14 * v3) → Wj X k n Q 50 [(0, .ref v0), (1, .long v1), (3, .long v3), (5, .int v5), (6, .long v6), (8, .long v8), (10, .long v10), (12, .long v12), (14, .long v14), (16, .long v16), (18, .int v18)] [.int 1] h))))) :
    Wj X k n Q 21 [(0, .ref v0), (1, .long v1), (3, .long v3), (5, .int v5), (6, .long v6), (8, .long v8), (10, .long v10), (12, .long v12), (14, .long v14), (16, .long v16), (18, .int v18)] [] h := by
  refine w_lload (pc := 21) C dX10_stepsTo_21 rfl ?_
  refine w_lload_n (pc := 23) C dX10_stepsTo_23 rfl ?_
  refine w_lmul (pc := 24) C dX10_stepsTo_24 ?_
  refine w_lload_n (pc := 25) C dX10_stepsTo_25 rfl ?_
  refine w_lload (pc := 26) C dX10_stepsTo_26 rfl ?_
  refine w_lmul (pc := 28) C dX10_stepsTo_28 ?_
  refine w_lcmp_eq (pc := 29) C (tgt := 118) dX10_stepsTo_29 dX10_stepsTo_30 (by decide) ?_
  obtain ⟨hv1, hv2⟩ := hv
  refine ⟨fun c2 => ?_, fun c2 => ?_⟩
  · have hv := hv1 c2
    refine w_iload (pc := 118) C dX10_stepsTo_118 rfl ?_
    exact w_iret (pc := 120) C dX10_stepsTo_120 hv
  · have hv := hv2 c2
    refine w_lload (pc := 33) C dX10_stepsTo_33 rfl ?_
    refine w_lload_n (pc := 35) C dX10_stepsTo_35 rfl ?_
    refine w_lmul (pc := 36) C dX10_stepsTo_36 ?_
    refine w_lload_n (pc := 37) C dX10_stepsTo_37 rfl ?_
    refine w_lload (pc := 38) C dX10_stepsTo_38 rfl ?_
    refine w_lmul (pc := 40) C dX10_stepsTo_40 ?_
    refine w_lcmp_ge (pc := 41) C (tgt := 49) dX10_stepsTo_41 dX10_stepsTo_42 (by decide) ?_
    obtain ⟨hv1, hv2⟩ := hv
    refine ⟨fun c1 => ?_, fun c1 => ?_⟩
    · have hv := hv1 c1
      refine w_iconst (pc := 49) C (v := 0) dX10_stepsTo_49 (by decide) ?_
      refine w_sub ?_ hv
      exact ⟨rfl, rfl, rfl, rfl, rfl, rfl, rfl, rfl, rfl, rfl, rfl, trivial⟩
    · have hv := hv2 c1
      refine w_iconst (pc := 45) C (v := 1) dX10_stepsTo_45 (by decide) ?_
      refine w_goto (pc := 46) C (tgt := 50) dX10_stepsTo_46 (by decide) ?_
      refine w_sub ?_ hv
      exact ⟨rfl, rfl, rfl, rfl, rfl, rfl, rfl, rfl, rfl, rfl, rfl, trivial⟩
set_option maxRecDepth 20000 in
set_option maxHeartbeats 2000000 in
theorem V_X10_stepsTo_50 {X : Ctx} (C : C_X10_stepsTo X) {k n : Nat} {Q : Pq} {h : Hp} {v0 : Nat} {v1 v3 v6 v8 v10 v12 v14 v16 : Int64} {v5 v18 s0 : Int32}
    (hv : ((s0 = 0 → Wj X k n Q 76 [(0, .ref v0), (1, .long v1), (3, .long v3), (5, .int v5), (6, .long v6), (8, .long v8), (10, .long v14), (12, .long v16), (18, .int v18), (19, .int s0)] [] h) ∧
    (¬ s0 = 0 → Wj X k n Q 76 [(0, .ref v0), (1, .long v1), (3, .long v3), (5, .int v5), (6, .long v14), (8, .long v16), (10, .long v10), (12, .long v12), (18, .int v18), (19, .int s0)] [] h))) :
    Wj X k n Q 50 [(0, .ref v0), (1, .long v1), (3, .long v3), (5, .int v5), (6, .long v6), (8, .long v8), (10, .long v10), (12, .long v12), (14, .long v14), (16, .long v16), (18, .int v18)] [.int s0] h := by
  refine w_istore (pc := 50) C dX10_stepsTo_50 (by decide) ?_
  refine w_iload (pc := 52) C dX10_stepsTo_52 rfl ?_
  refine w_if_eq (pc := 54) C (tgt := 68) dX10_stepsTo_54 (by decide) ?_
  obtain ⟨hv1, hv2⟩ := hv
  refine ⟨fun c1 => ?_, fun c1 => ?_⟩
  · have hv := hv1 c1
    refine w_lload (pc := 68) C dX10_stepsTo_68 rfl ?_
    refine w_lstore (pc := 70) C dX10_stepsTo_70 (by decide) ?_
    refine w_lload (pc := 72) C dX10_stepsTo_72 rfl ?_
    refine w_lstore (pc := 74) C dX10_stepsTo_74 (by decide) ?_
    refine w_sub ?_ hv
    exact ⟨rfl, rfl, rfl, rfl, rfl, rfl, rfl, rfl, rfl, rfl, trivial⟩
  · have hv := hv2 c1
    refine w_lload (pc := 57) C dX10_stepsTo_57 rfl ?_
    refine w_lstore (pc := 59) C dX10_stepsTo_59 (by decide) ?_
    refine w_lload (pc := 61) C dX10_stepsTo_61 rfl ?_
    refine w_lstore (pc := 63) C dX10_stepsTo_63 (by decide) ?_
    refine w_goto (pc := 65) C (tgt := 76) dX10_stepsTo_65 (by decide) ?_
    refine w_sub ?_ hv
    exact ⟨rfl, rfl, rfl, rfl, rfl, rfl, rfl, rfl, rfl, rfl, trivial⟩
set_option maxRecDepth 20000 in
set_option maxHeartbeats 2000000 in
theorem V_X10_stepsTo_76 {X : Ctx} (C : C_X10_stepsTo X) {k n : Nat} {Q : Pq} {h : Hp} {v0 : Nat} {v1 v3 v10 v12 v6 v8 : Int64} {v5 v18 v19 : Int32}
    (hv : ((v5 = 0 → Wj X k n Q 21 [(0, .ref v0), (1, .long v1), (3, .long v3), (5, .int v5), (6, .long v6), (8, .long v8), (10, .long v10), (12, .long v12), (14, .long (v6 + v10)), (16, .long (v8 + v12)), (18, .int (v18 + Int32.ofInt 1))] [] h) ∧
    (¬ v5 = 0 → ((60 ≤ v18 → Wj X k n Q 21 [(0, .ref v0), (1, .long v1), (3, .long v3), (5, .int v5), (6, .long v6), (8, .long v8), (10, .long v10), (12, .long v12), (14, .long (v6 + v10)), (16, .long (v8 + v12)), (18, .int (v18 + Int32.ofInt 1))] [] h) ∧
    (¬ 60 ≤ v18 → St10 h v0 ∧ S_X10_enters (lX X) (dtX X) 0 0 [.ref v0, .long (Int32.toInt64 (flg v19))] h (QV fun h2 =>
    Wj X k n Q 21 [(0, .ref v0), (1, .long v1), (3, .long v3), (5, .int v5), (6, .long v6), (8, .long v8), (10, .long v10), (12, .long v12), (14, .long (v6 + v10)), (16, .long (v8 + v12)), (18, .int (v18 + Int32.ofInt 1))] [] h2)))))) :
    Wj X k n Q 76 [(0, .ref v0), (1, .long v1), (3, .long v3), (5, .int v5), (6, .long v6), (8, .long v8), (10, .long v10), (12, .long v12), (18, .int v18), (19, .int v19)] [] h := by
  refine w_lload (pc := 76) C dX10_stepsTo_76 rfl ?_
  refine w_lload (pc := 78) C dX10_stepsTo_78 rfl ?_
  refine w_ladd (pc := 80) C dX10_stepsTo_80 ?_
  refine w_lstore (pc := 81) C dX10_stepsTo_81 (by decide) ?_
  refine w_lload (pc := 83) C dX10_stepsTo_83 rfl ?_
  refine w_lload (pc := 85) C dX10_stepsTo_85 rfl ?_
  refine w_ladd (pc := 87) C dX10_stepsTo_87 ?_
  refine w_lstore (pc := 88) C dX10_stepsTo_88 (by decide) ?_
  refine w_iload (pc := 90) C dX10_stepsTo_90 rfl ?_
  refine w_if_eq (pc := 92) C (tgt := 112) dX10_stepsTo_92 (by decide) ?_
  obtain ⟨hv1, hv2⟩ := hv
  refine ⟨fun c4 => ?_, fun c4 => ?_⟩
  · have hv := hv1 c4
    refine w_iinc (pc := 112) C dX10_stepsTo_112 rfl (by decide) ?_
    refine w_goto (pc := 115) C (tgt := 21) dX10_stepsTo_115 (by decide) ?_
    refine w_sub ?_ hv
    exact ⟨rfl, rfl, rfl, rfl, rfl, rfl, rfl, rfl, rfl, rfl, rfl, trivial⟩
  · have hv := hv2 c4
    refine w_iload (pc := 95) C dX10_stepsTo_95 rfl ?_
    refine w_bipush (pc := 97) C (v := 60) dX10_stepsTo_97 (by decide) ?_
    refine w_icmp_ge (pc := 99) C (tgt := 112) dX10_stepsTo_99 (by decide) ?_
    obtain ⟨hv1, hv2⟩ := hv
    refine ⟨fun c3 => ?_, fun c3 => ?_⟩
    · have hv := hv1 c3
      refine w_iinc (pc := 112) C dX10_stepsTo_112 rfl (by decide) ?_
      refine w_goto (pc := 115) C (tgt := 21) dX10_stepsTo_115 (by decide) ?_
      refine w_sub ?_ hv
      exact ⟨rfl, rfl, rfl, rfl, rfl, rfl, rfl, rfl, rfl, rfl, rfl, trivial⟩
    · have hv := hv2 c3
      refine w_aload_n (pc := 102) C dX10_stepsTo_102 rfl ?_
      refine w_iload (pc := 103) C dX10_stepsTo_103 rfl ?_
      refine w_cS0_1 (pc := 105) C cl_X10_39 ls_X10_flag (by decide) dX10_stepsTo_105 (Nat.le_of_ble_eq_true rfl) ((sf_X10_flag (h := h) ).mono (fun v h9 hp => ?_))
      obtain ⟨e1, e2⟩ := hp
      rw [e1, e2]
      refine w_i2l (pc := 108) C dX10_stepsTo_108 ?_
      obtain ⟨f1, hv⟩ := hv
      refine w_cV0_1 (pc := 109) C cl_X10_18 lv_X10_enters (by decide) dX10_stepsTo_109 (Nat.le_of_ble_eq_true rfl) (c := 10) rfl (St10_k f1) (hv.mono (fun v h2 hp => ?_))
      obtain ⟨rfl, hv⟩ := hp
      refine w_iinc (pc := 112) C dX10_stepsTo_112 rfl (by decide) ?_
      refine w_goto (pc := 115) C (tgt := 21) dX10_stepsTo_115 (by decide) ?_
      refine w_sub ?_ hv
      exact ⟨rfl, rfl, rfl, rfl, rfl, rfl, rfl, rfl, rfl, rfl, rfl, trivial⟩
theorem dX10_near_0 : decode cX10_near 0 = .ok (.aload_n 0, 1) := by decide +kernel
theorem dX10_near_1 : decode cX10_near 1 = .ok (.iconst 0, 1) := by decide +kernel
theorem dX10_near_2 : decode cX10_near 2 = .ok (.putfield 1, 3) := by decide +kernel
theorem dX10_near_5 : decode cX10_near 5 = .ok (.iload_n 1, 1) := by decide +kernel
theorem dX10_near_6 : decode cX10_near 6 = .ok (.i2l, 1) := by decide +kernel
theorem dX10_near_7 : decode cX10_near 7 = .ok (.lconst 1, 1) := by decide +kernel
theorem dX10_near_8 : decode cX10_near 8 = .ok (.ldc2_w 314, 3) := by decide +kernel
theorem dX10_near_11 : decode cX10_near 11 = .ok (.invokestatic 29, 3) := by decide +kernel
theorem dX10_near_14 : decode cX10_near 14 = .ok (.ifCond .eq 27, 3) := by decide +kernel
theorem dX10_near_17 : decode cX10_near 17 = .ok (.iload_n 2, 1) := by decide +kernel
theorem dX10_near_18 : decode cX10_near 18 = .ok (.i2l, 1) := by decide +kernel
theorem dX10_near_19 : decode cX10_near 19 = .ok (.lconst 1, 1) := by decide +kernel
theorem dX10_near_20 : decode cX10_near 20 = .ok (.ldc2_w 314, 3) := by decide +kernel
theorem dX10_near_23 : decode cX10_near 23 = .ok (.invokestatic 29, 3) := by decide +kernel
theorem dX10_near_26 : decode cX10_near 26 = .ok (.ifCond .eq 15, 3) := by decide +kernel
theorem dX10_near_29 : decode cX10_near 29 = .ok (.iload_n 3, 1) := by decide +kernel
theorem dX10_near_30 : decode cX10_near 30 = .ok (.i2l, 1) := by decide +kernel
theorem dX10_near_31 : decode cX10_near 31 = .ok (.lconst 1, 1) := by decide +kernel
theorem dX10_near_32 : decode cX10_near 32 = .ok (.ldc2_w 316, 3) := by decide +kernel
theorem dX10_near_35 : decode cX10_near 35 = .ok (.invokestatic 29, 3) := by decide +kernel
theorem dX10_near_38 : decode cX10_near 38 = .ok (.ifCond .ne 5, 3) := by decide +kernel
theorem dX10_near_41 : decode cX10_near 41 = .ok (.iconst (-1), 1) := by decide +kernel
theorem dX10_near_42 : decode cX10_near 42 = .ok (.ireturn, 1) := by decide +kernel
theorem dX10_near_43 : decode cX10_near 43 = .ok (.aload_n 0, 1) := by decide +kernel
theorem dX10_near_44 : decode cX10_near 44 = .ok (.lconst 0, 1) := by decide +kernel
theorem dX10_near_45 : decode cX10_near 45 = .ok (.putfield 271, 3) := by decide +kernel
theorem dX10_near_48 : decode cX10_near 48 = .ok (.iconst 1, 1) := by decide +kernel
theorem dX10_near_49 : decode cX10_near 49 = .ok (.istore 4, 2) := by decide +kernel
theorem dX10_near_51 : decode cX10_near 51 = .ok (.iload 4, 2) := by decide +kernel
theorem dX10_near_53 : decode cX10_near 53 = .ok (.iload_n 3, 1) := by decide +kernel
theorem dX10_near_54 : decode cX10_near 54 = .ok (.if_icmp .gt 52, 3) := by decide +kernel
theorem dX10_near_57 : decode cX10_near 57 = .ok (.iload_n 1, 1) := by decide +kernel
theorem dX10_near_58 : decode cX10_near 58 = .ok (.i2l, 1) := by decide +kernel
theorem dX10_near_59 : decode cX10_near 59 = .ok (.iload 4, 2) := by decide +kernel
theorem dX10_near_61 : decode cX10_near 61 = .ok (.i2l, 1) := by decide +kernel
theorem dX10_near_62 : decode cX10_near 62 = .ok (.lmul, 1) := by decide +kernel
theorem dX10_near_63 : decode cX10_near 63 = .ok (.iload_n 2, 1) := by decide +kernel
theorem dX10_near_64 : decode cX10_near 64 = .ok (.i2l, 1) := by decide +kernel
theorem dX10_near_65 : decode cX10_near 65 = .ok (.ldiv, 1) := by decide +kernel
theorem dX10_near_66 : decode cX10_near 66 = .ok (.lstore 5, 2) := by decide +kernel
theorem dX10_near_68 : decode cX10_near 68 = .ok (.aload_n 0, 1) := by decide +kernel
theorem dX10_near_69 : decode cX10_near 69 = .ok (.lload 5, 2) := by decide +kernel
theorem dX10_near_71 : decode cX10_near 71 = .ok (.iload 4, 2) := by decide +kernel
theorem dX10_near_73 : decode cX10_near 73 = .ok (.i2l, 1) := by decide +kernel
theorem dX10_near_74 : decode cX10_near 74 = .ok (.iload_n 1, 1) := by decide +kernel
theorem dX10_near_75 : decode cX10_near 75 = .ok (.i2l, 1) := by decide +kernel
theorem dX10_near_76 : decode cX10_near 76 = .ok (.iload_n 2, 1) := by decide +kernel
theorem dX10_near_77 : decode cX10_near 77 = .ok (.i2l, 1) := by decide +kernel
theorem dX10_near_78 : decode cX10_near 78 = .ok (.invokevirtual 288, 3) := by decide +kernel
theorem dX10_near_81 : decode cX10_near 81 = .ok (.istore 7, 2) := by decide +kernel
theorem dX10_near_83 : decode cX10_near 83 = .ok (.aload_n 0, 1) := by decide +kernel
theorem dX10_near_84 : decode cX10_near 84 = .ok (.lload 5, 2) := by decide +kernel
theorem dX10_near_86 : decode cX10_near 86 = .ok (.lconst 1, 1) := by decide +kernel
theorem dX10_near_87 : decode cX10_near 87 = .ok (.ladd, 1) := by decide +kernel
theorem dX10_near_88 : decode cX10_near 88 = .ok (.iload 4, 2) := by decide +kernel
theorem dX10_near_90 : decode cX10_near 90 = .ok (.i2l, 1) := by decide +kernel
theorem dX10_near_91 : decode cX10_near 91 = .ok (.iload_n 1, 1) := by decide +kernel
theorem dX10_near_92 : decode cX10_near 92 = .ok (.i2l, 1) := by decide +kernel
theorem dX10_near_93 : decode cX10_near 93 = .ok (.iload_n 2, 1) := by decide +kernel
theorem dX10_near_94 : decode cX10_near 94 = .ok (.i2l, 1) := by decide +kernel
theorem dX10_near_95 : decode cX10_near 95 = .ok (.invokevirtual 288, 3) := by decide +kernel
theorem dX10_near_98 : decode cX10_near 98 = .ok (.istore 7, 2) := by decide +kernel
theorem dX10_near_100 : decode cX10_near 100 = .ok (.iinc 4 1, 3) := by decide +kernel
theorem dX10_near_103 : decode cX10_near 103 = .ok (.goto (-52), 3) := by decide +kernel
theorem dX10_near_106 : decode cX10_near 106 = .ok (.aload_n 0, 1) := by decide +kernel
theorem dX10_near_107 : decode cX10_near 107 = .ok (.iconst 0, 1) := by decide +kernel
theorem dX10_near_108 : decode cX10_near 108 = .ok (.putfield 11, 3) := by decide +kernel
theorem dX10_near_111 : decode cX10_near 111 = .ok (.aload_n 0, 1) := by decide +kernel
theorem dX10_near_112 : decode cX10_near 112 = .ok (.invokevirtual 295, 3) := by decide +kernel
theorem dX10_near_115 : decode cX10_near 115 = .ok (.aload_n 0, 1) := by decide +kernel
theorem dX10_near_116 : decode cX10_near 116 = .ok (.getfield 281, 3) := by decide +kernel
theorem dX10_near_119 : decode cX10_near 119 = .ok (.lconst 0, 1) := by decide +kernel
theorem dX10_near_120 : decode cX10_near 120 = .ok (.lcmp, 1) := by decide +kernel
theorem dX10_near_121 : decode cX10_near 121 = .ok (.ifCond .ne 7, 3) := by decide +kernel
theorem dX10_near_124 : decode cX10_near 124 = .ok (.iconst 0, 1) := by decide +kernel
theorem dX10_near_125 : decode cX10_near 125 = .ok (.goto 16, 3) := by decide +kernel
theorem dX10_near_128 : decode cX10_near 128 = .ok (.aload_n 0, 1) := by decide +kernel
theorem dX10_near_129 : decode cX10_near 129 = .ok (.aload_n 0, 1) := by decide +kernel
theorem dX10_near_130 : decode cX10_near 130 = .ok (.getfield 281, 3) := by decide +kernel
theorem dX10_near_133 : decode cX10_near 133 = .ok (.aload_n 0, 1) := by decide +kernel
theorem dX10_near_134 : decode cX10_near 134 = .ok (.getfield 271, 3) := by decide +kernel
theorem dX10_near_137 : decode cX10_near 137 = .ok (.iconst 0, 1) := by decide +kernel
theorem dX10_near_138 : decode cX10_near 138 = .ok (.invokevirtual 318, 3) := by decide +kernel
theorem dX10_near_141 : decode cX10_near 141 = .ok (.ireturn, 1) := by decide +kernel
set_option maxRecDepth 20000 in
set_option maxHeartbeats 2000000 in
theorem V_X10_near_0 {X : Ctx} (C : C_X10_near X) {k n : Nat} {Q : Pq} {h : Hp} {v0 : Nat} {v1 v2 v3 : Int32}
    (hv : St10 h v0 ∧ (((btL (Int32.toInt64 v1) 1 100000) = 0 → Q (some (.int (-1))) (si h v0 0 0)) ∧
    (¬ (btL (Int32.toInt64 v1) 1 100000) = 0 → (((btL (Int32.toInt64 v2) 1 100000) = 0 → Q (some (.int (-1))) (si h v0 0 0)) ∧
    (¬ (btL (Int32.toInt64 v2) 1 100000) = 0 → ((¬ (btL (Int32.toInt64 v3) 1 1000) = 0 → Wj X k n Q 51 [(0, .ref v0), (1, .int v1), (2, .int v2), (3, .int v3), (4, .int 1)] [] (sl (si h v0 0 0) v0 24 0)) ∧
    ((btL (Int32.toInt64 v3) 1 1000) = 0 → Q (some (.int (-1))) (si h v0 0 0)))))))) :
    Wj X k n Q 0 [(0, .ref v0), (1, .int v1), (2, .int v2), (3, .int v3)] [] h := by
  refine w_aload_n (pc := 0) C dX10_near_0 rfl ?_
  refine w_iconst (pc := 1) C (v := 0) dX10_near_1 (by decide) ?_
  obtain ⟨f1, hv⟩ := hv
  refine w_putI (pc := 2) C fl_X10_1 rfl rfl dX10_near_2 (St10_k f1) ?_
  refine w_iload_n (pc := 5) C dX10_near_5 rfl ?_
  refine w_i2l (pc := 6) C dX10_near_6 ?_
  refine w_lconst (pc := 7) C (v := 1) dX10_near_7 (by decide) ?_
  refine w_ldc2 (pc := 8) C ctl_X10_314 dX10_near_8 ?_
  refine w_cS0_3 (pc := 11) C cl_X10_29 ls_X10_in (by decide) dX10_near_11 (Nat.le_of_ble_eq_true rfl) ((sf_X10_in (h := (si h v0 0 0)) ).mono (fun v h9 hp => ?_))
  obtain ⟨e1, e2⟩ := hp
  rw [e1, e2]
  refine w_if_eq (pc := 14) C (tgt := 41) dX10_near_14 (by decide) ?_
  obtain ⟨hv1, hv2⟩ := hv
  refine ⟨fun c4 => ?_, fun c4 => ?_⟩
  · have hv := hv1 c4
    refine w_iconst (pc := 41) C (v := (-1)) dX10_near_41 (by decide) ?_
    exact w_iret (pc := 42) C dX10_near_42 hv
  · have hv := hv2 c4
    refine w_iload_n (pc := 17) C dX10_near_17 rfl ?_
    refine w_i2l (pc := 18) C dX10_near_18 ?_
    refine w_lconst (pc := 19) C (v := 1) dX10_near_19 (by decide) ?_
    refine w_ldc2 (pc := 20) C ctl_X10_314 dX10_near_20 ?_
    refine w_cS0_3 (pc := 23) C cl_X10_29 ls_X10_in (by decide) dX10_near_23 (Nat.le_of_ble_eq_true rfl) ((sf_X10_in (h := (si h v0 0 0)) ).mono (fun v h9 hp => ?_))
    obtain ⟨e1, e2⟩ := hp
    rw [e1, e2]
    refine w_if_eq (pc := 26) C (tgt := 41) dX10_near_26 (by decide) ?_
    obtain ⟨hv1, hv2⟩ := hv
    refine ⟨fun c3 => ?_, fun c3 => ?_⟩
    · have hv := hv1 c3
      refine w_iconst (pc := 41) C (v := (-1)) dX10_near_41 (by decide) ?_
      exact w_iret (pc := 42) C dX10_near_42 hv
    · have hv := hv2 c3
      refine w_iload_n (pc := 29) C dX10_near_29 rfl ?_
      refine w_i2l (pc := 30) C dX10_near_30 ?_
      refine w_lconst (pc := 31) C (v := 1) dX10_near_31 (by decide) ?_
      refine w_ldc2 (pc := 32) C ctl_X10_316 dX10_near_32 ?_
      refine w_cS0_3 (pc := 35) C cl_X10_29 ls_X10_in (by decide) dX10_near_35 (Nat.le_of_ble_eq_true rfl) ((sf_X10_in (h := (si h v0 0 0)) ).mono (fun v h9 hp => ?_))
      obtain ⟨e1, e2⟩ := hp
      rw [e1, e2]
      refine w_if_ne (pc := 38) C (tgt := 43) dX10_near_38 (by decide) ?_
      obtain ⟨hv1, hv2⟩ := hv
      refine ⟨fun c2 => ?_, fun c2 => ?_⟩
      · have hv := hv1 c2
        refine w_aload_n (pc := 43) C dX10_near_43 rfl ?_
        refine w_lconst (pc := 44) C (v := 0) dX10_near_44 (by decide) ?_
        refine w_putL (pc := 45) C fl_X10_271 rfl rfl dX10_near_45 (St10_k f1) ?_
        refine w_iconst (pc := 48) C (v := 1) dX10_near_48 (by decide) ?_
        refine w_istore (pc := 49) C dX10_near_49 (by decide) ?_
        refine w_sub ?_ hv
        exact ⟨rfl, rfl, rfl, rfl, rfl, trivial⟩
      · have hv := hv2 c2
        refine w_iconst (pc := 41) C (v := (-1)) dX10_near_41 (by decide) ?_
        exact w_iret (pc := 42) C dX10_near_42 hv
set_option maxRecDepth 20000 in
set_option maxHeartbeats 2000000 in
theorem V_X10_near_51 {X : Ctx} (C : C_X10_near X) {k n : Nat} {Q : Pq} {h : Hp} {v0 : Nat} {v1 v2 v3 v4 : Int32}
    (hv : ((v3 < v4 → St10 h v0 ∧ S_X10_entersNear (lX X) (dtX X) 0 0 [.ref v0] (si h v0 1 0) (QV fun h2 =>
    St10 h2 v0 ∧ ((¬ (gl h2 v0 23) = 0 → S_X10_stepsTo (lX X) (dtX X) 0 0 [.ref v0, .long (gl h2 v0 23), .long (gl h2 v0 24), .int 0] h2 (QI fun x5 h4 =>
    Q (some (.int x5)) h4)) ∧
    ((gl h2 v0 23) = 0 → Q (some (.int 0)) h2)))) ∧
    (¬ v3 < v4 → ¬ (Int32.toInt64 v2) = 0 ∧ (∀ z8 : Int64, z8 = (((Int32.toInt64 v1) * (Int32.toInt64 v4)) / (Int32.toInt64 v2)) →
    St10 h v0 ∧ S_X10_isNearer (lX X) (dtX X) 0 0 [.ref v0, .long z8, .long (Int32.toInt64 v4), .long (Int32.toInt64 v1), .long (Int32.toInt64 v2)] h (QI fun x11 h10 =>
    St10 h10 v0 ∧ S_X10_isNearer (lX X) (dtX X) 0 0 [.ref v0, .long (z8 + 1), .long (Int32.toInt64 v4), .long (Int32.toInt64 v1), .long (Int32.toInt64 v2)] h10 (QI fun x14 h13 =>
    Wj X k n Q 51 [(0, .ref v0), (1, .int v1), (2, .int v2), (3, .int v3), (4, .int (v4 + Int32.ofInt 1))] [] h13)))))) :
    Wj X k n Q 51 [(0, .ref v0), (1, .int v1), (2, .int v2), (3, .int v3), (4, .int v4)] [] h := by
  refine w_iload (pc := 51) C dX10_near_51 rfl ?_
  refine w_iload_n (pc := 53) C dX10_near_53 rfl ?_
  refine w_icmp_gt (pc := 54) C (tgt := 106) dX10_near_54 (by decide) ?_
  obtain ⟨hv1, hv2⟩ := hv
  refine ⟨fun c15 => ?_, fun c15 => ?_⟩
  · have hv := hv1 c15
    refine w_aload_n (pc := 106) C dX10_near_106 rfl ?_
    refine w_iconst (pc := 107) C (v := 0) dX10_near_107 (by decide) ?_
    obtain ⟨f1, hv⟩ := hv
    refine w_putI (pc := 108) C fl_X10_11 rfl rfl dX10_near_108 (St10_k f1) ?_
    refine w_aload_n (pc := 111) C dX10_near_111 rfl ?_
    refine w_cV0_0 (pc := 112) C cl_X10_295 lv_X10_entersNear (by decide) dX10_near_112 (Nat.le_of_ble_eq_true rfl) (c := 10) rfl (St10_k f1) (hv.mono (fun v h2 hp => ?_))
    obtain ⟨rfl, hv⟩ := hp
    refine w_aload_n (pc := 115) C dX10_near_115 rfl ?_
    obtain ⟨f3, hv⟩ := hv
    refine w_getL (pc := 116) C fl_X10_281 rfl dX10_near_116 (St10_k f3) ?_
    refine w_lconst (pc := 119) C (v := 0) dX10_near_119 (by decide) ?_
    refine w_lcmp_ne (pc := 120) C (tgt := 128) dX10_near_120 dX10_near_121 (by decide) ?_
    obtain ⟨hv1, hv2⟩ := hv
    refine ⟨fun c6 => ?_, fun c6 => ?_⟩
    · have hv := hv1 c6
      refine w_aload_n (pc := 128) C dX10_near_128 rfl ?_
      refine w_aload_n (pc := 129) C dX10_near_129 rfl ?_
      refine w_getL (pc := 130) C fl_X10_281 rfl dX10_near_130 (St10_k f3) ?_
      refine w_aload_n (pc := 133) C dX10_near_133 rfl ?_
      refine w_getL (pc := 134) C fl_X10_271 rfl dX10_near_134 (St10_k f3) ?_
      refine w_iconst (pc := 137) C (v := 0) dX10_near_137 (by decide) ?_
      refine w_cV0_3 (pc := 138) C cl_X10_318 lv_X10_stepsTo (by decide) dX10_near_138 (Nat.le_of_ble_eq_true rfl) (c := 10) rfl (St10_k f3) (hv.mono (fun v h4 hp => ?_))
      obtain ⟨x5, rfl, hv⟩ := hp
      exact w_iret (pc := 141) C dX10_near_141 hv
    · have hv := hv2 c6
      refine w_iconst (pc := 124) C (v := 0) dX10_near_124 (by decide) ?_
      refine w_goto (pc := 125) C (tgt := 141) dX10_near_125 (by decide) ?_
      exact w_iret (pc := 141) C dX10_near_141 hv
  · have hv := hv2 c15
    refine w_iload_n (pc := 57) C dX10_near_57 rfl ?_
    refine w_i2l (pc := 58) C dX10_near_58 ?_
    refine w_iload (pc := 59) C dX10_near_59 rfl ?_
    refine w_i2l (pc := 61) C dX10_near_61 ?_
    refine w_lmul (pc := 62) C dX10_near_62 ?_
    refine w_iload_n (pc := 63) C dX10_near_63 rfl ?_
    refine w_i2l (pc := 64) C dX10_near_64 ?_
    obtain ⟨f7, hv⟩ := hv
    refine w_ldiv (pc := 65) C dX10_near_65 f7 ?_
    obtain ⟨z8, ez8⟩ : ∃ z : Int64, z = (((Int32.toInt64 v1) * (Int32.toInt64 v4)) / (Int32.toInt64 v2)) := ⟨_, rfl⟩
    have hv := hv z8 ez8
    rw [← ez8]
    refine w_lstore (pc := 66) C dX10_near_66 (by decide) ?_
    refine w_aload_n (pc := 68) C dX10_near_68 rfl ?_
    refine w_lload (pc := 69) C dX10_near_69 rfl ?_
    refine w_iload (pc := 71) C dX10_near_71 rfl ?_
    refine w_i2l (pc := 73) C dX10_near_73 ?_
    refine w_iload_n (pc := 74) C dX10_near_74 rfl ?_
    refine w_i2l (pc := 75) C dX10_near_75 ?_
    refine w_iload_n (pc := 76) C dX10_near_76 rfl ?_
    refine w_i2l (pc := 77) C dX10_near_77 ?_
    obtain ⟨f9, hv⟩ := hv
    refine w_cV0_4 (pc := 78) C cl_X10_288 lv_X10_isNearer (by decide) dX10_near_78 (Nat.le_of_ble_eq_true rfl) (c := 10) rfl (St10_k f9) (hv.mono (fun v h10 hp => ?_))
    obtain ⟨x11, rfl, hv⟩ := hp
    refine w_istore (pc := 81) C dX10_near_81 (by decide) ?_
    refine w_aload_n (pc := 83) C dX10_near_83 rfl ?_
    refine w_lload (pc := 84) C dX10_near_84 rfl ?_
    refine w_lconst (pc := 86) C (v := 1) dX10_near_86 (by decide) ?_
    refine w_ladd (pc := 87) C dX10_near_87 ?_
    refine w_iload (pc := 88) C dX10_near_88 rfl ?_
    refine w_i2l (pc := 90) C dX10_near_90 ?_
    refine w_iload_n (pc := 91) C dX10_near_91 rfl ?_
    refine w_i2l (pc := 92) C dX10_near_92 ?_
    refine w_iload_n (pc := 93) C dX10_near_93 rfl ?_
    refine w_i2l (pc := 94) C dX10_near_94 ?_
    obtain ⟨f12, hv⟩ := hv
    refine w_cV0_4 (pc := 95) C cl_X10_288 lv_X10_isNearer (by decide) dX10_near_95 (Nat.le_of_ble_eq_true rfl) (c := 10) rfl (St10_k f12) (hv.mono (fun v h13 hp => ?_))
    obtain ⟨x14, rfl, hv⟩ := hp
    refine w_istore (pc := 98) C dX10_near_98 (by decide) ?_
    refine w_iinc (pc := 100) C dX10_near_100 rfl (by decide) ?_
    refine w_goto (pc := 103) C (tgt := 51) dX10_near_103 (by decide) ?_
    refine w_sub ?_ hv
    exact ⟨rfl, rfl, rfl, rfl, rfl, trivial⟩
theorem dX10_tree_0 : decode cX10_tree 0 = .ok (.aload_n 0, 1) := by decide +kernel
theorem dX10_tree_1 : decode cX10_tree 1 = .ok (.iconst 0, 1) := by decide +kernel
theorem dX10_tree_2 : decode cX10_tree 2 = .ok (.putfield 1, 3) := by decide +kernel
theorem dX10_tree_5 : decode cX10_tree 5 = .ok (.iload_n 1, 1) := by decide +kernel
theorem dX10_tree_6 : decode cX10_tree 6 = .ok (.iload_n 2, 1) := by decide +kernel
theorem dX10_tree_7 : decode cX10_tree 7 = .ok (.invokestatic 265, 3) := by decide +kernel
theorem dX10_tree_10 : decode cX10_tree 10 = .ok (.ifCond .ne 5, 3) := by decide +kernel
theorem dX10_tree_13 : decode cX10_tree 13 = .ok (.iconst (-1), 1) := by decide +kernel
theorem dX10_tree_14 : decode cX10_tree 14 = .ok (.ireturn, 1) := by decide +kernel
theorem dX10_tree_15 : decode cX10_tree 15 = .ok (.aload_n 0, 1) := by decide +kernel
theorem dX10_tree_16 : decode cX10_tree 16 = .ok (.iconst 0, 1) := by decide +kernel
theorem dX10_tree_17 : decode cX10_tree 17 = .ok (.putfield 11, 3) := by decide +kernel
theorem dX10_tree_20 : decode cX10_tree 20 = .ok (.aload_n 0, 1) := by decide +kernel
theorem dX10_tree_21 : decode cX10_tree 21 = .ok (.iload_n 1, 1) := by decide +kernel
theorem dX10_tree_22 : decode cX10_tree 22 = .ok (.i2l, 1) := by decide +kernel
theorem dX10_tree_23 : decode cX10_tree 23 = .ok (.iload_n 2, 1) := by decide +kernel
theorem dX10_tree_24 : decode cX10_tree 24 = .ok (.i2l, 1) := by decide +kernel
theorem dX10_tree_25 : decode cX10_tree 25 = .ok (.iconst 1, 1) := by decide +kernel
theorem dX10_tree_26 : decode cX10_tree 26 = .ok (.invokevirtual 318, 3) := by decide +kernel
theorem dX10_tree_29 : decode cX10_tree 29 = .ok (.ireturn, 1) := by decide +kernel
set_option maxRecDepth 20000 in
set_option maxHeartbeats 2000000 in
theorem V_X10_tree_0 {X : Ctx} (C : C_X10_tree X) {k n : Nat} {Q : Pq} {h : Hp} {v0 : Nat} {v1 v2 : Int32}
    (hv : St10 h v0 ∧ ((¬ (iRt v1 v2) = 0 → S_X10_stepsTo (lX X) (dtX X) 0 0 [.ref v0, .long (Int32.toInt64 v1), .long (Int32.toInt64 v2), .int 1] (si (si h v0 0 0) v0 1 0) (QI fun x3 h2 =>
    Q (some (.int x3)) h2)) ∧
    ((iRt v1 v2) = 0 → Q (some (.int (-1))) (si h v0 0 0)))) :
    Wj X k n Q 0 [(0, .ref v0), (1, .int v1), (2, .int v2)] [] h := by
  refine w_aload_n (pc := 0) C dX10_tree_0 rfl ?_
  refine w_iconst (pc := 1) C (v := 0) dX10_tree_1 (by decide) ?_
  obtain ⟨f1, hv⟩ := hv
  refine w_putI (pc := 2) C fl_X10_1 rfl rfl dX10_tree_2 (St10_k f1) ?_
  refine w_iload_n (pc := 5) C dX10_tree_5 rfl ?_
  refine w_iload_n (pc := 6) C dX10_tree_6 rfl ?_
  refine w_cS0_2 (pc := 7) C cl_X10_265 ls_X10_isRatio (by decide) dX10_tree_7 (Nat.le_of_ble_eq_true rfl) ((sf_X10_isRatio (h := (si h v0 0 0)) ).mono (fun v h9 hp => ?_))
  obtain ⟨e1, e2⟩ := hp
  rw [e1, e2]
  refine w_if_ne (pc := 10) C (tgt := 15) dX10_tree_10 (by decide) ?_
  obtain ⟨hv1, hv2⟩ := hv
  refine ⟨fun c4 => ?_, fun c4 => ?_⟩
  · have hv := hv1 c4
    refine w_aload_n (pc := 15) C dX10_tree_15 rfl ?_
    refine w_iconst (pc := 16) C (v := 0) dX10_tree_16 (by decide) ?_
    refine w_putI (pc := 17) C fl_X10_11 rfl rfl dX10_tree_17 (St10_k f1) ?_
    refine w_aload_n (pc := 20) C dX10_tree_20 rfl ?_
    refine w_iload_n (pc := 21) C dX10_tree_21 rfl ?_
    refine w_i2l (pc := 22) C dX10_tree_22 ?_
    refine w_iload_n (pc := 23) C dX10_tree_23 rfl ?_
    refine w_i2l (pc := 24) C dX10_tree_24 ?_
    refine w_iconst (pc := 25) C (v := 1) dX10_tree_25 (by decide) ?_
    refine w_cV0_3 (pc := 26) C cl_X10_318 lv_X10_stepsTo (by decide) dX10_tree_26 (Nat.le_of_ble_eq_true rfl) (c := 10) rfl (St10_k f1) (hv.mono (fun v h2 hp => ?_))
    obtain ⟨x3, rfl, hv⟩ := hp
    exact w_iret (pc := 29) C dX10_tree_29 hv
  · have hv := hv2 c4
    refine w_iconst (pc := 13) C (v := (-1)) dX10_tree_13 (by decide) ?_
    exact w_iret (pc := 14) C dX10_tree_14 hv
theorem dX10_angle_0 : decode cX10_angle 0 = .ok (.aload_n 0, 1) := by decide +kernel
theorem dX10_angle_1 : decode cX10_angle 1 = .ok (.iconst 0, 1) := by decide +kernel
theorem dX10_angle_2 : decode cX10_angle 2 = .ok (.putfield 1, 3) := by decide +kernel
theorem dX10_angle_5 : decode cX10_angle 5 = .ok (.iload_n 1, 1) := by decide +kernel
theorem dX10_angle_6 : decode cX10_angle 6 = .ok (.i2l, 1) := by decide +kernel
theorem dX10_angle_7 : decode cX10_angle 7 = .ok (.lconst 1, 1) := by decide +kernel
theorem dX10_angle_8 : decode cX10_angle 8 = .ok (.ldc2_w 322, 3) := by decide +kernel
theorem dX10_angle_11 : decode cX10_angle 11 = .ok (.invokestatic 29, 3) := by decide +kernel
theorem dX10_angle_14 : decode cX10_angle 14 = .ok (.ifCond .ne 5, 3) := by decide +kernel
theorem dX10_angle_17 : decode cX10_angle 17 = .ok (.iconst (-1), 1) := by decide +kernel
theorem dX10_angle_18 : decode cX10_angle 18 = .ok (.ireturn, 1) := by decide +kernel
theorem dX10_angle_19 : decode cX10_angle 19 = .ok (.aload_n 0, 1) := by decide +kernel
theorem dX10_angle_20 : decode cX10_angle 20 = .ok (.lconst 0, 1) := by decide +kernel
theorem dX10_angle_21 : decode cX10_angle 21 = .ok (.putfield 271, 3) := by decide +kernel
theorem dX10_angle_24 : decode cX10_angle 24 = .ok (.iconst (-1), 1) := by decide +kernel
theorem dX10_angle_25 : decode cX10_angle 25 = .ok (.istore_n 2, 1) := by decide +kernel
theorem dX10_angle_26 : decode cX10_angle 26 = .ok (.iconst 0, 1) := by decide +kernel
theorem dX10_angle_27 : decode cX10_angle 27 = .ok (.istore_n 3, 1) := by decide +kernel
theorem dX10_angle_28 : decode cX10_angle 28 = .ok (.iconst 0, 1) := by decide +kernel
theorem dX10_angle_29 : decode cX10_angle 29 = .ok (.istore 4, 2) := by decide +kernel
theorem dX10_angle_31 : decode cX10_angle 31 = .ok (.iload 4, 2) := by decide +kernel
theorem dX10_angle_33 : decode cX10_angle 33 = .ok (.aload_n 0, 1) := by decide +kernel
theorem dX10_angle_34 : decode cX10_angle 34 = .ok (.invokevirtual 156, 3) := by decide +kernel
theorem dX10_angle_37 : decode cX10_angle 37 = .ok (.if_icmp .ge 102, 3) := by decide +kernel
theorem dX10_angle_40 : decode cX10_angle 40 = .ok (.aload_n 0, 1) := by decide +kernel
theorem dX10_angle_41 : decode cX10_angle 41 = .ok (.invokevirtual 168, 3) := by decide +kernel
theorem dX10_angle_44 : decode cX10_angle 44 = .ok (.i2l, 1) := by decide +kernel
theorem dX10_angle_45 : decode cX10_angle 45 = .ok (.aload_n 0, 1) := by decide +kernel
theorem dX10_angle_46 : decode cX10_angle 46 = .ok (.iload 4, 2) := by decide +kernel
theorem dX10_angle_48 : decode cX10_angle 48 = .ok (.invokevirtual 159, 3) := by decide +kernel
theorem dX10_angle_51 : decode cX10_angle 51 = .ok (.i2l, 1) := by decide +kernel
theorem dX10_angle_52 : decode cX10_angle 52 = .ok (.lmul, 1) := by decide +kernel
theorem dX10_angle_53 : decode cX10_angle 53 = .ok (.lstore 5, 2) := by decide +kernel
theorem dX10_angle_55 : decode cX10_angle 55 = .ok (.iload_n 1, 1) := by decide +kernel
theorem dX10_angle_56 : decode cX10_angle 56 = .ok (.i2l, 1) := by decide +kernel
theorem dX10_angle_57 : decode cX10_angle 57 = .ok (.lload 5, 2) := by decide +kernel
theorem dX10_angle_59 : decode cX10_angle 59 = .ok (.lmul, 1) := by decide +kernel
theorem dX10_angle_60 : decode cX10_angle 60 = .ok (.ldc2_w 324, 3) := by decide +kernel
theorem dX10_angle_63 : decode cX10_angle 63 = .ok (.ldiv, 1) := by decide +kernel
theorem dX10_angle_64 : decode cX10_angle 64 = .ok (.lstore 7, 2) := by decide +kernel
theorem dX10_angle_66 : decode cX10_angle 66 = .ok (.lload 7, 2) := by decide +kernel
theorem dX10_angle_68 : decode cX10_angle 68 = .ok (.lstore 9, 2) := by decide +kernel
theorem dX10_angle_70 : decode cX10_angle 70 = .ok (.lload 9, 2) := by decide +kernel
theorem dX10_angle_72 : decode cX10_angle 72 = .ok (.lload 7, 2) := by decide +kernel
theorem dX10_angle_74 : decode cX10_angle 74 = .ok (.lconst 1, 1) := by decide +kernel
theorem dX10_angle_75 : decode cX10_angle 75 = .ok (.ladd, 1) := by decide +kernel
theorem dX10_angle_76 : decode cX10_angle 76 = .ok (.lcmp, 1) := by decide +kernel
theorem dX10_angle_77 : decode cX10_angle 77 = .ok (.ifCond .gt 56, 3) := by decide +kernel
theorem dX10_angle_80 : decode cX10_angle 80 = .ok (.lload 9, 2) := by decide +kernel
theorem dX10_angle_82 : decode cX10_angle 82 = .ok (.ldc2_w 324, 3) := by decide +kernel
theorem dX10_angle_85 : decode cX10_angle 85 = .ok (.lmul, 1) := by decide +kernel
theorem dX10_angle_86 : decode cX10_angle 86 = .ok (.lload 5, 2) := by decide +kernel
theorem dX10_angle_88 : decode cX10_angle 88 = .ok (.invokestatic 14, 3) := by decide +kernel
theorem dX10_angle_91 : decode cX10_angle 91 = .ok (.lstore 11, 2) := by decide +kernel
theorem dX10_angle_93 : decode cX10_angle 93 = .ok (.aload_n 0, 1) := by decide +kernel
theorem dX10_angle_94 : decode cX10_angle 94 = .ok (.lload 9, 2) := by decide +kernel
theorem dX10_angle_96 : decode cX10_angle 96 = .ok (.ldc2_w 324, 3) := by decide +kernel
theorem dX10_angle_99 : decode cX10_angle 99 = .ok (.lmul, 1) := by decide +kernel
theorem dX10_angle_100 : decode cX10_angle 100 = .ok (.lload 11, 2) := by decide +kernel
theorem dX10_angle_102 : decode cX10_angle 102 = .ok (.ldiv, 1) := by decide +kernel
theorem dX10_angle_103 : decode cX10_angle 103 = .ok (.lload 5, 2) := by decide +kernel
theorem dX10_angle_105 : decode cX10_angle 105 = .ok (.lload 11, 2) := by decide +kernel
theorem dX10_angle_107 : decode cX10_angle 107 = .ok (.ldiv, 1) := by decide +kernel
theorem dX10_angle_108 : decode cX10_angle 108 = .ok (.iload_n 1, 1) := by decide +kernel
theorem dX10_angle_109 : decode cX10_angle 109 = .ok (.i2l, 1) := by decide +kernel
theorem dX10_angle_110 : decode cX10_angle 110 = .ok (.lconst 1, 1) := by decide +kernel
theorem dX10_angle_111 : decode cX10_angle 111 = .ok (.invokevirtual 288, 3) := by decide +kernel
theorem dX10_angle_114 : decode cX10_angle 114 = .ok (.ifCond .eq 10, 3) := by decide +kernel
theorem dX10_angle_117 : decode cX10_angle 117 = .ok (.iload 4, 2) := by decide +kernel
theorem dX10_angle_119 : decode cX10_angle 119 = .ok (.istore_n 2, 1) := by decide +kernel
theorem dX10_angle_120 : decode cX10_angle 120 = .ok (.lload 9, 2) := by decide +kernel
theorem dX10_angle_122 : decode cX10_angle 122 = .ok (.l2i, 1) := by decide +kernel
theorem dX10_angle_123 : decode cX10_angle 123 = .ok (.istore_n 3, 1) := by decide +kernel
theorem dX10_angle_124 : decode cX10_angle 124 = .ok (.lload 9, 2) := by decide +kernel
theorem dX10_angle_126 : decode cX10_angle 126 = .ok (.lconst 1, 1) := by decide +kernel
theorem dX10_angle_127 : decode cX10_angle 127 = .ok (.ladd, 1) := by decide +kernel
theorem dX10_angle_128 : decode cX10_angle 128 = .ok (.lstore 9, 2) := by decide +kernel
theorem dX10_angle_130 : decode cX10_angle 130 = .ok (.goto (-60), 3) := by decide +kernel
theorem dX10_angle_133 : decode cX10_angle 133 = .ok (.iinc 4 1, 3) := by decide +kernel
theorem dX10_angle_136 : decode cX10_angle 136 = .ok (.goto (-105), 3) := by decide +kernel
theorem dX10_angle_139 : decode cX10_angle 139 = .ok (.aload_n 0, 1) := by decide +kernel
theorem dX10_angle_140 : decode cX10_angle 140 = .ok (.iconst 0, 1) := by decide +kernel
theorem dX10_angle_141 : decode cX10_angle 141 = .ok (.putfield 11, 3) := by decide +kernel
theorem dX10_angle_144 : decode cX10_angle 144 = .ok (.aload_n 0, 1) := by decide +kernel
theorem dX10_angle_145 : decode cX10_angle 145 = .ok (.iload_n 2, 1) := by decide +kernel
theorem dX10_angle_146 : decode cX10_angle 146 = .ok (.i2l, 1) := by decide +kernel
theorem dX10_angle_147 : decode cX10_angle 147 = .ok (.invokevirtual 18, 3) := by decide +kernel
theorem dX10_angle_150 : decode cX10_angle 150 = .ok (.aload_n 0, 1) := by decide +kernel
theorem dX10_angle_151 : decode cX10_angle 151 = .ok (.iload_n 3, 1) := by decide +kernel
theorem dX10_angle_152 : decode cX10_angle 152 = .ok (.aload_n 0, 1) := by decide +kernel
theorem dX10_angle_153 : decode cX10_angle 153 = .ok (.iload_n 2, 1) := by decide +kernel
theorem dX10_angle_154 : decode cX10_angle 154 = .ok (.invokevirtual 159, 3) := by decide +kernel
theorem dX10_angle_157 : decode cX10_angle 157 = .ok (.idiv, 1) := by decide +kernel
theorem dX10_angle_158 : decode cX10_angle 158 = .ok (.i2l, 1) := by decide +kernel
theorem dX10_angle_159 : decode cX10_angle 159 = .ok (.invokevirtual 18, 3) := by decide +kernel
theorem dX10_angle_162 : decode cX10_angle 162 = .ok (.aload_n 0, 1) := by decide +kernel
theorem dX10_angle_163 : decode cX10_angle 163 = .ok (.iload_n 3, 1) := by decide +kernel
theorem dX10_angle_164 : decode cX10_angle 164 = .ok (.aload_n 0, 1) := by decide +kernel
theorem dX10_angle_165 : decode cX10_angle 165 = .ok (.iload_n 2, 1) := by decide +kernel
theorem dX10_angle_166 : decode cX10_angle 166 = .ok (.invokevirtual 159, 3) := by decide +kernel
theorem dX10_angle_169 : decode cX10_angle 169 = .ok (.irem, 1) := by decide +kernel
theorem dX10_angle_170 : decode cX10_angle 170 = .ok (.i2l, 1) := by decide +kernel
theorem dX10_angle_171 : decode cX10_angle 171 = .ok (.invokevirtual 18, 3) := by decide +kernel
theorem dX10_angle_174 : decode cX10_angle 174 = .ok (.aload_n 0, 1) := by decide +kernel
theorem dX10_angle_175 : decode cX10_angle 175 = .ok (.aload_n 0, 1) := by decide +kernel
theorem dX10_angle_176 : decode cX10_angle 176 = .ok (.getfield 278, 3) := by decide +kernel
theorem dX10_angle_179 : decode cX10_angle 179 = .ok (.aload_n 0, 1) := by decide +kernel
theorem dX10_angle_180 : decode cX10_angle 180 = .ok (.getfield 275, 3) := by decide +kernel
theorem dX10_angle_183 : decode cX10_angle 183 = .ok (.invokevirtual 284, 3) := by decide +kernel
theorem dX10_angle_186 : decode cX10_angle 186 = .ok (.aload_n 0, 1) := by decide +kernel
theorem dX10_angle_187 : decode cX10_angle 187 = .ok (.getfield 278, 3) := by decide +kernel
theorem dX10_angle_190 : decode cX10_angle 190 = .ok (.lconst 0, 1) := by decide +kernel
theorem dX10_angle_191 : decode cX10_angle 191 = .ok (.lcmp, 1) := by decide +kernel
theorem dX10_angle_192 : decode cX10_angle 192 = .ok (.ifCond .ne 7, 3) := by decide +kernel
theorem dX10_angle_195 : decode cX10_angle 195 = .ok (.iconst 1, 1) := by decide +kernel
theorem dX10_angle_196 : decode cX10_angle 196 = .ok (.goto 4, 3) := by decide +kernel
theorem dX10_angle_199 : decode cX10_angle 199 = .ok (.iconst 0, 1) := by decide +kernel
theorem dX10_angle_200 : decode cX10_angle 200 = .ok (.invokestatic 39, 3) := by decide +kernel
theorem dX10_angle_203 : decode cX10_angle 203 = .ok (.ireturn, 1) := by decide +kernel
set_option maxRecDepth 20000 in
set_option maxHeartbeats 2000000 in
theorem V_X10_angle_0 {X : Ctx} (C : C_X10_angle X) {k n : Nat} {Q : Pq} {h : Hp} {v0 : Nat} {v1 : Int32}
    (hv : St10 h v0 ∧ ((¬ (btL (Int32.toInt64 v1) 1 1295999) = 0 → Wj X k n Q 31 [(0, .ref v0), (1, .int v1), (2, .int (-1)), (3, .int 0), (4, .int 0)] [] (sl (si h v0 0 0) v0 24 0)) ∧
    ((btL (Int32.toInt64 v1) 1 1295999) = 0 → Q (some (.int (-1))) (si h v0 0 0)))) :
    Wj X k n Q 0 [(0, .ref v0), (1, .int v1)] [] h := by
  refine w_aload_n (pc := 0) C dX10_angle_0 rfl ?_
  refine w_iconst (pc := 1) C (v := 0) dX10_angle_1 (by decide) ?_
  obtain ⟨f1, hv⟩ := hv
  refine w_putI (pc := 2) C fl_X10_1 rfl rfl dX10_angle_2 (St10_k f1) ?_
  refine w_iload_n (pc := 5) C dX10_angle_5 rfl ?_
  refine w_i2l (pc := 6) C dX10_angle_6 ?_
  refine w_lconst (pc := 7) C (v := 1) dX10_angle_7 (by decide) ?_
  refine w_ldc2 (pc := 8) C ctl_X10_322 dX10_angle_8 ?_
  refine w_cS0_3 (pc := 11) C cl_X10_29 ls_X10_in (by decide) dX10_angle_11 (Nat.le_of_ble_eq_true rfl) ((sf_X10_in (h := (si h v0 0 0)) ).mono (fun v h9 hp => ?_))
  obtain ⟨e1, e2⟩ := hp
  rw [e1, e2]
  refine w_if_ne (pc := 14) C (tgt := 19) dX10_angle_14 (by decide) ?_
  obtain ⟨hv1, hv2⟩ := hv
  refine ⟨fun c2 => ?_, fun c2 => ?_⟩
  · have hv := hv1 c2
    refine w_aload_n (pc := 19) C dX10_angle_19 rfl ?_
    refine w_lconst (pc := 20) C (v := 0) dX10_angle_20 (by decide) ?_
    refine w_putL (pc := 21) C fl_X10_271 rfl rfl dX10_angle_21 (St10_k f1) ?_
    refine w_iconst (pc := 24) C (v := (-1)) dX10_angle_24 (by decide) ?_
    refine w_istore_n (pc := 25) C dX10_angle_25 (by decide) ?_
    refine w_iconst (pc := 26) C (v := 0) dX10_angle_26 (by decide) ?_
    refine w_istore_n (pc := 27) C dX10_angle_27 (by decide) ?_
    refine w_iconst (pc := 28) C (v := 0) dX10_angle_28 (by decide) ?_
    refine w_istore (pc := 29) C dX10_angle_29 (by decide) ?_
    refine w_sub ?_ hv
    exact ⟨rfl, rfl, rfl, rfl, rfl, trivial⟩
  · have hv := hv2 c2
    refine w_iconst (pc := 17) C (v := (-1)) dX10_angle_17 (by decide) ?_
    exact w_iret (pc := 18) C dX10_angle_18 hv
set_option maxRecDepth 20000 in
set_option maxHeartbeats 2000000 in
theorem V_X10_angle_31 {X : Ctx} (C : C_X10_angle X) {k n : Nat} {Q : Pq} {h : Hp} {v0 : Nat} {v1 v2 v3 v4 : Int32}
    (hv : St10 h v0 ∧ (((gi h (v0 + 3) (ix 3)) ≤ v4 → S_X10_enters (lX X) (dtX X) 0 0 [.ref v0, .long (Int32.toInt64 v2)] (si h v0 1 0) (QV fun h2 =>
    St10 h2 v0 ∧ inb (23 + v2) 732 ∧ ¬ (gi h2 (v0 + 3) (ix (23 + v2))) = 0 ∧ S_X10_enters (lX X) (dtX X) 0 0 [.ref v0, .long (Int32.toInt64 (v3 / (gi h2 (v0 + 3) (ix (23 + v2)))))] h2 (QV fun h6 =>
    St10 h6 v0 ∧ inb (23 + v2) 732 ∧ ¬ (gi h6 (v0 + 3) (ix (23 + v2))) = 0 ∧ S_X10_enters (lX X) (dtX X) 0 0 [.ref v0, .long (Int32.toInt64 (v3 % (gi h6 (v0 + 3) (ix (23 + v2)))))] h6 (QV fun h10 =>
    St10 h10 v0 ∧ S_X10_entersPart (lX X) (dtX X) 0 0 [.ref v0, .long (gl h10 v0 25), .long (gl h10 v0 26)] h10 (QV fun h12 =>
    St10 h12 v0 ∧ ((¬ (gl h12 v0 25) = 0 → Q (some (.int (flg 0))) h12) ∧
    ((gl h12 v0 25) = 0 → Q (some (.int (flg 1))) h12))))))) ∧
    (¬ (gi h (v0 + 3) (ix 3)) ≤ v4 → inb (23 + v4) 732 ∧ (∀ z16 : Int64, z16 = ((Int32.toInt64 (gi h (v0 + 3) (ix 0))) * (Int32.toInt64 (gi h (v0 + 3) (ix (23 + v4))))) →
    Wj X k n Q 70 [(0, .ref v0), (1, .int v1), (2, .int v2), (3, .int v3), (4, .int v4), (5, .long z16), (7, .long (((Int32.toInt64 v1) * z16) / 1296000)), (9, .long (((Int32.toInt64 v1) * z16) / 1296000))] [] h)))) :
    Wj X k n Q 31 [(0, .ref v0), (1, .int v1), (2, .int v2), (3, .int v3), (4, .int v4)] [] h := by
  refine w_iload (pc := 31) C dX10_angle_31 rfl ?_
  refine w_aload_n (pc := 33) C dX10_angle_33 rfl ?_
  obtain ⟨f1, hv⟩ := hv
  refine w_cV0_0 (pc := 34) C cl_X10_156 lv_X10_circles (by decide) dX10_angle_34 (Nat.le_of_ble_eq_true rfl) (c := 10) rfl (St10_k f1) ((sf_X10_circles (h := h) f1).mono (fun v h9 hp => ?_))
  obtain ⟨e1, e2⟩ := hp
  rw [e1, e2]
  refine w_icmp_ge (pc := 37) C (tgt := 139) dX10_angle_37 (by decide) ?_
  obtain ⟨hv1, hv2⟩ := hv
  refine ⟨fun c17 => ?_, fun c17 => ?_⟩
  · have hv := hv1 c17
    refine w_aload_n (pc := 139) C dX10_angle_139 rfl ?_
    refine w_iconst (pc := 140) C (v := 0) dX10_angle_140 (by decide) ?_
    refine w_putI (pc := 141) C fl_X10_11 rfl rfl dX10_angle_141 (St10_k f1) ?_
    refine w_aload_n (pc := 144) C dX10_angle_144 rfl ?_
    refine w_iload_n (pc := 145) C dX10_angle_145 rfl ?_
    refine w_i2l (pc := 146) C dX10_angle_146 ?_
    refine w_cV0_1 (pc := 147) C cl_X10_18 lv_X10_enters (by decide) dX10_angle_147 (Nat.le_of_ble_eq_true rfl) (c := 10) rfl (St10_k f1) (hv.mono (fun v h2 hp => ?_))
    obtain ⟨rfl, hv⟩ := hp
    refine w_aload_n (pc := 150) C dX10_angle_150 rfl ?_
    refine w_iload_n (pc := 151) C dX10_angle_151 rfl ?_
    refine w_aload_n (pc := 152) C dX10_angle_152 rfl ?_
    refine w_iload_n (pc := 153) C dX10_angle_153 rfl ?_
    obtain ⟨f3, hv⟩ := hv
    obtain ⟨f4, hv⟩ := hv
    refine w_cV0_1 (pc := 154) C cl_X10_159 lv_X10_holes (by decide) dX10_angle_154 (Nat.le_of_ble_eq_true rfl) (c := 10) rfl (St10_k f3) ((sf_X10_holes (h := h2) f3 f4).mono (fun v h9 hp => ?_))
    obtain ⟨e1, e2⟩ := hp
    rw [e1, e2]
    obtain ⟨f5, hv⟩ := hv
    refine w_idiv (pc := 157) C dX10_angle_157 f5 ?_
    refine w_i2l (pc := 158) C dX10_angle_158 ?_
    refine w_cV0_1 (pc := 159) C cl_X10_18 lv_X10_enters (by decide) dX10_angle_159 (Nat.le_of_ble_eq_true rfl) (c := 10) rfl (St10_k f3) (hv.mono (fun v h6 hp => ?_))
    obtain ⟨rfl, hv⟩ := hp
    refine w_aload_n (pc := 162) C dX10_angle_162 rfl ?_
    refine w_iload_n (pc := 163) C dX10_angle_163 rfl ?_
    refine w_aload_n (pc := 164) C dX10_angle_164 rfl ?_
    refine w_iload_n (pc := 165) C dX10_angle_165 rfl ?_
    obtain ⟨f7, hv⟩ := hv
    obtain ⟨f8, hv⟩ := hv
    refine w_cV0_1 (pc := 166) C cl_X10_159 lv_X10_holes (by decide) dX10_angle_166 (Nat.le_of_ble_eq_true rfl) (c := 10) rfl (St10_k f7) ((sf_X10_holes (h := h6) f7 f8).mono (fun v h9 hp => ?_))
    obtain ⟨e1, e2⟩ := hp
    rw [e1, e2]
    obtain ⟨f9, hv⟩ := hv
    refine w_irem (pc := 169) C dX10_angle_169 f9 ?_
    refine w_i2l (pc := 170) C dX10_angle_170 ?_
    refine w_cV0_1 (pc := 171) C cl_X10_18 lv_X10_enters (by decide) dX10_angle_171 (Nat.le_of_ble_eq_true rfl) (c := 10) rfl (St10_k f7) (hv.mono (fun v h10 hp => ?_))
    obtain ⟨rfl, hv⟩ := hp
    refine w_aload_n (pc := 174) C dX10_angle_174 rfl ?_
    refine w_aload_n (pc := 175) C dX10_angle_175 rfl ?_
    obtain ⟨f11, hv⟩ := hv
    refine w_getL (pc := 176) C fl_X10_278 rfl dX10_angle_176 (St10_k f11) ?_
    refine w_aload_n (pc := 179) C dX10_angle_179 rfl ?_
    refine w_getL (pc := 180) C fl_X10_275 rfl dX10_angle_180 (St10_k f11) ?_
    refine w_cV0_2 (pc := 183) C cl_X10_284 lv_X10_entersPart (by decide) dX10_angle_183 (Nat.le_of_ble_eq_true rfl) (c := 10) rfl (St10_k f11) (hv.mono (fun v h12 hp => ?_))
    obtain ⟨rfl, hv⟩ := hp
    refine w_aload_n (pc := 186) C dX10_angle_186 rfl ?_
    obtain ⟨f13, hv⟩ := hv
    refine w_getL (pc := 187) C fl_X10_278 rfl dX10_angle_187 (St10_k f13) ?_
    refine w_lconst (pc := 190) C (v := 0) dX10_angle_190 (by decide) ?_
    refine w_lcmp_ne (pc := 191) C (tgt := 199) dX10_angle_191 dX10_angle_192 (by decide) ?_
    obtain ⟨hv1, hv2⟩ := hv
    refine ⟨fun c14 => ?_, fun c14 => ?_⟩
    · have hv := hv1 c14
      refine w_iconst (pc := 199) C (v := 0) dX10_angle_199 (by decide) ?_
      refine w_cS0_1 (pc := 200) C cl_X10_39 ls_X10_flag (by decide) dX10_angle_200 (Nat.le_of_ble_eq_true rfl) ((sf_X10_flag (h := h12) ).mono (fun v h9 hp => ?_))
      obtain ⟨e1, e2⟩ := hp
      rw [e1, e2]
      exact w_iret (pc := 203) C dX10_angle_203 hv
    · have hv := hv2 c14
      refine w_iconst (pc := 195) C (v := 1) dX10_angle_195 (by decide) ?_
      refine w_goto (pc := 196) C (tgt := 200) dX10_angle_196 (by decide) ?_
      refine w_cS0_1 (pc := 200) C cl_X10_39 ls_X10_flag (by decide) dX10_angle_200 (Nat.le_of_ble_eq_true rfl) ((sf_X10_flag (h := h12) ).mono (fun v h9 hp => ?_))
      obtain ⟨e1, e2⟩ := hp
      rw [e1, e2]
      exact w_iret (pc := 203) C dX10_angle_203 hv
  · have hv := hv2 c17
    refine w_aload_n (pc := 40) C dX10_angle_40 rfl ?_
    refine w_cV0_0 (pc := 41) C cl_X10_168 lv_X10_worm (by decide) dX10_angle_41 (Nat.le_of_ble_eq_true rfl) (c := 10) rfl (St10_k f1) ((sf_X10_worm (h := h) f1).mono (fun v h9 hp => ?_))
    obtain ⟨e1, e2⟩ := hp
    rw [e1, e2]
    refine w_i2l (pc := 44) C dX10_angle_44 ?_
    refine w_aload_n (pc := 45) C dX10_angle_45 rfl ?_
    refine w_iload (pc := 46) C dX10_angle_46 rfl ?_
    obtain ⟨f15, hv⟩ := hv
    refine w_cV0_1 (pc := 48) C cl_X10_159 lv_X10_holes (by decide) dX10_angle_48 (Nat.le_of_ble_eq_true rfl) (c := 10) rfl (St10_k f1) ((sf_X10_holes (h := h) f1 f15).mono (fun v h9 hp => ?_))
    obtain ⟨e1, e2⟩ := hp
    rw [e1, e2]
    refine w_i2l (pc := 51) C dX10_angle_51 ?_
    refine w_lmul (pc := 52) C dX10_angle_52 ?_
    obtain ⟨z16, ez16⟩ : ∃ z : Int64, z = ((Int32.toInt64 (gi h (v0 + 3) (ix 0))) * (Int32.toInt64 (gi h (v0 + 3) (ix (23 + v4))))) := ⟨_, rfl⟩
    have hv := hv z16 ez16
    rw [← ez16]
    refine w_lstore (pc := 53) C dX10_angle_53 (by decide) ?_
    refine w_iload_n (pc := 55) C dX10_angle_55 rfl ?_
    refine w_i2l (pc := 56) C dX10_angle_56 ?_
    refine w_lload (pc := 57) C dX10_angle_57 rfl ?_
    refine w_lmul (pc := 59) C dX10_angle_59 ?_
    refine w_ldc2 (pc := 60) C ctl_X10_324 dX10_angle_60 ?_
    refine w_ldiv (pc := 63) C dX10_angle_63 (by decide) ?_
    refine w_lstore (pc := 64) C dX10_angle_64 (by decide) ?_
    refine w_lload (pc := 66) C dX10_angle_66 rfl ?_
    refine w_lstore (pc := 68) C dX10_angle_68 (by decide) ?_
    refine w_sub ?_ hv
    exact ⟨rfl, rfl, rfl, rfl, rfl, rfl, rfl, rfl, trivial⟩
set_option maxRecDepth 20000 in
set_option maxHeartbeats 2000000 in
theorem V_X10_angle_70 {X : Ctx} (C : C_X10_angle X) {k n : Nat} {Q : Pq} {h : Hp} {v0 : Nat} {v1 v2 v3 v4 : Int32} {v5 v7 v9 : Int64}
    (hv : (((v7 + 1) < v9 → Wj X k n Q 31 [(0, .ref v0), (1, .int v1), (2, .int v2), (3, .int v3), (4, .int (v4 + Int32.ofInt 1))] [] h) ∧
    (¬ (v7 + 1) < v9 → -9223372036854775807 ≤ (Int64.toInt (v9 * 1296000)) ∧ 0 < (Int64.toInt v5) ∧ ¬ (cm (v9 * 1296000) v5) = 0 ∧ St10 h v0 ∧ S_X10_isNearer (lX X) (dtX X) 0 0 [.ref v0, .long ((v9 * 1296000) / (cm (v9 * 1296000) v5)), .long (v5 / (cm (v9 * 1296000) v5)), .long (Int32.toInt64 v1), .long 1] h (QI fun x6 h5 =>
    ((x6 = 0 → Wj X k n Q 70 [(0, .ref v0), (1, .int v1), (2, .int v2), (3, .int v3), (4, .int v4), (5, .long v5), (7, .long v7), (9, .long (v9 + 1))] [] h5) ∧
    (¬ x6 = 0 → Wj X k n Q 70 [(0, .ref v0), (1, .int v1), (2, .int v4), (3, .int (Int64.toInt32 v9)), (4, .int v4), (5, .long v5), (7, .long v7), (9, .long (v9 + 1))] [] h5)))))) :
    Wj X k n Q 70 [(0, .ref v0), (1, .int v1), (2, .int v2), (3, .int v3), (4, .int v4), (5, .long v5), (7, .long v7), (9, .long v9)] [] h := by
  refine w_lload (pc := 70) C dX10_angle_70 rfl ?_
  refine w_lload (pc := 72) C dX10_angle_72 rfl ?_
  refine w_lconst (pc := 74) C (v := 1) dX10_angle_74 (by decide) ?_
  refine w_ladd (pc := 75) C dX10_angle_75 ?_
  refine w_lcmp_gt (pc := 76) C (tgt := 133) dX10_angle_76 dX10_angle_77 (by decide) ?_
  obtain ⟨hv1, hv2⟩ := hv
  refine ⟨fun c8 => ?_, fun c8 => ?_⟩
  · have hv := hv1 c8
    refine w_iinc (pc := 133) C dX10_angle_133 rfl (by decide) ?_
    refine w_goto (pc := 136) C (tgt := 31) dX10_angle_136 (by decide) ?_
    refine w_sub ?_ hv
    exact ⟨rfl, rfl, rfl, rfl, rfl, trivial⟩
  · have hv := hv2 c8
    refine w_lload (pc := 80) C dX10_angle_80 rfl ?_
    refine w_ldc2 (pc := 82) C ctl_X10_324 dX10_angle_82 ?_
    refine w_lmul (pc := 85) C dX10_angle_85 ?_
    refine w_lload (pc := 86) C dX10_angle_86 rfl ?_
    obtain ⟨f1, hv⟩ := hv
    obtain ⟨f2, hv⟩ := hv
    refine w_cS0_2 (pc := 88) C cl_X10_14 ls_X10_common (by decide) dX10_angle_88 (Nat.le_of_ble_eq_true rfl) ((sf_X10_common (h := h) f1 f2).mono (fun v h9 hp => ?_))
    obtain ⟨e1, e2⟩ := hp
    rw [e1, e2]
    refine w_lstore (pc := 91) C dX10_angle_91 (by decide) ?_
    refine w_aload_n (pc := 93) C dX10_angle_93 rfl ?_
    refine w_lload (pc := 94) C dX10_angle_94 rfl ?_
    refine w_ldc2 (pc := 96) C ctl_X10_324 dX10_angle_96 ?_
    refine w_lmul (pc := 99) C dX10_angle_99 ?_
    refine w_lload (pc := 100) C dX10_angle_100 rfl ?_
    obtain ⟨f3, hv⟩ := hv
    refine w_ldiv (pc := 102) C dX10_angle_102 f3 ?_
    refine w_lload (pc := 103) C dX10_angle_103 rfl ?_
    refine w_lload (pc := 105) C dX10_angle_105 rfl ?_
    refine w_ldiv (pc := 107) C dX10_angle_107 f3 ?_
    refine w_iload_n (pc := 108) C dX10_angle_108 rfl ?_
    refine w_i2l (pc := 109) C dX10_angle_109 ?_
    refine w_lconst (pc := 110) C (v := 1) dX10_angle_110 (by decide) ?_
    obtain ⟨f4, hv⟩ := hv
    refine w_cV0_4 (pc := 111) C cl_X10_288 lv_X10_isNearer (by decide) dX10_angle_111 (Nat.le_of_ble_eq_true rfl) (c := 10) rfl (St10_k f4) (hv.mono (fun v h5 hp => ?_))
    obtain ⟨x6, rfl, hv⟩ := hp
    refine w_if_eq (pc := 114) C (tgt := 124) dX10_angle_114 (by decide) ?_
    obtain ⟨hv1, hv2⟩ := hv
    refine ⟨fun c7 => ?_, fun c7 => ?_⟩
    · have hv := hv1 c7
      refine w_lload (pc := 124) C dX10_angle_124 rfl ?_
      refine w_lconst (pc := 126) C (v := 1) dX10_angle_126 (by decide) ?_
      refine w_ladd (pc := 127) C dX10_angle_127 ?_
      refine w_lstore (pc := 128) C dX10_angle_128 (by decide) ?_
      refine w_goto (pc := 130) C (tgt := 70) dX10_angle_130 (by decide) ?_
      refine w_sub ?_ hv
      exact ⟨rfl, rfl, rfl, rfl, rfl, rfl, rfl, rfl, trivial⟩
    · have hv := hv2 c7
      refine w_iload (pc := 117) C dX10_angle_117 rfl ?_
      refine w_istore_n (pc := 119) C dX10_angle_119 (by decide) ?_
      refine w_lload (pc := 120) C dX10_angle_120 rfl ?_
      refine w_l2i (pc := 122) C dX10_angle_122 ?_
      refine w_istore_n (pc := 123) C dX10_angle_123 (by decide) ?_
      refine w_lload (pc := 124) C dX10_angle_124 rfl ?_
      refine w_lconst (pc := 126) C (v := 1) dX10_angle_126 (by decide) ?_
      refine w_ladd (pc := 127) C dX10_angle_127 ?_
      refine w_lstore (pc := 128) C dX10_angle_128 (by decide) ?_
      refine w_goto (pc := 130) C (tgt := 70) dX10_angle_130 (by decide) ?_
      refine w_sub ?_ hv
      exact ⟨rfl, rfl, rfl, rfl, rfl, rfl, rfl, rfl, trivial⟩
theorem dX9_draw_0 : decode cX9_draw 0 = .ok (.aload_n 0, 1) := by decide +kernel
theorem dX9_draw_1 : decode cX9_draw 1 = .ok (.aload_n 0, 1) := by decide +kernel
theorem dX9_draw_2 : decode cX9_draw 2 = .ok (.getfield 74, 3) := by decide +kernel
theorem dX9_draw_5 : decode cX9_draw 5 = .ok (.ldc_w 413, 3) := by decide +kernel
theorem dX9_draw_8 : decode cX9_draw 8 = .ok (.imul, 1) := by decide +kernel
theorem dX9_draw_9 : decode cX9_draw 9 = .ok (.sipush 12345, 3) := by decide +kernel
theorem dX9_draw_12 : decode cX9_draw 12 = .ok (.iadd, 1) := by decide +kernel
theorem dX9_draw_13 : decode cX9_draw 13 = .ok (.putfield 74, 3) := by decide +kernel
theorem dX9_draw_16 : decode cX9_draw 16 = .ok (.iload_n 1, 1) := by decide +kernel
theorem dX9_draw_17 : decode cX9_draw 17 = .ok (.ifCond .gt 7, 3) := by decide +kernel
theorem dX9_draw_20 : decode cX9_draw 20 = .ok (.iconst 0, 1) := by decide +kernel
theorem dX9_draw_21 : decode cX9_draw 21 = .ok (.goto 12, 3) := by decide +kernel
theorem dX9_draw_24 : decode cX9_draw 24 = .ok (.aload_n 0, 1) := by decide +kernel
theorem dX9_draw_25 : decode cX9_draw 25 = .ok (.getfield 74, 3) := by decide +kernel
theorem dX9_draw_28 : decode cX9_draw 28 = .ok (.bipush 16, 2) := by decide +kernel
theorem dX9_draw_30 : decode cX9_draw 30 = .ok (.iushr, 1) := by decide +kernel
theorem dX9_draw_31 : decode cX9_draw 31 = .ok (.iload_n 1, 1) := by decide +kernel
theorem dX9_draw_32 : decode cX9_draw 32 = .ok (.irem, 1) := by decide +kernel
theorem dX9_draw_33 : decode cX9_draw 33 = .ok (.ireturn, 1) := by decide +kernel
set_option maxRecDepth 20000 in
set_option maxHeartbeats 2000000 in
theorem V_X9_draw_0 {X : Ctx} (C : C_X9_draw X) {k n : Nat} {Q : Pq} {h : Hp} {v0 : Nat} {v1 : Int32}
    (hv : St9 h v0 ∧ ((0 < v1 → ¬ v1 = 0 ∧ Q (some (.int ((iushr (gi (si h v0 11 (((gi h v0 11) * 1103515245) + 12345)) v0 11) 16) % v1))) (si h v0 11 (((gi h v0 11) * 1103515245) + 12345))) ∧
    (¬ 0 < v1 → Q (some (.int 0)) (si h v0 11 (((gi h v0 11) * 1103515245) + 12345))))) :
    Wj X k n Q 0 [(0, .ref v0), (1, .int v1)] [] h := by
  refine w_aload_n (pc := 0) C dX9_draw_0 rfl ?_
  refine w_aload_n (pc := 1) C dX9_draw_1 rfl ?_
  obtain ⟨f1, hv⟩ := hv
  refine w_getI (pc := 2) C fl_X9_74 rfl dX9_draw_2 (St9_k f1) ?_
  refine w_ldcw (pc := 5) C ct_X9_413 dX9_draw_5 ?_
  refine w_imul (pc := 8) C dX9_draw_8 ?_
  refine w_sipush (pc := 9) C (v := 12345) dX9_draw_9 (by decide) ?_
  refine w_iadd (pc := 12) C dX9_draw_12 ?_
  refine w_putI (pc := 13) C fl_X9_74 rfl rfl dX9_draw_13 (St9_k f1) ?_
  refine w_iload_n (pc := 16) C dX9_draw_16 rfl ?_
  refine w_if_gt (pc := 17) C (tgt := 24) dX9_draw_17 (by decide) ?_
  obtain ⟨hv1, hv2⟩ := hv
  refine ⟨fun c3 => ?_, fun c3 => ?_⟩
  · have hv := hv1 c3
    refine w_aload_n (pc := 24) C dX9_draw_24 rfl ?_
    refine w_getI (pc := 25) C fl_X9_74 rfl dX9_draw_25 (St9_k f1) ?_
    refine w_bipush (pc := 28) C (v := 16) dX9_draw_28 (by decide) ?_
    refine w_iushr (pc := 30) C dX9_draw_30 ?_
    refine w_iload_n (pc := 31) C dX9_draw_31 rfl ?_
    obtain ⟨f2, hv⟩ := hv
    refine w_irem (pc := 32) C dX9_draw_32 f2 ?_
    exact w_iret (pc := 33) C dX9_draw_33 hv
  · have hv := hv2 c3
    refine w_iconst (pc := 20) C (v := 0) dX9_draw_20 (by decide) ?_
    refine w_goto (pc := 21) C (tgt := 33) dX9_draw_21 (by decide) ?_
    exact w_iret (pc := 33) C dX9_draw_33 hv
theorem dX9_years_0 : decode cX9_years 0 = .ok (.iload_n 2, 1) := by decide +kernel
theorem dX9_years_1 : decode cX9_years 1 = .ok (.iconst 1, 1) := by decide +kernel
theorem dX9_years_2 : decode cX9_years 2 = .ok (.bipush 30, 2) := by decide +kernel
theorem dX9_years_4 : decode cX9_years 4 = .ok (.invokestatic 247, 3) := by decide +kernel
theorem dX9_years_7 : decode cX9_years 7 = .ok (.ifCond .ne 5, 3) := by decide +kernel
theorem dX9_years_10 : decode cX9_years 10 = .ok (.iconst (-1), 1) := by decide +kernel
theorem dX9_years_11 : decode cX9_years 11 = .ok (.ireturn, 1) := by decide +kernel
theorem dX9_years_12 : decode cX9_years 12 = .ok (.aload_n 0, 1) := by decide +kernel
theorem dX9_years_13 : decode cX9_years 13 = .ok (.getfield 82, 3) := by decide +kernel
theorem dX9_years_16 : decode cX9_years 16 = .ok (.aload_n 0, 1) := by decide +kernel
theorem dX9_years_17 : decode cX9_years 17 = .ok (.getfield 78, 3) := by decide +kernel
theorem dX9_years_20 : decode cX9_years 20 = .ok (.invokevirtual 99, 3) := by decide +kernel
theorem dX9_years_23 : decode cX9_years 23 = .ok (.aload_n 0, 1) := by decide +kernel
theorem dX9_years_24 : decode cX9_years 24 = .ok (.iload_n 1, 1) := by decide +kernel
theorem dX9_years_25 : decode cX9_years 25 = .ok (.putfield 74, 3) := by decide +kernel
theorem dX9_years_28 : decode cX9_years 28 = .ok (.iconst 0, 1) := by decide +kernel
theorem dX9_years_29 : decode cX9_years 29 = .ok (.istore_n 3, 1) := by decide +kernel
theorem dX9_years_30 : decode cX9_years 30 = .ok (.iload_n 3, 1) := by decide +kernel
theorem dX9_years_31 : decode cX9_years 31 = .ok (.iload_n 2, 1) := by decide +kernel
theorem dX9_years_32 : decode cX9_years 32 = .ok (.if_icmp .ge 96, 3) := by decide +kernel
theorem dX9_years_35 : decode cX9_years 35 = .ok (.aload_n 0, 1) := by decide +kernel
theorem dX9_years_36 : decode cX9_years 36 = .ok (.iconst 4, 1) := by decide +kernel
theorem dX9_years_37 : decode cX9_years 37 = .ok (.invokevirtual 407, 3) := by decide +kernel
theorem dX9_years_40 : decode cX9_years 40 = .ok (.istore 4, 2) := by decide +kernel
theorem dX9_years_42 : decode cX9_years 42 = .ok (.iload 4, 2) := by decide +kernel
theorem dX9_years_44 : decode cX9_years 44 = .ok (.ifCond .ne 25, 3) := by decide +kernel
theorem dX9_years_47 : decode cX9_years 47 = .ok (.aload_n 0, 1) := by decide +kernel
theorem dX9_years_48 : decode cX9_years 48 = .ok (.getfield 82, 3) := by decide +kernel
theorem dX9_years_51 : decode cX9_years 51 = .ok (.aload_n 0, 1) := by decide +kernel
theorem dX9_years_52 : decode cX9_years 52 = .ok (.aload_n 0, 1) := by decide +kernel
theorem dX9_years_53 : decode cX9_years 53 = .ok (.getfield 82, 3) := by decide +kernel
theorem dX9_years_56 : decode cX9_years 56 = .ok (.getfield 131, 3) := by decide +kernel
theorem dX9_years_59 : decode cX9_years 59 = .ok (.invokevirtual 407, 3) := by decide +kernel
theorem dX9_years_62 : decode cX9_years 62 = .ok (.invokevirtual 326, 3) := by decide +kernel
theorem dX9_years_65 : decode cX9_years 65 = .ok (.pop, 1) := by decide +kernel
theorem dX9_years_66 : decode cX9_years 66 = .ok (.goto 56, 3) := by decide +kernel
theorem dX9_years_69 : decode cX9_years 69 = .ok (.iload 4, 2) := by decide +kernel
theorem dX9_years_71 : decode cX9_years 71 = .ok (.iconst 3, 1) := by decide +kernel
theorem dX9_years_72 : decode cX9_years 72 = .ok (.if_icmp .ne 14, 3) := by decide +kernel
theorem dX9_years_75 : decode cX9_years 75 = .ok (.aload_n 0, 1) := by decide +kernel
theorem dX9_years_76 : decode cX9_years 76 = .ok (.getfield 82, 3) := by decide +kernel
theorem dX9_years_79 : decode cX9_years 79 = .ok (.invokevirtual 346, 3) := by decide +kernel
theorem dX9_years_82 : decode cX9_years 82 = .ok (.pop, 1) := by decide +kernel
theorem dX9_years_83 : decode cX9_years 83 = .ok (.goto 39, 3) := by decide +kernel
theorem dX9_years_86 : decode cX9_years 86 = .ok (.aload_n 0, 1) := by decide +kernel
theorem dX9_years_87 : decode cX9_years 87 = .ok (.iconst 5, 1) := by decide +kernel
theorem dX9_years_88 : decode cX9_years 88 = .ok (.invokevirtual 407, 3) := by decide +kernel
theorem dX9_years_91 : decode cX9_years 91 = .ok (.istore 5, 2) := by decide +kernel
theorem dX9_years_93 : decode cX9_years 93 = .ok (.aload_n 0, 1) := by decide +kernel
theorem dX9_years_94 : decode cX9_years 94 = .ok (.getfield 82, 3) := by decide +kernel
theorem dX9_years_97 : decode cX9_years 97 = .ok (.iload 5, 2) := by decide +kernel
theorem dX9_years_99 : decode cX9_years 99 = .ok (.aload_n 0, 1) := by decide +kernel
theorem dX9_years_100 : decode cX9_years 100 = .ok (.aload_n 0, 1) := by decide +kernel
theorem dX9_years_101 : decode cX9_years 101 = .ok (.getfield 82, 3) := by decide +kernel
theorem dX9_years_104 : decode cX9_years 104 = .ok (.aload_n 0, 1) := by decide +kernel
theorem dX9_years_105 : decode cX9_years 105 = .ok (.getfield 82, 3) := by decide +kernel
theorem dX9_years_108 : decode cX9_years 108 = .ok (.getfield 410, 3) := by decide +kernel
theorem dX9_years_111 : decode cX9_years 111 = .ok (.invokevirtual 168, 3) := by decide +kernel
theorem dX9_years_114 : decode cX9_years 114 = .ok (.invokevirtual 407, 3) := by decide +kernel
theorem dX9_years_117 : decode cX9_years 117 = .ok (.iconst 0, 1) := by decide +kernel
theorem dX9_years_118 : decode cX9_years 118 = .ok (.invokevirtual 339, 3) := by decide +kernel
theorem dX9_years_121 : decode cX9_years 121 = .ok (.pop, 1) := by decide +kernel
theorem dX9_years_122 : decode cX9_years 122 = .ok (.iinc 3 1, 3) := by decide +kernel
theorem dX9_years_125 : decode cX9_years 125 = .ok (.goto (-95), 3) := by decide +kernel
theorem dX9_years_128 : decode cX9_years 128 = .ok (.aload_n 0, 1) := by decide +kernel
theorem dX9_years_129 : decode cX9_years 129 = .ok (.getfield 19, 3) := by decide +kernel
theorem dX9_years_132 : decode cX9_years 132 = .ok (.invokevirtual 158, 3) := by decide +kernel
theorem dX9_years_135 : decode cX9_years 135 = .ok (.aload_n 0, 1) := by decide +kernel
theorem dX9_years_136 : decode cX9_years 136 = .ok (.getfield 19, 3) := by decide +kernel
theorem dX9_years_139 : decode cX9_years 139 = .ok (.aload_n 0, 1) := by decide +kernel
theorem dX9_years_140 : decode cX9_years 140 = .ok (.getfield 82, 3) := by decide +kernel
theorem dX9_years_143 : decode cX9_years 143 = .ok (.getfield 343, 3) := by decide +kernel
theorem dX9_years_146 : decode cX9_years 146 = .ok (.invokevirtual 293, 3) := by decide +kernel
theorem dX9_years_149 : decode cX9_years 149 = .ok (.aload_n 0, 1) := by decide +kernel
theorem dX9_years_150 : decode cX9_years 150 = .ok (.getfield 82, 3) := by decide +kernel
theorem dX9_years_153 : decode cX9_years 153 = .ok (.getfield 363, 3) := by decide +kernel
theorem dX9_years_156 : decode cX9_years 156 = .ok (.ireturn, 1) := by decide +kernel
set_option maxRecDepth 20000 in
set_option maxHeartbeats 2000000 in
theorem V_X9_years_0 {X : Ctx} (C : C_X9_years X) {k n : Nat} {Q : Pq} {h : Hp} {v0 : Nat} {v1 v2 : Int32}
    (hv : ((¬ (bt v2 1 30) = 0 → St9 h v0 ∧ nn h v0 13 ∧ nn h v0 12 ∧ St4 h (gp h v0 13) ∧ S_X4_copyFrom (lX X) (dtX X) 0 0 [.ref (gp h v0 13), .ref (gp h v0 12)] h (QV fun h5 =>
    St9 h5 v0 ∧ Wj X k n Q 30 [(0, .ref v0), (2, .int v2), (3, .int 0)] [] (si h5 v0 11 v1))) ∧
    ((bt v2 1 30) = 0 → Q (some (.int (-1))) h))) :
    Wj X k n Q 0 [(0, .ref v0), (1, .int v1), (2, .int v2)] [] h := by
  refine w_iload_n (pc := 0) C dX9_years_0 rfl ?_
  refine w_iconst (pc := 1) C (v := 1) dX9_years_1 (by decide) ?_
  refine w_bipush (pc := 2) C (v := 30) dX9_years_2 (by decide) ?_
  refine w_cS0_3 (pc := 4) C cl_X9_247 ls_X9_isBetween (by decide) dX9_years_4 (Nat.le_of_ble_eq_true rfl) ((sf_X9_isBetween (h := h) ).mono (fun v h9 hp => ?_))
  obtain ⟨e1, e2⟩ := hp
  rw [e1, e2]
  refine w_if_ne (pc := 7) C (tgt := 12) dX9_years_7 (by decide) ?_
  obtain ⟨hv1, hv2⟩ := hv
  refine ⟨fun c7 => ?_, fun c7 => ?_⟩
  · have hv := hv1 c7
    refine w_aload_n (pc := 12) C dX9_years_12 rfl ?_
    obtain ⟨f1, hv⟩ := hv
    obtain ⟨f2, hv⟩ := hv
    refine w_getR (pc := 13) C fl_X9_82 rfl dX9_years_13 (St9_k f1) f2 ?_
    refine w_aload_n (pc := 16) C dX9_years_16 rfl ?_
    obtain ⟨f3, hv⟩ := hv
    refine w_getR (pc := 17) C fl_X9_78 rfl dX9_years_17 (St9_k f1) f3 ?_
    obtain ⟨f4, hv⟩ := hv
    refine w_cV0_1 (pc := 20) C cl_X9_99 lv_X4_copyFrom (by decide) dX9_years_20 (Nat.le_of_ble_eq_true rfl) (c := 4) rfl (St4_k f4) (hv.mono (fun v h5 hp => ?_))
    obtain ⟨rfl, hv⟩ := hp
    refine w_aload_n (pc := 23) C dX9_years_23 rfl ?_
    refine w_iload_n (pc := 24) C dX9_years_24 rfl ?_
    obtain ⟨f6, hv⟩ := hv
    refine w_putI (pc := 25) C fl_X9_74 rfl rfl dX9_years_25 (St9_k f6) ?_
    refine w_iconst (pc := 28) C (v := 0) dX9_years_28 (by decide) ?_
    refine w_istore_n (pc := 29) C dX9_years_29 (by decide) ?_
    refine w_sub ?_ hv
    exact ⟨rfl, rfl, rfl, trivial⟩
  · have hv := hv2 c7
    refine w_iconst (pc := 10) C (v := (-1)) dX9_years_10 (by decide) ?_
    exact w_iret (pc := 11) C dX9_years_11 hv
set_option maxRecDepth 20000 in
set_option maxHeartbeats 2000000 in
theorem V_X9_years_30 {X : Ctx} (C : C_X9_years X) {k n : Nat} {Q : Pq} {h : Hp} {v0 : Nat} {v2 v3 : Int32}
    (hv : ((v2 ≤ v3 → St9 h v0 ∧ nn h v0 13 ∧ St4 h (gp h v0 13) ∧ S_X8_addFraction (lX X) (dtX X) 0 0 [.ref (v0 + 3), .ref ((gp h v0 13) + 2)] (tcl h (v0 + 3)) (QV fun h4 =>
    St9 h4 v0 ∧ nn h4 v0 13 ∧ St4 h4 (gp h4 v0 13) ∧ Q (some (.int (gi h4 (gp h4 v0 13) 7))) h4)) ∧
    (¬ v2 ≤ v3 → St9 h v0 ∧ S_X9_draw (lX X) (dtX X) 0 0 [.ref v0, .int 4] h (QI fun x10 h9 =>
    ((¬ x10 = 0 → ((¬ x10 = 3 → St9 h9 v0 ∧ S_X9_draw (lX X) (dtX X) 0 0 [.ref v0, .int 5] h9 (QI fun x13 h12 =>
    St9 h12 v0 ∧ nn h12 v0 13 ∧ St4 h12 (gp h12 v0 13) ∧ S_X9_draw (lX X) (dtX X) 0 0 [.ref v0, .int (hHo h12 (gp h12 v0 13) (gi h12 (gp h12 v0 13) 5))] h12 (QI fun x18 h17 =>
    St4 h17 (gp h12 v0 13) ∧ S_X4_wind (lX X) (dtX X) 0 0 [.ref (gp h12 v0 13), .int x13, .int x18, .int 0] h17 (QI fun x21 h20 =>
    Wj X k n Q 30 [(0, .ref v0), (2, .int v2), (3, .int (v3 + Int32.ofInt 1))] [] h20)))) ∧
    (x10 = 3 → St9 h9 v0 ∧ nn h9 v0 13 ∧ St4 h9 (gp h9 v0 13) ∧ S_X4_scribe (lX X) (dtX X) 0 0 [.ref (gp h9 v0 13)] h9 (QI fun x26 h25 =>
    Wj X k n Q 30 [(0, .ref v0), (2, .int v2), (3, .int (v3 + Int32.ofInt 1))] [] h25)))) ∧
    (x10 = 0 → St9 h9 v0 ∧ nn h9 v0 13 ∧ St4 h9 (gp h9 v0 13) ∧ S_X9_draw (lX X) (dtX X) 0 0 [.ref v0, .int (gi h9 (gp h9 v0 13) 3)] h9 (QI fun x32 h31 =>
    St4 h31 (gp h9 v0 13) ∧ S_X4_choose (lX X) (dtX X) 0 0 [.ref (gp h9 v0 13), .int x32] h31 (QI fun x35 h34 =>
    Wj X k n Q 30 [(0, .ref v0), (2, .int v2), (3, .int (v3 + Int32.ofInt 1))] [] h34)))))))) :
    Wj X k n Q 30 [(0, .ref v0), (2, .int v2), (3, .int v3)] [] h := by
  refine w_iload_n (pc := 30) C dX9_years_30 rfl ?_
  refine w_iload_n (pc := 31) C dX9_years_31 rfl ?_
  refine w_icmp_ge (pc := 32) C (tgt := 128) dX9_years_32 (by decide) ?_
  obtain ⟨hv1, hv2⟩ := hv
  refine ⟨fun c37 => ?_, fun c37 => ?_⟩
  · have hv := hv1 c37
    refine w_aload_n (pc := 128) C dX9_years_128 rfl ?_
    obtain ⟨f1, hv⟩ := hv
    refine w_getR (pc := 129) C fl_X9_19 rfl dX9_years_129 (St9_k f1) (St9_r1 f1) ?_
    refine w_cV0_0 (pc := 132) C cl_X9_158 lv_X8_clear (by decide) dX9_years_132 (Nat.le_of_ble_eq_true rfl) (c := 8) rfl (St8_k (St9_s1 f1)) ((sf_X8_clear (h := h) (St9_s1 f1)).mono (fun v h9 hp => ?_))
    obtain ⟨e1, e2⟩ := hp
    rw [e1, e2]
    refine w_aload_n (pc := 135) C dX9_years_135 rfl ?_
    refine w_getR (pc := 136) C fl_X9_19 rfl dX9_years_136 (St9_k f1) (St9_r1 f1) ?_
    refine w_aload_n (pc := 139) C dX9_years_139 rfl ?_
    obtain ⟨f2, hv⟩ := hv
    refine w_getR (pc := 140) C fl_X9_82 rfl dX9_years_140 (St9_k f1) f2 ?_
    obtain ⟨f3, hv⟩ := hv
    refine w_getR (pc := 143) C fl_X9_343 rfl dX9_years_143 (St4_k f3) (St4_r9 f3) ?_
    refine w_cV0_1 (pc := 146) C cl_X9_293 lv_X8_addFraction (by decide) dX9_years_146 (Nat.le_of_ble_eq_true rfl) (c := 8) rfl (St8_k (St9_s1 f1)) (hv.mono (fun v h4 hp => ?_))
    obtain ⟨rfl, hv⟩ := hp
    refine w_aload_n (pc := 149) C dX9_years_149 rfl ?_
    obtain ⟨f5, hv⟩ := hv
    obtain ⟨f6, hv⟩ := hv
    refine w_getR (pc := 150) C fl_X9_82 rfl dX9_years_150 (St9_k f5) f6 ?_
    obtain ⟨f7, hv⟩ := hv
    refine w_getI (pc := 153) C fl_X9_363 rfl dX9_years_153 (St4_k f7) ?_
    exact w_iret (pc := 156) C dX9_years_156 hv
  · have hv := hv2 c37
    refine w_aload_n (pc := 35) C dX9_years_35 rfl ?_
    refine w_iconst (pc := 36) C (v := 4) dX9_years_36 (by decide) ?_
    obtain ⟨f8, hv⟩ := hv
    refine w_cV0_1 (pc := 37) C cl_X9_407 lv_X9_draw (by decide) dX9_years_37 (Nat.le_of_ble_eq_true rfl) (c := 9) rfl (St9_k f8) (hv.mono (fun v h9 hp => ?_))
    obtain ⟨x10, rfl, hv⟩ := hp
    refine w_istore (pc := 40) C dX9_years_40 (by decide) ?_
    refine w_iload (pc := 42) C dX9_years_42 rfl ?_
    refine w_if_ne (pc := 44) C (tgt := 69) dX9_years_44 (by decide) ?_
    obtain ⟨hv1, hv2⟩ := hv
    refine ⟨fun c36 => ?_, fun c36 => ?_⟩
    · have hv := hv1 c36
      refine w_iload (pc := 69) C dX9_years_69 rfl ?_
      refine w_iconst (pc := 71) C (v := 3) dX9_years_71 (by decide) ?_
      refine w_icmp_ne (pc := 72) C (tgt := 86) dX9_years_72 (by decide) ?_
      obtain ⟨hv1, hv2⟩ := hv
      refine ⟨fun c27 => ?_, fun c27 => ?_⟩
      · have hv := hv1 c27
        refine w_aload_n (pc := 86) C dX9_years_86 rfl ?_
        refine w_iconst (pc := 87) C (v := 5) dX9_years_87 (by decide) ?_
        obtain ⟨f11, hv⟩ := hv
        refine w_cV0_1 (pc := 88) C cl_X9_407 lv_X9_draw (by decide) dX9_years_88 (Nat.le_of_ble_eq_true rfl) (c := 9) rfl (St9_k f11) (hv.mono (fun v h12 hp => ?_))
        obtain ⟨x13, rfl, hv⟩ := hp
        refine w_istore (pc := 91) C dX9_years_91 (by decide) ?_
        refine w_aload_n (pc := 93) C dX9_years_93 rfl ?_
        obtain ⟨f14, hv⟩ := hv
        obtain ⟨f15, hv⟩ := hv
        refine w_getR (pc := 94) C fl_X9_82 rfl dX9_years_94 (St9_k f14) f15 ?_
        refine w_iload (pc := 97) C dX9_years_97 rfl ?_
        refine w_aload_n (pc := 99) C dX9_years_99 rfl ?_
        refine w_aload_n (pc := 100) C dX9_years_100 rfl ?_
        refine w_getR (pc := 101) C fl_X9_82 rfl dX9_years_101 (St9_k f14) f15 ?_
        refine w_aload_n (pc := 104) C dX9_years_104 rfl ?_
        refine w_getR (pc := 105) C fl_X9_82 rfl dX9_years_105 (St9_k f14) f15 ?_
        obtain ⟨f16, hv⟩ := hv
        refine w_getI (pc := 108) C fl_X9_410 rfl dX9_years_108 (St4_k f16) ?_
        refine w_cV0_1 (pc := 111) C cl_X9_168 lv_X4_holesOf (by decide) dX9_years_111 (Nat.le_of_ble_eq_true rfl) (c := 4) rfl (St4_k f16) ((sf_X4_holesOf (h := h12) f16).mono (fun v h9 hp => ?_))
        obtain ⟨e1, e2⟩ := hp
        rw [e1, e2]
        refine w_cV0_1 (pc := 114) C cl_X9_407 lv_X9_draw (by decide) dX9_years_114 (Nat.le_of_ble_eq_true rfl) (c := 9) rfl (St9_k f14) (hv.mono (fun v h17 hp => ?_))
        obtain ⟨x18, rfl, hv⟩ := hp
        refine w_iconst (pc := 117) C (v := 0) dX9_years_117 (by decide) ?_
        obtain ⟨f19, hv⟩ := hv
        refine w_cV0_3 (pc := 118) C cl_X9_339 lv_X4_wind (by decide) dX9_years_118 (Nat.le_of_ble_eq_true rfl) (c := 4) rfl (St4_k f19) (hv.mono (fun v h20 hp => ?_))
        obtain ⟨x21, rfl, hv⟩ := hp
        refine w_pop (pc := 121) C dX9_years_121 rfl ?_
        refine w_iinc (pc := 122) C dX9_years_122 rfl (by decide) ?_
        refine w_goto (pc := 125) C (tgt := 30) dX9_years_125 (by decide) ?_
        refine w_sub ?_ hv
        exact ⟨rfl, rfl, rfl, trivial⟩
      · have hv := hv2 c27
        refine w_aload_n (pc := 75) C dX9_years_75 rfl ?_
        obtain ⟨f22, hv⟩ := hv
        obtain ⟨f23, hv⟩ := hv
        refine w_getR (pc := 76) C fl_X9_82 rfl dX9_years_76 (St9_k f22) f23 ?_
        obtain ⟨f24, hv⟩ := hv
        refine w_cV0_0 (pc := 79) C cl_X9_346 lv_X4_scribe (by decide) dX9_years_79 (Nat.le_of_ble_eq_true rfl) (c := 4) rfl (St4_k f24) (hv.mono (fun v h25 hp => ?_))
        obtain ⟨x26, rfl, hv⟩ := hp
        refine w_pop (pc := 82) C dX9_years_82 rfl ?_
        refine w_goto (pc := 83) C (tgt := 122) dX9_years_83 (by decide) ?_
        refine w_iinc (pc := 122) C dX9_years_122 rfl (by decide) ?_
        refine w_goto (pc := 125) C (tgt := 30) dX9_years_125 (by decide) ?_
        refine w_sub ?_ hv
        exact ⟨rfl, rfl, rfl, trivial⟩
    · have hv := hv2 c36
      refine w_aload_n (pc := 47) C dX9_years_47 rfl ?_
      obtain ⟨f28, hv⟩ := hv
      obtain ⟨f29, hv⟩ := hv
      refine w_getR (pc := 48) C fl_X9_82 rfl dX9_years_48 (St9_k f28) f29 ?_
      refine w_aload_n (pc := 51) C dX9_years_51 rfl ?_
      refine w_aload_n (pc := 52) C dX9_years_52 rfl ?_
      refine w_getR (pc := 53) C fl_X9_82 rfl dX9_years_53 (St9_k f28) f29 ?_
      obtain ⟨f30, hv⟩ := hv
      refine w_getI (pc := 56) C fl_X9_131 rfl dX9_years_56 (St4_k f30) ?_
      refine w_cV0_1 (pc := 59) C cl_X9_407 lv_X9_draw (by decide) dX9_years_59 (Nat.le_of_ble_eq_true rfl) (c := 9) rfl (St9_k f28) (hv.mono (fun v h31 hp => ?_))
      obtain ⟨x32, rfl, hv⟩ := hp
      obtain ⟨f33, hv⟩ := hv
      refine w_cV0_1 (pc := 62) C cl_X9_326 lv_X4_choose (by decide) dX9_years_62 (Nat.le_of_ble_eq_true rfl) (c := 4) rfl (St4_k f33) (hv.mono (fun v h34 hp => ?_))
      obtain ⟨x35, rfl, hv⟩ := hp
      refine w_pop (pc := 65) C dX9_years_65 rfl ?_
      refine w_goto (pc := 66) C (tgt := 122) dX9_years_66 (by decide) ?_
      refine w_iinc (pc := 122) C dX9_years_122 rfl (by decide) ?_
      refine w_goto (pc := 125) C (tgt := 30) dX9_years_125 (by decide) ?_
      refine w_sub ?_ hv
      exact ⟨rfl, rfl, rfl, trivial⟩
theorem dX10_draws_0 : decode cX10_draws 0 = .ok (.aload_n 0, 1) := by decide +kernel
theorem dX10_draws_1 : decode cX10_draws 1 = .ok (.aload_n 0, 1) := by decide +kernel
theorem dX10_draws_2 : decode cX10_draws 2 = .ok (.getfield 431, 3) := by decide +kernel
theorem dX10_draws_5 : decode cX10_draws 5 = .ok (.ldc_w 434, 3) := by decide +kernel
theorem dX10_draws_8 : decode cX10_draws 8 = .ok (.imul, 1) := by decide +kernel
theorem dX10_draws_9 : decode cX10_draws 9 = .ok (.sipush 12345, 3) := by decide +kernel
theorem dX10_draws_12 : decode cX10_draws 12 = .ok (.iadd, 1) := by decide +kernel
theorem dX10_draws_13 : decode cX10_draws 13 = .ok (.putfield 431, 3) := by decide +kernel
theorem dX10_draws_16 : decode cX10_draws 16 = .ok (.aload_n 0, 1) := by decide +kernel
theorem dX10_draws_17 : decode cX10_draws 17 = .ok (.getfield 431, 3) := by decide +kernel
theorem dX10_draws_20 : decode cX10_draws 20 = .ok (.bipush 16, 2) := by decide +kernel
theorem dX10_draws_22 : decode cX10_draws 22 = .ok (.iushr, 1) := by decide +kernel
theorem dX10_draws_23 : decode cX10_draws 23 = .ok (.iload_n 1, 1) := by decide +kernel
theorem dX10_draws_24 : decode cX10_draws 24 = .ok (.irem, 1) := by decide +kernel
theorem dX10_draws_25 : decode cX10_draws 25 = .ok (.ireturn, 1) := by decide +kernel
set_option maxRecDepth 20000 in
set_option maxHeartbeats 2000000 in
theorem V_X10_draws_0 {X : Ctx} (C : C_X10_draws X) {k n : Nat} {Q : Pq} {h : Hp} {v0 : Nat} {v1 : Int32}
    (hv : St10 h v0 ∧ ¬ v1 = 0 ∧ Q (some (.int ((iushr (gi (si h v0 41 (((gi h v0 41) * 1103515245) + 12345)) v0 41) 16) % v1))) (si h v0 41 (((gi h v0 41) * 1103515245) + 12345))) :
    Wj X k n Q 0 [(0, .ref v0), (1, .int v1)] [] h := by
  refine w_aload_n (pc := 0) C dX10_draws_0 rfl ?_
  refine w_aload_n (pc := 1) C dX10_draws_1 rfl ?_
  obtain ⟨f1, hv⟩ := hv
  refine w_getI (pc := 2) C fl_X10_431 rfl dX10_draws_2 (St10_k f1) ?_
  refine w_ldcw (pc := 5) C ct_X10_434 dX10_draws_5 ?_
  refine w_imul (pc := 8) C dX10_draws_8 ?_
  refine w_sipush (pc := 9) C (v := 12345) dX10_draws_9 (by decide) ?_
  refine w_iadd (pc := 12) C dX10_draws_12 ?_
  refine w_putI (pc := 13) C fl_X10_431 rfl rfl dX10_draws_13 (St10_k f1) ?_
  refine w_aload_n (pc := 16) C dX10_draws_16 rfl ?_
  refine w_getI (pc := 17) C fl_X10_431 rfl dX10_draws_17 (St10_k f1) ?_
  refine w_bipush (pc := 20) C (v := 16) dX10_draws_20 (by decide) ?_
  refine w_iushr (pc := 22) C dX10_draws_22 ?_
  refine w_iload_n (pc := 23) C dX10_draws_23 rfl ?_
  obtain ⟨f2, hv⟩ := hv
  refine w_irem (pc := 24) C dX10_draws_24 f2 ?_
  exact w_iret (pc := 25) C dX10_draws_25 hv
theorem dX10_years_0 : decode cX10_years 0 = .ok (.aload_n 0, 1) := by decide +kernel
theorem dX10_years_1 : decode cX10_years 1 = .ok (.iconst 0, 1) := by decide +kernel
theorem dX10_years_2 : decode cX10_years 2 = .ok (.putfield 1, 3) := by decide +kernel
theorem dX10_years_5 : decode cX10_years 5 = .ok (.iload_n 2, 1) := by decide +kernel
theorem dX10_years_6 : decode cX10_years 6 = .ok (.i2l, 1) := by decide +kernel
theorem dX10_years_7 : decode cX10_years 7 = .ok (.lconst 1, 1) := by decide +kernel
theorem dX10_years_8 : decode cX10_years 8 = .ok (.ldc2_w 435, 3) := by decide +kernel
theorem dX10_years_11 : decode cX10_years 11 = .ok (.invokestatic 29, 3) := by decide +kernel
theorem dX10_years_14 : decode cX10_years 14 = .ok (.ifCond .ne 5, 3) := by decide +kernel
theorem dX10_years_17 : decode cX10_years 17 = .ok (.iconst (-1), 1) := by decide +kernel
theorem dX10_years_18 : decode cX10_years 18 = .ok (.ireturn, 1) := by decide +kernel
theorem dX10_years_19 : decode cX10_years 19 = .ok (.aload_n 0, 1) := by decide +kernel
theorem dX10_years_20 : decode cX10_years 20 = .ok (.iload_n 1, 1) := by decide +kernel
theorem dX10_years_21 : decode cX10_years 21 = .ok (.putfield 431, 3) := by decide +kernel
theorem dX10_years_24 : decode cX10_years 24 = .ok (.aload_n 0, 1) := by decide +kernel
theorem dX10_years_25 : decode cX10_years 25 = .ok (.iconst 0, 1) := by decide +kernel
theorem dX10_years_26 : decode cX10_years 26 = .ok (.iconst 3, 1) := by decide +kernel
theorem dX10_years_27 : decode cX10_years 27 = .ok (.invokevirtual 118, 3) := by decide +kernel
theorem dX10_years_30 : decode cX10_years 30 = .ok (.iconst 0, 1) := by decide +kernel
theorem dX10_years_31 : decode cX10_years 31 = .ok (.istore_n 3, 1) := by decide +kernel
theorem dX10_years_32 : decode cX10_years 32 = .ok (.iload_n 3, 1) := by decide +kernel
theorem dX10_years_33 : decode cX10_years 33 = .ok (.iload_n 2, 1) := by decide +kernel
theorem dX10_years_34 : decode cX10_years 34 = .ok (.if_icmp .ge 81, 3) := by decide +kernel
theorem dX10_years_37 : decode cX10_years 37 = .ok (.aload_n 0, 1) := by decide +kernel
theorem dX10_years_38 : decode cX10_years 38 = .ok (.iconst 4, 1) := by decide +kernel
theorem dX10_years_39 : decode cX10_years 39 = .ok (.invokevirtual 437, 3) := by decide +kernel
theorem dX10_years_42 : decode cX10_years 42 = .ok (.istore 4, 2) := by decide +kernel
theorem dX10_years_44 : decode cX10_years 44 = .ok (.iload 4, 2) := by decide +kernel
theorem dX10_years_46 : decode cX10_years 46 = .ok (.ifCond .ne 19, 3) := by decide +kernel
theorem dX10_years_49 : decode cX10_years 49 = .ok (.aload_n 0, 1) := by decide +kernel
theorem dX10_years_50 : decode cX10_years 50 = .ok (.aload_n 0, 1) := by decide +kernel
theorem dX10_years_51 : decode cX10_years 51 = .ok (.aload_n 0, 1) := by decide +kernel
theorem dX10_years_52 : decode cX10_years 52 = .ok (.invokevirtual 156, 3) := by decide +kernel
theorem dX10_years_55 : decode cX10_years 55 = .ok (.invokevirtual 437, 3) := by decide +kernel
theorem dX10_years_58 : decode cX10_years 58 = .ok (.invokevirtual 326, 3) := by decide +kernel
theorem dX10_years_61 : decode cX10_years 61 = .ok (.pop, 1) := by decide +kernel
theorem dX10_years_62 : decode cX10_years 62 = .ok (.goto 47, 3) := by decide +kernel
theorem dX10_years_65 : decode cX10_years 65 = .ok (.iload 4, 2) := by decide +kernel
theorem dX10_years_67 : decode cX10_years 67 = .ok (.iconst 3, 1) := by decide +kernel
theorem dX10_years_68 : decode cX10_years 68 = .ok (.if_icmp .ne 11, 3) := by decide +kernel
theorem dX10_years_71 : decode cX10_years 71 = .ok (.aload_n 0, 1) := by decide +kernel
theorem dX10_years_72 : decode cX10_years 72 = .ok (.invokevirtual 392, 3) := by decide +kernel
theorem dX10_years_75 : decode cX10_years 75 = .ok (.pop, 1) := by decide +kernel
theorem dX10_years_76 : decode cX10_years 76 = .ok (.goto 33, 3) := by decide +kernel
theorem dX10_years_79 : decode cX10_years 79 = .ok (.aload_n 0, 1) := by decide +kernel
theorem dX10_years_80 : decode cX10_years 80 = .ok (.iconst 5, 1) := by decide +kernel
theorem dX10_years_81 : decode cX10_years 81 = .ok (.invokevirtual 437, 3) := by decide +kernel
theorem dX10_years_84 : decode cX10_years 84 = .ok (.istore 5, 2) := by decide +kernel
theorem dX10_years_86 : decode cX10_years 86 = .ok (.aload_n 0, 1) := by decide +kernel
theorem dX10_years_87 : decode cX10_years 87 = .ok (.iload 5, 2) := by decide +kernel
theorem dX10_years_89 : decode cX10_years 89 = .ok (.aload_n 0, 1) := by decide +kernel
theorem dX10_years_90 : decode cX10_years 90 = .ok (.aload_n 0, 1) := by decide +kernel
theorem dX10_years_91 : decode cX10_years 91 = .ok (.aload_n 0, 1) := by decide +kernel
theorem dX10_years_92 : decode cX10_years 92 = .ok (.getfield 68, 3) := by decide +kernel
theorem dX10_years_95 : decode cX10_years 95 = .ok (.bipush 53, 2) := by decide +kernel
theorem dX10_years_97 : decode cX10_years 97 = .ok (.iaload, 1) := by decide +kernel
theorem dX10_years_98 : decode cX10_years 98 = .ok (.invokevirtual 159, 3) := by decide +kernel
theorem dX10_years_101 : decode cX10_years 101 = .ok (.invokevirtual 437, 3) := by decide +kernel
theorem dX10_years_104 : decode cX10_years 104 = .ok (.iconst 0, 1) := by decide +kernel
theorem dX10_years_105 : decode cX10_years 105 = .ok (.invokevirtual 374, 3) := by decide +kernel
theorem dX10_years_108 : decode cX10_years 108 = .ok (.pop, 1) := by decide +kernel
theorem dX10_years_109 : decode cX10_years 109 = .ok (.iinc 3 1, 3) := by decide +kernel
theorem dX10_years_112 : decode cX10_years 112 = .ok (.goto (-80), 3) := by decide +kernel
theorem dX10_years_115 : decode cX10_years 115 = .ok (.aload_n 0, 1) := by decide +kernel
theorem dX10_years_116 : decode cX10_years 116 = .ok (.invokevirtual 378, 3) := by decide +kernel
theorem dX10_years_119 : decode cX10_years 119 = .ok (.istore_n 3, 1) := by decide +kernel
theorem dX10_years_120 : decode cX10_years 120 = .ok (.aload_n 0, 1) := by decide +kernel
theorem dX10_years_121 : decode cX10_years 121 = .ok (.iconst 0, 1) := by decide +kernel
theorem dX10_years_122 : decode cX10_years 122 = .ok (.putfield 11, 3) := by decide +kernel
theorem dX10_years_125 : decode cX10_years 125 = .ok (.aload_n 0, 1) := by decide +kernel
theorem dX10_years_126 : decode cX10_years 126 = .ok (.aload_n 0, 1) := by decide +kernel
theorem dX10_years_127 : decode cX10_years 127 = .ok (.getfield 71, 3) := by decide +kernel
theorem dX10_years_130 : decode cX10_years 130 = .ok (.iconst 0, 1) := by decide +kernel
theorem dX10_years_131 : decode cX10_years 131 = .ok (.laload, 1) := by decide +kernel
theorem dX10_years_132 : decode cX10_years 132 = .ok (.invokevirtual 18, 3) := by decide +kernel
theorem dX10_years_135 : decode cX10_years 135 = .ok (.aload_n 0, 1) := by decide +kernel
theorem dX10_years_136 : decode cX10_years 136 = .ok (.aload_n 0, 1) := by decide +kernel
theorem dX10_years_137 : decode cX10_years 137 = .ok (.getfield 71, 3) := by decide +kernel
theorem dX10_years_140 : decode cX10_years 140 = .ok (.iconst 1, 1) := by decide +kernel
theorem dX10_years_141 : decode cX10_years 141 = .ok (.laload, 1) := by decide +kernel
theorem dX10_years_142 : decode cX10_years 142 = .ok (.invokevirtual 18, 3) := by decide +kernel
theorem dX10_years_145 : decode cX10_years 145 = .ok (.aload_n 0, 1) := by decide +kernel
theorem dX10_years_146 : decode cX10_years 146 = .ok (.iconst 3, 1) := by decide +kernel
theorem dX10_years_147 : decode cX10_years 147 = .ok (.iconst 0, 1) := by decide +kernel
theorem dX10_years_148 : decode cX10_years 148 = .ok (.invokevirtual 118, 3) := by decide +kernel
theorem dX10_years_151 : decode cX10_years 151 = .ok (.iload_n 3, 1) := by decide +kernel
theorem dX10_years_152 : decode cX10_years 152 = .ok (.ireturn, 1) := by decide +kernel
set_option maxRecDepth 20000 in
set_option maxHeartbeats 2000000 in
theorem V_X10_years_0 {X : Ctx} (C : C_X10_years X) {k n : Nat} {Q : Pq} {h : Hp} {v0 : Nat} {v1 v2 : Int32}
    (hv : St10 h v0 ∧ ((¬ (btL (Int32.toInt64 v2) 1 30) = 0 → S_X10_copies (lX X) (dtX X) 0 0 [.ref v0, .int 0, .int 3] (si (si h v0 0 0) v0 41 v1) (QV fun h2 =>
    Wj X k n Q 32 [(0, .ref v0), (2, .int v2), (3, .int 0)] [] h2)) ∧
    ((btL (Int32.toInt64 v2) 1 30) = 0 → Q (some (.int (-1))) (si h v0 0 0)))) :
    Wj X k n Q 0 [(0, .ref v0), (1, .int v1), (2, .int v2)] [] h := by
  refine w_aload_n (pc := 0) C dX10_years_0 rfl ?_
  refine w_iconst (pc := 1) C (v := 0) dX10_years_1 (by decide) ?_
  obtain ⟨f1, hv⟩ := hv
  refine w_putI (pc := 2) C fl_X10_1 rfl rfl dX10_years_2 (St10_k f1) ?_
  refine w_iload_n (pc := 5) C dX10_years_5 rfl ?_
  refine w_i2l (pc := 6) C dX10_years_6 ?_
  refine w_lconst (pc := 7) C (v := 1) dX10_years_7 (by decide) ?_
  refine w_ldc2 (pc := 8) C ctl_X10_435 dX10_years_8 ?_
  refine w_cS0_3 (pc := 11) C cl_X10_29 ls_X10_in (by decide) dX10_years_11 (Nat.le_of_ble_eq_true rfl) ((sf_X10_in (h := (si h v0 0 0)) ).mono (fun v h9 hp => ?_))
  obtain ⟨e1, e2⟩ := hp
  rw [e1, e2]
  refine w_if_ne (pc := 14) C (tgt := 19) dX10_years_14 (by decide) ?_
  obtain ⟨hv1, hv2⟩ := hv
  refine ⟨fun c3 => ?_, fun c3 => ?_⟩
  · have hv := hv1 c3
    refine w_aload_n (pc := 19) C dX10_years_19 rfl ?_
    refine w_iload_n (pc := 20) C dX10_years_20 rfl ?_
    refine w_putI (pc := 21) C fl_X10_431 rfl rfl dX10_years_21 (St10_k f1) ?_
    refine w_aload_n (pc := 24) C dX10_years_24 rfl ?_
    refine w_iconst (pc := 25) C (v := 0) dX10_years_25 (by decide) ?_
    refine w_iconst (pc := 26) C (v := 3) dX10_years_26 (by decide) ?_
    refine w_cV0_2 (pc := 27) C cl_X10_118 lv_X10_copies (by decide) dX10_years_27 (Nat.le_of_ble_eq_true rfl) (c := 10) rfl (St10_k f1) (hv.mono (fun v h2 hp => ?_))
    obtain ⟨rfl, hv⟩ := hp
    refine w_iconst (pc := 30) C (v := 0) dX10_years_30 (by decide) ?_
    refine w_istore_n (pc := 31) C dX10_years_31 (by decide) ?_
    refine w_sub ?_ hv
    exact ⟨rfl, rfl, rfl, trivial⟩
  · have hv := hv2 c3
    refine w_iconst (pc := 17) C (v := (-1)) dX10_years_17 (by decide) ?_
    exact w_iret (pc := 18) C dX10_years_18 hv
set_option maxRecDepth 20000 in
set_option maxHeartbeats 2000000 in
theorem V_X10_years_32 {X : Ctx} (C : C_X10_years X) {k n : Nat} {Q : Pq} {h : Hp} {v0 : Nat} {v2 v3 : Int32}
    (hv : ((v2 ≤ v3 → St10 h v0 ∧ S_X10_enters (lX X) (dtX X) 0 0 [.ref v0, .long (gl h (v0 + 4) (ix 0))] (si h v0 1 0) (QV fun h2 =>
    St10 h2 v0 ∧ S_X10_enters (lX X) (dtX X) 0 0 [.ref v0, .long (gl h2 (v0 + 4) (ix 1))] h2 (QV fun h4 =>
    St10 h4 v0 ∧ S_X10_copies (lX X) (dtX X) 0 0 [.ref v0, .int 3, .int 0] h4 (QV fun h6 =>
    Q (some (.int (gi h (v0 + 3) (ix 60)))) h6)))) ∧
    (¬ v2 ≤ v3 → St10 h v0 ∧ S_X10_draws (lX X) (dtX X) 0 0 [.ref v0, .int 4] h (QI fun x9 h8 =>
    ((¬ x9 = 0 → ((¬ x9 = 3 → St10 h8 v0 ∧ S_X10_draws (lX X) (dtX X) 0 0 [.ref v0, .int 5] h8 (QI fun x12 h11 =>
    St10 h11 v0 ∧ inb (23 + (gi h11 (v0 + 3) (ix 53))) 732 ∧ S_X10_draws (lX X) (dtX X) 0 0 [.ref v0, .int (gi h11 (v0 + 3) (ix (23 + (gi h11 (v0 + 3) (ix 53)))))] h11 (QI fun x16 h15 =>
    St10 h15 v0 ∧ S_X10_turnsOne (lX X) (dtX X) 0 0 [.ref v0, .int x12, .int x16, .int 0] h15 (QI fun x19 h18 =>
    Wj X k n Q 32 [(0, .ref v0), (2, .int v2), (3, .int (v3 + Int32.ofInt 1))] [] h18)))) ∧
    (x9 = 3 → St10 h8 v0 ∧ S_X10_cutsOne (lX X) (dtX X) 0 0 [.ref v0] h8 (QI fun x22 h21 =>
    Wj X k n Q 32 [(0, .ref v0), (2, .int v2), (3, .int (v3 + Int32.ofInt 1))] [] h21)))) ∧
    (x9 = 0 → St10 h8 v0 ∧ S_X10_draws (lX X) (dtX X) 0 0 [.ref v0, .int (gi h8 (v0 + 3) (ix 3))] h8 (QI fun x26 h25 =>
    St10 h25 v0 ∧ S_X10_usesOne (lX X) (dtX X) 0 0 [.ref v0, .int x26] h25 (QI fun x29 h28 =>
    Wj X k n Q 32 [(0, .ref v0), (2, .int v2), (3, .int (v3 + Int32.ofInt 1))] [] h28)))))))) :
    Wj X k n Q 32 [(0, .ref v0), (2, .int v2), (3, .int v3)] [] h := by
  refine w_iload_n (pc := 32) C dX10_years_32 rfl ?_
  refine w_iload_n (pc := 33) C dX10_years_33 rfl ?_
  refine w_icmp_ge (pc := 34) C (tgt := 115) dX10_years_34 (by decide) ?_
  obtain ⟨hv1, hv2⟩ := hv
  refine ⟨fun c31 => ?_, fun c31 => ?_⟩
  · have hv := hv1 c31
    refine w_aload_n (pc := 115) C dX10_years_115 rfl ?_
    obtain ⟨f1, hv⟩ := hv
    refine w_cV0_0 (pc := 116) C cl_X10_378 lv_X10_marks (by decide) dX10_years_116 (Nat.le_of_ble_eq_true rfl) (c := 10) rfl (St10_k f1) ((sf_X10_marks (h := h) f1).mono (fun v h9 hp => ?_))
    obtain ⟨e1, e2⟩ := hp
    rw [e1, e2]
    refine w_istore_n (pc := 119) C dX10_years_119 (by decide) ?_
    refine w_aload_n (pc := 120) C dX10_years_120 rfl ?_
    refine w_iconst (pc := 121) C (v := 0) dX10_years_121 (by decide) ?_
    refine w_putI (pc := 122) C fl_X10_11 rfl rfl dX10_years_122 (St10_k f1) ?_
    refine w_aload_n (pc := 125) C dX10_years_125 rfl ?_
    refine w_aload_n (pc := 126) C dX10_years_126 rfl ?_
    refine w_getR (pc := 127) C fl_X10_71 rfl dX10_years_127 (St10_k f1) (St10_r8 f1) ?_
    refine w_iconst (pc := 130) C (v := 0) dX10_years_130 (by decide) ?_
    refine w_lald (pc := 131) C dX10_years_131 (St10_k8 f1) (inbl (St10_l8 f1) (inbd (by decide))) ?_
    refine w_cV0_1 (pc := 132) C cl_X10_18 lv_X10_enters (by decide) dX10_years_132 (Nat.le_of_ble_eq_true rfl) (c := 10) rfl (St10_k f1) (hv.mono (fun v h2 hp => ?_))
    obtain ⟨rfl, hv⟩ := hp
    refine w_aload_n (pc := 135) C dX10_years_135 rfl ?_
    refine w_aload_n (pc := 136) C dX10_years_136 rfl ?_
    obtain ⟨f3, hv⟩ := hv
    refine w_getR (pc := 137) C fl_X10_71 rfl dX10_years_137 (St10_k f3) (St10_r8 f3) ?_
    refine w_iconst (pc := 140) C (v := 1) dX10_years_140 (by decide) ?_
    refine w_lald (pc := 141) C dX10_years_141 (St10_k8 f3) (inbl (St10_l8 f3) (inbd (by decide))) ?_
    refine w_cV0_1 (pc := 142) C cl_X10_18 lv_X10_enters (by decide) dX10_years_142 (Nat.le_of_ble_eq_true rfl) (c := 10) rfl (St10_k f3) (hv.mono (fun v h4 hp => ?_))
    obtain ⟨rfl, hv⟩ := hp
    refine w_aload_n (pc := 145) C dX10_years_145 rfl ?_
    refine w_iconst (pc := 146) C (v := 3) dX10_years_146 (by decide) ?_
    refine w_iconst (pc := 147) C (v := 0) dX10_years_147 (by decide) ?_
    obtain ⟨f5, hv⟩ := hv
    refine w_cV0_2 (pc := 148) C cl_X10_118 lv_X10_copies (by decide) dX10_years_148 (Nat.le_of_ble_eq_true rfl) (c := 10) rfl (St10_k f5) (hv.mono (fun v h6 hp => ?_))
    obtain ⟨rfl, hv⟩ := hp
    refine w_iload_n (pc := 151) C dX10_years_151 rfl ?_
    exact w_iret (pc := 152) C dX10_years_152 hv
  · have hv := hv2 c31
    refine w_aload_n (pc := 37) C dX10_years_37 rfl ?_
    refine w_iconst (pc := 38) C (v := 4) dX10_years_38 (by decide) ?_
    obtain ⟨f7, hv⟩ := hv
    refine w_cV0_1 (pc := 39) C cl_X10_437 lv_X10_draws (by decide) dX10_years_39 (Nat.le_of_ble_eq_true rfl) (c := 10) rfl (St10_k f7) (hv.mono (fun v h8 hp => ?_))
    obtain ⟨x9, rfl, hv⟩ := hp
    refine w_istore (pc := 42) C dX10_years_42 (by decide) ?_
    refine w_iload (pc := 44) C dX10_years_44 rfl ?_
    refine w_if_ne (pc := 46) C (tgt := 65) dX10_years_46 (by decide) ?_
    obtain ⟨hv1, hv2⟩ := hv
    refine ⟨fun c30 => ?_, fun c30 => ?_⟩
    · have hv := hv1 c30
      refine w_iload (pc := 65) C dX10_years_65 rfl ?_
      refine w_iconst (pc := 67) C (v := 3) dX10_years_67 (by decide) ?_
      refine w_icmp_ne (pc := 68) C (tgt := 79) dX10_years_68 (by decide) ?_
      obtain ⟨hv1, hv2⟩ := hv
      refine ⟨fun c23 => ?_, fun c23 => ?_⟩
      · have hv := hv1 c23
        refine w_aload_n (pc := 79) C dX10_years_79 rfl ?_
        refine w_iconst (pc := 80) C (v := 5) dX10_years_80 (by decide) ?_
        obtain ⟨f10, hv⟩ := hv
        refine w_cV0_1 (pc := 81) C cl_X10_437 lv_X10_draws (by decide) dX10_years_81 (Nat.le_of_ble_eq_true rfl) (c := 10) rfl (St10_k f10) (hv.mono (fun v h11 hp => ?_))
        obtain ⟨x12, rfl, hv⟩ := hp
        refine w_istore (pc := 84) C dX10_years_84 (by decide) ?_
        refine w_aload_n (pc := 86) C dX10_years_86 rfl ?_
        refine w_iload (pc := 87) C dX10_years_87 rfl ?_
        refine w_aload_n (pc := 89) C dX10_years_89 rfl ?_
        refine w_aload_n (pc := 90) C dX10_years_90 rfl ?_
        refine w_aload_n (pc := 91) C dX10_years_91 rfl ?_
        obtain ⟨f13, hv⟩ := hv
        refine w_getR (pc := 92) C fl_X10_68 rfl dX10_years_92 (St10_k f13) (St10_r7 f13) ?_
        refine w_bipush (pc := 95) C (v := 53) dX10_years_95 (by decide) ?_
        refine w_iald (pc := 97) C dX10_years_97 (St10_k7 f13) (inbl (St10_l7 f13) (inbd (by decide))) ?_
        obtain ⟨f14, hv⟩ := hv
        refine w_cV0_1 (pc := 98) C cl_X10_159 lv_X10_holes (by decide) dX10_years_98 (Nat.le_of_ble_eq_true rfl) (c := 10) rfl (St10_k f13) ((sf_X10_holes (h := h11) f13 f14).mono (fun v h9 hp => ?_))
        obtain ⟨e1, e2⟩ := hp
        rw [e1, e2]
        refine w_cV0_1 (pc := 101) C cl_X10_437 lv_X10_draws (by decide) dX10_years_101 (Nat.le_of_ble_eq_true rfl) (c := 10) rfl (St10_k f13) (hv.mono (fun v h15 hp => ?_))
        obtain ⟨x16, rfl, hv⟩ := hp
        refine w_iconst (pc := 104) C (v := 0) dX10_years_104 (by decide) ?_
        obtain ⟨f17, hv⟩ := hv
        refine w_cV0_3 (pc := 105) C cl_X10_374 lv_X10_turnsOne (by decide) dX10_years_105 (Nat.le_of_ble_eq_true rfl) (c := 10) rfl (St10_k f17) (hv.mono (fun v h18 hp => ?_))
        obtain ⟨x19, rfl, hv⟩ := hp
        refine w_pop (pc := 108) C dX10_years_108 rfl ?_
        refine w_iinc (pc := 109) C dX10_years_109 rfl (by decide) ?_
        refine w_goto (pc := 112) C (tgt := 32) dX10_years_112 (by decide) ?_
        refine w_sub ?_ hv
        exact ⟨rfl, rfl, rfl, trivial⟩
      · have hv := hv2 c23
        refine w_aload_n (pc := 71) C dX10_years_71 rfl ?_
        obtain ⟨f20, hv⟩ := hv
        refine w_cV0_0 (pc := 72) C cl_X10_392 lv_X10_cutsOne (by decide) dX10_years_72 (Nat.le_of_ble_eq_true rfl) (c := 10) rfl (St10_k f20) (hv.mono (fun v h21 hp => ?_))
        obtain ⟨x22, rfl, hv⟩ := hp
        refine w_pop (pc := 75) C dX10_years_75 rfl ?_
        refine w_goto (pc := 76) C (tgt := 109) dX10_years_76 (by decide) ?_
        refine w_iinc (pc := 109) C dX10_years_109 rfl (by decide) ?_
        refine w_goto (pc := 112) C (tgt := 32) dX10_years_112 (by decide) ?_
        refine w_sub ?_ hv
        exact ⟨rfl, rfl, rfl, trivial⟩
    · have hv := hv2 c30
      refine w_aload_n (pc := 49) C dX10_years_49 rfl ?_
      refine w_aload_n (pc := 50) C dX10_years_50 rfl ?_
      refine w_aload_n (pc := 51) C dX10_years_51 rfl ?_
      obtain ⟨f24, hv⟩ := hv
      refine w_cV0_0 (pc := 52) C cl_X10_156 lv_X10_circles (by decide) dX10_years_52 (Nat.le_of_ble_eq_true rfl) (c := 10) rfl (St10_k f24) ((sf_X10_circles (h := h8) f24).mono (fun v h9 hp => ?_))
      obtain ⟨e1, e2⟩ := hp
      rw [e1, e2]
      refine w_cV0_1 (pc := 55) C cl_X10_437 lv_X10_draws (by decide) dX10_years_55 (Nat.le_of_ble_eq_true rfl) (c := 10) rfl (St10_k f24) (hv.mono (fun v h25 hp => ?_))
      obtain ⟨x26, rfl, hv⟩ := hp
      obtain ⟨f27, hv⟩ := hv
      refine w_cV0_1 (pc := 58) C cl_X10_326 lv_X10_usesOne (by decide) dX10_years_58 (Nat.le_of_ble_eq_true rfl) (c := 10) rfl (St10_k f27) (hv.mono (fun v h28 hp => ?_))
      obtain ⟨x29, rfl, hv⟩ := hp
      refine w_pop (pc := 61) C dX10_years_61 rfl ?_
      refine w_goto (pc := 62) C (tgt := 109) dX10_years_62 (by decide) ?_
      refine w_iinc (pc := 109) C dX10_years_109 rfl (by decide) ?_
      refine w_goto (pc := 112) C (tgt := 32) dX10_years_112 (by decide) ?_
      refine w_sub ?_ hv
      exact ⟨rfl, rfl, rfl, trivial⟩
