-- the reference: acts (by program: gen_parts.py)
theorem dX10_usesOne_0 : decode cX10_usesOne 0 = .ok (.iload_n 1, 1) := by decide +kernel
theorem dX10_usesOne_1 : decode cX10_usesOne 1 = .ok (.i2l, 1) := by decide +kernel
theorem dX10_usesOne_2 : decode cX10_usesOne 2 = .ok (.lconst 0, 1) := by decide +kernel
theorem dX10_usesOne_3 : decode cX10_usesOne 3 = .ok (.aload_n 0, 1) := by decide +kernel
theorem dX10_usesOne_4 : decode cX10_usesOne 4 = .ok (.invokevirtual 156, 3) := by decide +kernel
theorem dX10_usesOne_7 : decode cX10_usesOne 7 = .ok (.iconst 1, 1) := by decide +kernel
theorem dX10_usesOne_8 : decode cX10_usesOne 8 = .ok (.isub, 1) := by decide +kernel
theorem dX10_usesOne_9 : decode cX10_usesOne 9 = .ok (.i2l, 1) := by decide +kernel
theorem dX10_usesOne_10 : decode cX10_usesOne 10 = .ok (.invokestatic 29, 3) := by decide +kernel
theorem dX10_usesOne_13 : decode cX10_usesOne 13 = .ok (.ifCond .ne 5, 3) := by decide +kernel
theorem dX10_usesOne_16 : decode cX10_usesOne 16 = .ok (.iconst (-1), 1) := by decide +kernel
theorem dX10_usesOne_17 : decode cX10_usesOne 17 = .ok (.ireturn, 1) := by decide +kernel
theorem dX10_usesOne_18 : decode cX10_usesOne 18 = .ok (.aload_n 0, 1) := by decide +kernel
theorem dX10_usesOne_19 : decode cX10_usesOne 19 = .ok (.getfield 68, 3) := by decide +kernel
theorem dX10_usesOne_22 : decode cX10_usesOne 22 = .ok (.bipush 53, 2) := by decide +kernel
theorem dX10_usesOne_24 : decode cX10_usesOne 24 = .ok (.iaload, 1) := by decide +kernel
theorem dX10_usesOne_25 : decode cX10_usesOne 25 = .ok (.istore_n 2, 1) := by decide +kernel
theorem dX10_usesOne_26 : decode cX10_usesOne 26 = .ok (.aload_n 0, 1) := by decide +kernel
theorem dX10_usesOne_27 : decode cX10_usesOne 27 = .ok (.getfield 68, 3) := by decide +kernel
theorem dX10_usesOne_30 : decode cX10_usesOne 30 = .ok (.bipush 53, 2) := by decide +kernel
theorem dX10_usesOne_32 : decode cX10_usesOne 32 = .ok (.iload_n 1, 1) := by decide +kernel
theorem dX10_usesOne_33 : decode cX10_usesOne 33 = .ok (.iastore, 1) := by decide +kernel
theorem dX10_usesOne_34 : decode cX10_usesOne 34 = .ok (.iload_n 2, 1) := by decide +kernel
theorem dX10_usesOne_35 : decode cX10_usesOne 35 = .ok (.iload_n 1, 1) := by decide +kernel
theorem dX10_usesOne_36 : decode cX10_usesOne 36 = .ok (.if_icmp .ne 8, 3) := by decide +kernel
theorem dX10_usesOne_39 : decode cX10_usesOne 39 = .ok (.bipush (-2), 2) := by decide +kernel
theorem dX10_usesOne_41 : decode cX10_usesOne 41 = .ok (.goto 4, 3) := by decide +kernel
theorem dX10_usesOne_44 : decode cX10_usesOne 44 = .ok (.iload_n 2, 1) := by decide +kernel
theorem dX10_usesOne_45 : decode cX10_usesOne 45 = .ok (.ireturn, 1) := by decide +kernel
set_option maxRecDepth 20000 in
set_option maxHeartbeats 2000000 in
theorem V_X10_usesOne_0 {X : Ctx} (C : C_X10_usesOne X) {k n : Nat} {Q : Pq} {h : Hp} {v0 : Nat} {v1 : Int32}
    (hv : St10 h v0 ∧ ((¬ (btL (Int32.toInt64 v1) 0 (Int32.toInt64 ((gi h (v0 + 3) (ix 3)) - 1))) = 0 → ((¬ (gi h (v0 + 3) (ix 53)) = v1 → Q (some (.int (gi h (v0 + 3) (ix 53)))) (si h (v0 + 3) (ix 53) v1)) ∧
    ((gi h (v0 + 3) (ix 53)) = v1 → Q (some (.int (-2))) (si h (v0 + 3) (ix 53) v1)))) ∧
    ((btL (Int32.toInt64 v1) 0 (Int32.toInt64 ((gi h (v0 + 3) (ix 3)) - 1))) = 0 → Q (some (.int (-1))) h))) :
    Wj X k n Q 0 [(0, .ref v0), (1, .int v1)] [] h := by
  refine w_iload_n (pc := 0) C dX10_usesOne_0 rfl ?_
  refine w_i2l (pc := 1) C dX10_usesOne_1 ?_
  refine w_lconst (pc := 2) C (v := 0) dX10_usesOne_2 (by decide) ?_
  refine w_aload_n (pc := 3) C dX10_usesOne_3 rfl ?_
  obtain ⟨f1, hv⟩ := hv
  refine w_cV0_0 (pc := 4) C cl_X10_156 lv_X10_circles (by decide) dX10_usesOne_4 (Nat.le_of_ble_eq_true rfl) (c := 10) rfl (St10_k f1) ((sf_X10_circles (h := h) f1).mono (fun v h9 hp => ?_))
  obtain ⟨e1, e2⟩ := hp
  rw [e1, e2]
  refine w_iconst (pc := 7) C (v := 1) dX10_usesOne_7 (by decide) ?_
  refine w_isub (pc := 8) C dX10_usesOne_8 ?_
  refine w_i2l (pc := 9) C dX10_usesOne_9 ?_
  refine w_cS0_3 (pc := 10) C cl_X10_29 ls_X10_in (by decide) dX10_usesOne_10 (Nat.le_of_ble_eq_true rfl) ((sf_X10_in (h := h) ).mono (fun v h9 hp => ?_))
  obtain ⟨e1, e2⟩ := hp
  rw [e1, e2]
  refine w_if_ne (pc := 13) C (tgt := 18) dX10_usesOne_13 (by decide) ?_
  obtain ⟨hv1, hv2⟩ := hv
  refine ⟨fun c3 => ?_, fun c3 => ?_⟩
  · have hv := hv1 c3
    refine w_aload_n (pc := 18) C dX10_usesOne_18 rfl ?_
    refine w_getR (pc := 19) C fl_X10_68 rfl dX10_usesOne_19 (St10_k f1) (St10_r7 f1) ?_
    refine w_bipush (pc := 22) C (v := 53) dX10_usesOne_22 (by decide) ?_
    refine w_iald (pc := 24) C dX10_usesOne_24 (St10_k7 f1) (inbl (St10_l7 f1) (inbd (by decide))) ?_
    refine w_istore_n (pc := 25) C dX10_usesOne_25 (by decide) ?_
    refine w_aload_n (pc := 26) C dX10_usesOne_26 rfl ?_
    refine w_getR (pc := 27) C fl_X10_68 rfl dX10_usesOne_27 (St10_k f1) (St10_r7 f1) ?_
    refine w_bipush (pc := 30) C (v := 53) dX10_usesOne_30 (by decide) ?_
    refine w_iload_n (pc := 32) C dX10_usesOne_32 rfl ?_
    refine w_iast (pc := 33) C dX10_usesOne_33 (St10_k7 f1) (inbl (St10_l7 f1) (inbd (by decide))) ?_
    refine w_iload_n (pc := 34) C dX10_usesOne_34 rfl ?_
    refine w_iload_n (pc := 35) C dX10_usesOne_35 rfl ?_
    refine w_icmp_ne (pc := 36) C (tgt := 44) dX10_usesOne_36 (by decide) ?_
    obtain ⟨hv1, hv2⟩ := hv
    refine ⟨fun c2 => ?_, fun c2 => ?_⟩
    · have hv := hv1 c2
      refine w_iload_n (pc := 44) C dX10_usesOne_44 rfl ?_
      exact w_iret (pc := 45) C dX10_usesOne_45 hv
    · have hv := hv2 c2
      refine w_bipush (pc := 39) C (v := (-2)) dX10_usesOne_39 (by decide) ?_
      refine w_goto (pc := 41) C (tgt := 45) dX10_usesOne_41 (by decide) ?_
      exact w_iret (pc := 45) C dX10_usesOne_45 hv
  · have hv := hv2 c3
    refine w_iconst (pc := 16) C (v := (-1)) dX10_usesOne_16 (by decide) ?_
    exact w_iret (pc := 17) C dX10_usesOne_17 hv
theorem dX10_gearedOne_0 : decode cX10_gearedOne 0 = .ok (.iload_n 3, 1) := by decide +kernel
theorem dX10_gearedOne_1 : decode cX10_gearedOne 1 = .ok (.iconst (-1), 1) := by decide +kernel
theorem dX10_gearedOne_2 : decode cX10_gearedOne 2 = .ok (.if_icmp .ne 13, 3) := by decide +kernel
theorem dX10_gearedOne_5 : decode cX10_gearedOne 5 = .ok (.iload 4, 2) := by decide +kernel
theorem dX10_gearedOne_7 : decode cX10_gearedOne 7 = .ok (.iconst (-1), 1) := by decide +kernel
theorem dX10_gearedOne_8 : decode cX10_gearedOne 8 = .ok (.if_icmp .ne 7, 3) := by decide +kernel
theorem dX10_gearedOne_11 : decode cX10_gearedOne 11 = .ok (.iconst 2, 1) := by decide +kernel
theorem dX10_gearedOne_12 : decode cX10_gearedOne 12 = .ok (.goto 4, 3) := by decide +kernel
theorem dX10_gearedOne_15 : decode cX10_gearedOne 15 = .ok (.iconst 4, 1) := by decide +kernel
theorem dX10_gearedOne_16 : decode cX10_gearedOne 16 = .ok (.istore 6, 2) := by decide +kernel
theorem dX10_gearedOne_18 : decode cX10_gearedOne 18 = .ok (.aload_n 0, 1) := by decide +kernel
theorem dX10_gearedOne_19 : decode cX10_gearedOne 19 = .ok (.getfield 80, 3) := by decide +kernel
theorem dX10_gearedOne_22 : decode cX10_gearedOne 22 = .ok (.iconst 0, 1) := by decide +kernel
theorem dX10_gearedOne_23 : decode cX10_gearedOne 23 = .ok (.iload_n 1, 1) := by decide +kernel
theorem dX10_gearedOne_24 : decode cX10_gearedOne 24 = .ok (.iastore, 1) := by decide +kernel
theorem dX10_gearedOne_25 : decode cX10_gearedOne 25 = .ok (.aload_n 0, 1) := by decide +kernel
theorem dX10_gearedOne_26 : decode cX10_gearedOne 26 = .ok (.getfield 80, 3) := by decide +kernel
theorem dX10_gearedOne_29 : decode cX10_gearedOne 29 = .ok (.iconst 1, 1) := by decide +kernel
theorem dX10_gearedOne_30 : decode cX10_gearedOne 30 = .ok (.iload_n 2, 1) := by decide +kernel
theorem dX10_gearedOne_31 : decode cX10_gearedOne 31 = .ok (.iastore, 1) := by decide +kernel
theorem dX10_gearedOne_32 : decode cX10_gearedOne 32 = .ok (.aload_n 0, 1) := by decide +kernel
theorem dX10_gearedOne_33 : decode cX10_gearedOne 33 = .ok (.getfield 80, 3) := by decide +kernel
theorem dX10_gearedOne_36 : decode cX10_gearedOne 36 = .ok (.iconst 2, 1) := by decide +kernel
theorem dX10_gearedOne_37 : decode cX10_gearedOne 37 = .ok (.iload_n 3, 1) := by decide +kernel
theorem dX10_gearedOne_38 : decode cX10_gearedOne 38 = .ok (.iastore, 1) := by decide +kernel
theorem dX10_gearedOne_39 : decode cX10_gearedOne 39 = .ok (.aload_n 0, 1) := by decide +kernel
theorem dX10_gearedOne_40 : decode cX10_gearedOne 40 = .ok (.getfield 80, 3) := by decide +kernel
theorem dX10_gearedOne_43 : decode cX10_gearedOne 43 = .ok (.iconst 3, 1) := by decide +kernel
theorem dX10_gearedOne_44 : decode cX10_gearedOne 44 = .ok (.iload 4, 2) := by decide +kernel
theorem dX10_gearedOne_46 : decode cX10_gearedOne 46 = .ok (.iastore, 1) := by decide +kernel
theorem dX10_gearedOne_47 : decode cX10_gearedOne 47 = .ok (.iload 5, 2) := by decide +kernel
theorem dX10_gearedOne_49 : decode cX10_gearedOne 49 = .ok (.iconst 1, 1) := by decide +kernel
theorem dX10_gearedOne_50 : decode cX10_gearedOne 50 = .ok (.if_icmp .eq 9, 3) := by decide +kernel
theorem dX10_gearedOne_53 : decode cX10_gearedOne 53 = .ok (.iload 5, 2) := by decide +kernel
theorem dX10_gearedOne_55 : decode cX10_gearedOne 55 = .ok (.iconst (-1), 1) := by decide +kernel
theorem dX10_gearedOne_56 : decode cX10_gearedOne 56 = .ok (.if_icmp .ne 7, 3) := by decide +kernel
theorem dX10_gearedOne_59 : decode cX10_gearedOne 59 = .ok (.iconst 1, 1) := by decide +kernel
theorem dX10_gearedOne_60 : decode cX10_gearedOne 60 = .ok (.goto 4, 3) := by decide +kernel
theorem dX10_gearedOne_63 : decode cX10_gearedOne 63 = .ok (.iconst 0, 1) := by decide +kernel
theorem dX10_gearedOne_64 : decode cX10_gearedOne 64 = .ok (.istore 7, 2) := by decide +kernel
theorem dX10_gearedOne_66 : decode cX10_gearedOne 66 = .ok (.iconst 0, 1) := by decide +kernel
theorem dX10_gearedOne_67 : decode cX10_gearedOne 67 = .ok (.istore 8, 2) := by decide +kernel
theorem dX10_gearedOne_69 : decode cX10_gearedOne 69 = .ok (.iload 8, 2) := by decide +kernel
theorem dX10_gearedOne_71 : decode cX10_gearedOne 71 = .ok (.iload 6, 2) := by decide +kernel
theorem dX10_gearedOne_73 : decode cX10_gearedOne 73 = .ok (.if_icmp .ge 44, 3) := by decide +kernel
theorem dX10_gearedOne_76 : decode cX10_gearedOne 76 = .ok (.iload 7, 2) := by decide +kernel
theorem dX10_gearedOne_78 : decode cX10_gearedOne 78 = .ok (.ifCond .eq 30, 3) := by decide +kernel
theorem dX10_gearedOne_81 : decode cX10_gearedOne 81 = .ok (.aload_n 0, 1) := by decide +kernel
theorem dX10_gearedOne_82 : decode cX10_gearedOne 82 = .ok (.aload_n 0, 1) := by decide +kernel
theorem dX10_gearedOne_83 : decode cX10_gearedOne 83 = .ok (.getfield 80, 3) := by decide +kernel
theorem dX10_gearedOne_86 : decode cX10_gearedOne 86 = .ok (.iload 8, 2) := by decide +kernel
theorem dX10_gearedOne_88 : decode cX10_gearedOne 88 = .ok (.iaload, 1) := by decide +kernel
theorem dX10_gearedOne_89 : decode cX10_gearedOne 89 = .ok (.invokevirtual 329, 3) := by decide +kernel
theorem dX10_gearedOne_92 : decode cX10_gearedOne 92 = .ok (.ifCond .eq 16, 3) := by decide +kernel
theorem dX10_gearedOne_95 : decode cX10_gearedOne 95 = .ok (.aload_n 0, 1) := by decide +kernel
theorem dX10_gearedOne_96 : decode cX10_gearedOne 96 = .ok (.iload 8, 2) := by decide +kernel
theorem dX10_gearedOne_98 : decode cX10_gearedOne 98 = .ok (.invokevirtual 214, 3) := by decide +kernel
theorem dX10_gearedOne_101 : decode cX10_gearedOne 101 = .ok (.ifCond .eq 7, 3) := by decide +kernel
theorem dX10_gearedOne_104 : decode cX10_gearedOne 104 = .ok (.iconst 1, 1) := by decide +kernel
theorem dX10_gearedOne_105 : decode cX10_gearedOne 105 = .ok (.goto 4, 3) := by decide +kernel
theorem dX10_gearedOne_108 : decode cX10_gearedOne 108 = .ok (.iconst 0, 1) := by decide +kernel
theorem dX10_gearedOne_109 : decode cX10_gearedOne 109 = .ok (.istore 7, 2) := by decide +kernel
theorem dX10_gearedOne_111 : decode cX10_gearedOne 111 = .ok (.iinc 8 1, 3) := by decide +kernel
theorem dX10_gearedOne_114 : decode cX10_gearedOne 114 = .ok (.goto (-45), 3) := by decide +kernel
theorem dX10_gearedOne_117 : decode cX10_gearedOne 117 = .ok (.iload 7, 2) := by decide +kernel
theorem dX10_gearedOne_119 : decode cX10_gearedOne 119 = .ok (.ifCond .ne 5, 3) := by decide +kernel
theorem dX10_gearedOne_122 : decode cX10_gearedOne 122 = .ok (.iconst (-1), 1) := by decide +kernel
theorem dX10_gearedOne_123 : decode cX10_gearedOne 123 = .ok (.ireturn, 1) := by decide +kernel
theorem dX10_gearedOne_124 : decode cX10_gearedOne 124 = .ok (.aload_n 0, 1) := by decide +kernel
theorem dX10_gearedOne_125 : decode cX10_gearedOne 125 = .ok (.iload 6, 2) := by decide +kernel
theorem dX10_gearedOne_127 : decode cX10_gearedOne 127 = .ok (.putfield 217, 3) := by decide +kernel
theorem dX10_gearedOne_130 : decode cX10_gearedOne 130 = .ok (.iload 5, 2) := by decide +kernel
theorem dX10_gearedOne_132 : decode cX10_gearedOne 132 = .ok (.i2l, 1) := by decide +kernel
theorem dX10_gearedOne_133 : decode cX10_gearedOne 133 = .ok (.aload_n 0, 1) := by decide +kernel
theorem dX10_gearedOne_134 : decode cX10_gearedOne 134 = .ok (.invokevirtual 236, 3) := by decide +kernel
theorem dX10_gearedOne_137 : decode cX10_gearedOne 137 = .ok (.lmul, 1) := by decide +kernel
theorem dX10_gearedOne_138 : decode cX10_gearedOne 138 = .ok (.aload_n 0, 1) := by decide +kernel
theorem dX10_gearedOne_139 : decode cX10_gearedOne 139 = .ok (.invokevirtual 168, 3) := by decide +kernel
theorem dX10_gearedOne_142 : decode cX10_gearedOne 142 = .ok (.i2l, 1) := by decide +kernel
theorem dX10_gearedOne_143 : decode cX10_gearedOne 143 = .ok (.aload_n 0, 1) := by decide +kernel
theorem dX10_gearedOne_144 : decode cX10_gearedOne 144 = .ok (.invokevirtual 240, 3) := by decide +kernel
theorem dX10_gearedOne_147 : decode cX10_gearedOne 147 = .ok (.lmul, 1) := by decide +kernel
theorem dX10_gearedOne_148 : decode cX10_gearedOne 148 = .ok (.lcmp, 1) := by decide +kernel
theorem dX10_gearedOne_149 : decode cX10_gearedOne 149 = .ok (.ifCond .ne 6, 3) := by decide +kernel
theorem dX10_gearedOne_152 : decode cX10_gearedOne 152 = .ok (.bipush (-4), 2) := by decide +kernel
theorem dX10_gearedOne_154 : decode cX10_gearedOne 154 = .ok (.ireturn, 1) := by decide +kernel
theorem dX10_gearedOne_155 : decode cX10_gearedOne 155 = .ok (.aload_n 0, 1) := by decide +kernel
theorem dX10_gearedOne_156 : decode cX10_gearedOne 156 = .ok (.getfield 68, 3) := by decide +kernel
theorem dX10_gearedOne_159 : decode cX10_gearedOne 159 = .ok (.bipush 54, 2) := by decide +kernel
theorem dX10_gearedOne_161 : decode cX10_gearedOne 161 = .ok (.iload 6, 2) := by decide +kernel
theorem dX10_gearedOne_163 : decode cX10_gearedOne 163 = .ok (.iastore, 1) := by decide +kernel
theorem dX10_gearedOne_164 : decode cX10_gearedOne 164 = .ok (.aload_n 0, 1) := by decide +kernel
theorem dX10_gearedOne_165 : decode cX10_gearedOne 165 = .ok (.getfield 68, 3) := by decide +kernel
theorem dX10_gearedOne_168 : decode cX10_gearedOne 168 = .ok (.bipush 59, 2) := by decide +kernel
theorem dX10_gearedOne_170 : decode cX10_gearedOne 170 = .ok (.iload 5, 2) := by decide +kernel
theorem dX10_gearedOne_172 : decode cX10_gearedOne 172 = .ok (.iastore, 1) := by decide +kernel
theorem dX10_gearedOne_173 : decode cX10_gearedOne 173 = .ok (.iconst 0, 1) := by decide +kernel
theorem dX10_gearedOne_174 : decode cX10_gearedOne 174 = .ok (.istore 8, 2) := by decide +kernel
theorem dX10_gearedOne_176 : decode cX10_gearedOne 176 = .ok (.iload 8, 2) := by decide +kernel
theorem dX10_gearedOne_178 : decode cX10_gearedOne 178 = .ok (.iconst 4, 1) := by decide +kernel
theorem dX10_gearedOne_179 : decode cX10_gearedOne 179 = .ok (.if_icmp .ge 37, 3) := by decide +kernel
theorem dX10_gearedOne_182 : decode cX10_gearedOne 182 = .ok (.aload_n 0, 1) := by decide +kernel
theorem dX10_gearedOne_183 : decode cX10_gearedOne 183 = .ok (.getfield 68, 3) := by decide +kernel
theorem dX10_gearedOne_186 : decode cX10_gearedOne 186 = .ok (.bipush 55, 2) := by decide +kernel
theorem dX10_gearedOne_188 : decode cX10_gearedOne 188 = .ok (.iload 8, 2) := by decide +kernel
theorem dX10_gearedOne_190 : decode cX10_gearedOne 190 = .ok (.iadd, 1) := by decide +kernel
theorem dX10_gearedOne_191 : decode cX10_gearedOne 191 = .ok (.iload 8, 2) := by decide +kernel
theorem dX10_gearedOne_193 : decode cX10_gearedOne 193 = .ok (.iload 6, 2) := by decide +kernel
theorem dX10_gearedOne_195 : decode cX10_gearedOne 195 = .ok (.if_icmp .ge 13, 3) := by decide +kernel
theorem dX10_gearedOne_198 : decode cX10_gearedOne 198 = .ok (.aload_n 0, 1) := by decide +kernel
theorem dX10_gearedOne_199 : decode cX10_gearedOne 199 = .ok (.getfield 80, 3) := by decide +kernel
theorem dX10_gearedOne_202 : decode cX10_gearedOne 202 = .ok (.iload 8, 2) := by decide +kernel
theorem dX10_gearedOne_204 : decode cX10_gearedOne 204 = .ok (.iaload, 1) := by decide +kernel
theorem dX10_gearedOne_205 : decode cX10_gearedOne 205 = .ok (.goto 4, 3) := by decide +kernel
theorem dX10_gearedOne_208 : decode cX10_gearedOne 208 = .ok (.iconst (-1), 1) := by decide +kernel
theorem dX10_gearedOne_209 : decode cX10_gearedOne 209 = .ok (.iastore, 1) := by decide +kernel
theorem dX10_gearedOne_210 : decode cX10_gearedOne 210 = .ok (.iinc 8 1, 3) := by decide +kernel
theorem dX10_gearedOne_213 : decode cX10_gearedOne 213 = .ok (.goto (-37), 3) := by decide +kernel
theorem dX10_gearedOne_216 : decode cX10_gearedOne 216 = .ok (.iload 6, 2) := by decide +kernel
theorem dX10_gearedOne_218 : decode cX10_gearedOne 218 = .ok (.ireturn, 1) := by decide +kernel
set_option maxRecDepth 20000 in
set_option maxHeartbeats 2000000 in
theorem V_X10_gearedOne_0 {X : Ctx} (C : C_X10_gearedOne X) {k n : Nat} {Q : Pq} {h : Hp} {v0 : Nat} {v1 v2 v3 v4 v5 : Int32}
    (hv : ((¬ v3 = (-1) → Wj X k n Q 16 [(0, .ref v0), (1, .int v1), (2, .int v2), (3, .int v3), (4, .int v4), (5, .int v5)] [.int 4] h) ∧
    (v3 = (-1) → ((¬ v4 = (-1) → Wj X k n Q 16 [(0, .ref v0), (1, .int v1), (2, .int v2), (3, .int v3), (4, .int v4), (5, .int v5)] [.int 4] h) ∧
    (v4 = (-1) → Wj X k n Q 16 [(0, .ref v0), (1, .int v1), (2, .int v2), (3, .int v3), (4, .int v4), (5, .int v5)] [.int 2] h))))) :
    Wj X k n Q 0 [(0, .ref v0), (1, .int v1), (2, .int v2), (3, .int v3), (4, .int v4), (5, .int v5)] [] h := by
  refine w_iload_n (pc := 0) C dX10_gearedOne_0 rfl ?_
  refine w_iconst (pc := 1) C (v := (-1)) dX10_gearedOne_1 (by decide) ?_
  refine w_icmp_ne (pc := 2) C (tgt := 15) dX10_gearedOne_2 (by decide) ?_
  obtain ⟨hv1, hv2⟩ := hv
  refine ⟨fun c2 => ?_, fun c2 => ?_⟩
  · have hv := hv1 c2
    refine w_iconst (pc := 15) C (v := 4) dX10_gearedOne_15 (by decide) ?_
    refine w_sub ?_ hv
    exact ⟨rfl, rfl, rfl, rfl, rfl, rfl, trivial⟩
  · have hv := hv2 c2
    refine w_iload (pc := 5) C dX10_gearedOne_5 rfl ?_
    refine w_iconst (pc := 7) C (v := (-1)) dX10_gearedOne_7 (by decide) ?_
    refine w_icmp_ne (pc := 8) C (tgt := 15) dX10_gearedOne_8 (by decide) ?_
    obtain ⟨hv1, hv2⟩ := hv
    refine ⟨fun c1 => ?_, fun c1 => ?_⟩
    · have hv := hv1 c1
      refine w_iconst (pc := 15) C (v := 4) dX10_gearedOne_15 (by decide) ?_
      refine w_sub ?_ hv
      exact ⟨rfl, rfl, rfl, rfl, rfl, rfl, trivial⟩
    · have hv := hv2 c1
      refine w_iconst (pc := 11) C (v := 2) dX10_gearedOne_11 (by decide) ?_
      refine w_goto (pc := 12) C (tgt := 16) dX10_gearedOne_12 (by decide) ?_
      refine w_sub ?_ hv
      exact ⟨rfl, rfl, rfl, rfl, rfl, rfl, trivial⟩
set_option maxRecDepth 20000 in
set_option maxHeartbeats 2000000 in
theorem V_X10_gearedOne_16 {X : Ctx} (C : C_X10_gearedOne X) {k n : Nat} {Q : Pq} {h : Hp} {v0 : Nat} {v1 v2 v3 v4 v5 s0 : Int32}
    (hv : St10 h v0 ∧ Wj X k n Q 39 [(0, .ref v0), (4, .int v4), (5, .int v5), (6, .int s0)] [] (si (si (si h (v0 + 7) (ix 0) v1) (v0 + 7) (ix 1) v2) (v0 + 7) (ix 2) v3)) :
    Wj X k n Q 16 [(0, .ref v0), (1, .int v1), (2, .int v2), (3, .int v3), (4, .int v4), (5, .int v5)] [.int s0] h := by
  refine w_istore (pc := 16) C dX10_gearedOne_16 (by decide) ?_
  refine w_aload_n (pc := 18) C dX10_gearedOne_18 rfl ?_
  obtain ⟨f1, hv⟩ := hv
  refine w_getR (pc := 19) C fl_X10_80 rfl dX10_gearedOne_19 (St10_k f1) (St10_r17 f1) ?_
  refine w_iconst (pc := 22) C (v := 0) dX10_gearedOne_22 (by decide) ?_
  refine w_iload_n (pc := 23) C dX10_gearedOne_23 rfl ?_
  refine w_iast (pc := 24) C dX10_gearedOne_24 (St10_k17 f1) (inbl (St10_l17 f1) (inbd (by decide))) ?_
  refine w_aload_n (pc := 25) C dX10_gearedOne_25 rfl ?_
  refine w_getR (pc := 26) C fl_X10_80 rfl dX10_gearedOne_26 (St10_k f1) (St10_r17 f1) ?_
  refine w_iconst (pc := 29) C (v := 1) dX10_gearedOne_29 (by decide) ?_
  refine w_iload_n (pc := 30) C dX10_gearedOne_30 rfl ?_
  refine w_iast (pc := 31) C dX10_gearedOne_31 (St10_k17 f1) (inbl (St10_l17 f1) (inbd (by decide))) ?_
  refine w_aload_n (pc := 32) C dX10_gearedOne_32 rfl ?_
  refine w_getR (pc := 33) C fl_X10_80 rfl dX10_gearedOne_33 (St10_k f1) (St10_r17 f1) ?_
  refine w_iconst (pc := 36) C (v := 2) dX10_gearedOne_36 (by decide) ?_
  refine w_iload_n (pc := 37) C dX10_gearedOne_37 rfl ?_
  refine w_iast (pc := 38) C dX10_gearedOne_38 (St10_k17 f1) (inbl (St10_l17 f1) (inbd (by decide))) ?_
  refine w_sub ?_ hv
  exact ⟨rfl, rfl, rfl, rfl, trivial⟩
set_option maxRecDepth 20000 in
set_option maxHeartbeats 2000000 in
theorem V_X10_gearedOne_39 {X : Ctx} (C : C_X10_gearedOne X) {k n : Nat} {Q : Pq} {h : Hp} {v0 : Nat} {v4 v5 v6 : Int32}
    (hv : St10 h v0 ∧ ((v5 = 1 → Wj X k n Q 69 [(0, .ref v0), (5, .int v5), (6, .int v6), (7, .int 1), (8, .int 0)] [] (si h (v0 + 7) (ix 3) v4)) ∧
    (¬ v5 = 1 → ((¬ v5 = (-1) → Wj X k n Q 69 [(0, .ref v0), (5, .int v5), (6, .int v6), (7, .int 0), (8, .int 0)] [] (si h (v0 + 7) (ix 3) v4)) ∧
    (v5 = (-1) → Wj X k n Q 69 [(0, .ref v0), (5, .int v5), (6, .int v6), (7, .int 1), (8, .int 0)] [] (si h (v0 + 7) (ix 3) v4)))))) :
    Wj X k n Q 39 [(0, .ref v0), (4, .int v4), (5, .int v5), (6, .int v6)] [] h := by
  refine w_aload_n (pc := 39) C dX10_gearedOne_39 rfl ?_
  obtain ⟨f1, hv⟩ := hv
  refine w_getR (pc := 40) C fl_X10_80 rfl dX10_gearedOne_40 (St10_k f1) (St10_r17 f1) ?_
  refine w_iconst (pc := 43) C (v := 3) dX10_gearedOne_43 (by decide) ?_
  refine w_iload (pc := 44) C dX10_gearedOne_44 rfl ?_
  refine w_iast (pc := 46) C dX10_gearedOne_46 (St10_k17 f1) (inbl (St10_l17 f1) (inbd (by decide))) ?_
  refine w_iload (pc := 47) C dX10_gearedOne_47 rfl ?_
  refine w_iconst (pc := 49) C (v := 1) dX10_gearedOne_49 (by decide) ?_
  refine w_icmp_eq (pc := 50) C (tgt := 59) dX10_gearedOne_50 (by decide) ?_
  obtain ⟨hv1, hv2⟩ := hv
  refine ⟨fun c3 => ?_, fun c3 => ?_⟩
  · have hv := hv1 c3
    refine w_iconst (pc := 59) C (v := 1) dX10_gearedOne_59 (by decide) ?_
    refine w_goto (pc := 60) C (tgt := 64) dX10_gearedOne_60 (by decide) ?_
    refine w_istore (pc := 64) C dX10_gearedOne_64 (by decide) ?_
    refine w_iconst (pc := 66) C (v := 0) dX10_gearedOne_66 (by decide) ?_
    refine w_istore (pc := 67) C dX10_gearedOne_67 (by decide) ?_
    refine w_sub ?_ hv
    exact ⟨rfl, rfl, rfl, rfl, rfl, trivial⟩
  · have hv := hv2 c3
    refine w_iload (pc := 53) C dX10_gearedOne_53 rfl ?_
    refine w_iconst (pc := 55) C (v := (-1)) dX10_gearedOne_55 (by decide) ?_
    refine w_icmp_ne (pc := 56) C (tgt := 63) dX10_gearedOne_56 (by decide) ?_
    obtain ⟨hv1, hv2⟩ := hv
    refine ⟨fun c2 => ?_, fun c2 => ?_⟩
    · have hv := hv1 c2
      refine w_iconst (pc := 63) C (v := 0) dX10_gearedOne_63 (by decide) ?_
      refine w_istore (pc := 64) C dX10_gearedOne_64 (by decide) ?_
      refine w_iconst (pc := 66) C (v := 0) dX10_gearedOne_66 (by decide) ?_
      refine w_istore (pc := 67) C dX10_gearedOne_67 (by decide) ?_
      refine w_sub ?_ hv
      exact ⟨rfl, rfl, rfl, rfl, rfl, trivial⟩
    · have hv := hv2 c2
      refine w_iconst (pc := 59) C (v := 1) dX10_gearedOne_59 (by decide) ?_
      refine w_goto (pc := 60) C (tgt := 64) dX10_gearedOne_60 (by decide) ?_
      refine w_istore (pc := 64) C dX10_gearedOne_64 (by decide) ?_
      refine w_iconst (pc := 66) C (v := 0) dX10_gearedOne_66 (by decide) ?_
      refine w_istore (pc := 67) C dX10_gearedOne_67 (by decide) ?_
      refine w_sub ?_ hv
      exact ⟨rfl, rfl, rfl, rfl, rfl, trivial⟩
set_option maxRecDepth 20000 in
set_option maxHeartbeats 2000000 in
theorem V_X10_gearedOne_69 {X : Ctx} (C : C_X10_gearedOne X) {k n : Nat} {Q : Pq} {h : Hp} {v0 : Nat} {v5 v6 v7 v8 : Int32}
    (hv : ((v6 ≤ v8 → ((¬ v7 = 0 → St10 h v0 ∧ inb (41 + gi (si h v0 18 v6) (v0 + 7) (ix 0)) 732 ∧ (gi (si h v0 18 v6) v0 18 = 4 → inb (41 + gi (si h v0 18 v6) (v0 + 7) (ix 2)) 732) ∧ inb (41 + gi (si h v0 18 v6) (v0 + 7) (ix 1)) 732 ∧ (gi (si h v0 18 v6) v0 18 = 4 → inb (41 + gi (si h v0 18 v6) (v0 + 7) (ix 3)) 732) ∧ ((¬ ((Int32.toInt64 v5) * (mUp (si h v0 18 v6) v0)) = ((Int32.toInt64 (gi (si h v0 18 v6) (v0 + 3) (ix 0))) * (mLw (si h v0 18 v6) v0)) → Wj X k n Q 173 [(0, .ref v0), (6, .int v6)] [] (si (si (si h v0 18 v6) (v0 + 3) (ix 54) v6) (v0 + 3) (ix 59) v5)) ∧
    (((Int32.toInt64 v5) * (mUp (si h v0 18 v6) v0)) = ((Int32.toInt64 (gi (si h v0 18 v6) (v0 + 3) (ix 0))) * (mLw (si h v0 18 v6) v0)) → Q (some (.int (-4))) (si h v0 18 v6)))) ∧
    (v7 = 0 → Q (some (.int (-1))) h))) ∧
    (¬ v6 ≤ v8 → ((v7 = 0 → Wj X k n Q 69 [(0, .ref v0), (5, .int v5), (6, .int v6), (7, .int 0), (8, .int (v8 + Int32.ofInt 1))] [] h) ∧
    (¬ v7 = 0 → St10 h v0 ∧ inb v8 4 ∧ (((btL (Int32.toInt64 (gi h (v0 + 7) (ix v8))) 0 (Int32.toInt64 (gi h (v0 + 3) (ix 4) - 1))) = 0 → Wj X k n Q 69 [(0, .ref v0), (5, .int v5), (6, .int v6), (7, .int 0), (8, .int (v8 + Int32.ofInt 1))] [] h) ∧
    (¬ (btL (Int32.toInt64 (gi h (v0 + 7) (ix v8))) 0 (Int32.toInt64 (gi h (v0 + 3) (ix 4) - 1))) = 0 → (((mUn h v0 v8) = 0 → Wj X k n Q 69 [(0, .ref v0), (5, .int v5), (6, .int v6), (7, .int 0), (8, .int (v8 + Int32.ofInt 1))] [] h) ∧
    (¬ (mUn h v0 v8) = 0 → Wj X k n Q 69 [(0, .ref v0), (5, .int v5), (6, .int v6), (7, .int 1), (8, .int (v8 + Int32.ofInt 1))] [] h))))))))) :
    Wj X k n Q 69 [(0, .ref v0), (5, .int v5), (6, .int v6), (7, .int v7), (8, .int v8)] [] h := by
  refine w_iload (pc := 69) C dX10_gearedOne_69 rfl ?_
  refine w_iload (pc := 71) C dX10_gearedOne_71 rfl ?_
  refine w_icmp_ge (pc := 73) C (tgt := 117) dX10_gearedOne_73 (by decide) ?_
  obtain ⟨hv1, hv2⟩ := hv
  refine ⟨fun c13 => ?_, fun c13 => ?_⟩
  · have hv := hv1 c13
    refine w_iload (pc := 117) C dX10_gearedOne_117 rfl ?_
    refine w_if_ne (pc := 119) C (tgt := 124) dX10_gearedOne_119 (by decide) ?_
    obtain ⟨hv1, hv2⟩ := hv
    refine ⟨fun c7 => ?_, fun c7 => ?_⟩
    · have hv := hv1 c7
      refine w_aload_n (pc := 124) C dX10_gearedOne_124 rfl ?_
      refine w_iload (pc := 125) C dX10_gearedOne_125 rfl ?_
      obtain ⟨f1, hv⟩ := hv
      refine w_putI (pc := 127) C fl_X10_217 rfl rfl dX10_gearedOne_127 (St10_k f1) ?_
      refine w_iload (pc := 130) C dX10_gearedOne_130 rfl ?_
      refine w_i2l (pc := 132) C dX10_gearedOne_132 ?_
      refine w_aload_n (pc := 133) C dX10_gearedOne_133 rfl ?_
      obtain ⟨f2, hv⟩ := hv
      obtain ⟨f3, hv⟩ := hv
      refine w_cV0_0 (pc := 134) C cl_X10_236 lv_X10_upper (by decide) dX10_gearedOne_134 (Nat.le_of_ble_eq_true rfl) (c := 10) rfl (St10_k f1) ((sf_X10_upper (h := (si h v0 18 v6)) f1 f2 f3).mono (fun v h9 hp => ?_))
      obtain ⟨e1, e2⟩ := hp
      rw [e1, e2]
      refine w_lmul (pc := 137) C dX10_gearedOne_137 ?_
      refine w_aload_n (pc := 138) C dX10_gearedOne_138 rfl ?_
      refine w_cV0_0 (pc := 139) C cl_X10_168 lv_X10_worm (by decide) dX10_gearedOne_139 (Nat.le_of_ble_eq_true rfl) (c := 10) rfl (St10_k f1) ((sf_X10_worm (h := (si h v0 18 v6)) f1).mono (fun v h9 hp => ?_))
      obtain ⟨e1, e2⟩ := hp
      rw [e1, e2]
      refine w_i2l (pc := 142) C dX10_gearedOne_142 ?_
      refine w_aload_n (pc := 143) C dX10_gearedOne_143 rfl ?_
      obtain ⟨f4, hv⟩ := hv
      obtain ⟨f5, hv⟩ := hv
      refine w_cV0_0 (pc := 144) C cl_X10_240 lv_X10_lower (by decide) dX10_gearedOne_144 (Nat.le_of_ble_eq_true rfl) (c := 10) rfl (St10_k f1) ((sf_X10_lower (h := (si h v0 18 v6)) f1 f4 f5).mono (fun v h9 hp => ?_))
      obtain ⟨e1, e2⟩ := hp
      rw [e1, e2]
      refine w_lmul (pc := 147) C dX10_gearedOne_147 ?_
      refine w_lcmp_ne (pc := 148) C (tgt := 155) dX10_gearedOne_148 dX10_gearedOne_149 (by decide) ?_
      obtain ⟨hv1, hv2⟩ := hv
      refine ⟨fun c6 => ?_, fun c6 => ?_⟩
      · have hv := hv1 c6
        refine w_aload_n (pc := 155) C dX10_gearedOne_155 rfl ?_
        refine w_getR (pc := 156) C fl_X10_68 rfl dX10_gearedOne_156 (St10_k f1) (St10_r7 f1) ?_
        refine w_bipush (pc := 159) C (v := 54) dX10_gearedOne_159 (by decide) ?_
        refine w_iload (pc := 161) C dX10_gearedOne_161 rfl ?_
        refine w_iast (pc := 163) C dX10_gearedOne_163 (St10_k7 f1) (inbl (St10_l7 f1) (inbd (by decide))) ?_
        refine w_aload_n (pc := 164) C dX10_gearedOne_164 rfl ?_
        refine w_getR (pc := 165) C fl_X10_68 rfl dX10_gearedOne_165 (St10_k f1) (St10_r7 f1) ?_
        refine w_bipush (pc := 168) C (v := 59) dX10_gearedOne_168 (by decide) ?_
        refine w_iload (pc := 170) C dX10_gearedOne_170 rfl ?_
        refine w_iast (pc := 172) C dX10_gearedOne_172 (St10_k7 f1) (inbl (St10_l7 f1) (inbd (by decide))) ?_
        refine w_sub ?_ hv
        exact ⟨rfl, rfl, trivial⟩
      · have hv := hv2 c6
        refine w_bipush (pc := 152) C (v := (-4)) dX10_gearedOne_152 (by decide) ?_
        exact w_iret (pc := 154) C dX10_gearedOne_154 hv
    · have hv := hv2 c7
      refine w_iconst (pc := 122) C (v := (-1)) dX10_gearedOne_122 (by decide) ?_
      exact w_iret (pc := 123) C dX10_gearedOne_123 hv
  · have hv := hv2 c13
    refine w_iload (pc := 76) C dX10_gearedOne_76 rfl ?_
    refine w_if_eq (pc := 78) C (tgt := 108) dX10_gearedOne_78 (by decide) ?_
    obtain ⟨hv1, hv2⟩ := hv
    refine ⟨fun c12 => ?_, fun c12 => ?_⟩
    · have hv := hv1 c12
      refine w_iconst (pc := 108) C (v := 0) dX10_gearedOne_108 (by decide) ?_
      refine w_istore (pc := 109) C dX10_gearedOne_109 (by decide) ?_
      refine w_iinc (pc := 111) C dX10_gearedOne_111 rfl (by decide) ?_
      refine w_goto (pc := 114) C (tgt := 69) dX10_gearedOne_114 (by decide) ?_
      refine w_sub ?_ hv
      exact ⟨rfl, rfl, rfl, rfl, rfl, trivial⟩
    · have hv := hv2 c12
      refine w_aload_n (pc := 81) C dX10_gearedOne_81 rfl ?_
      refine w_aload_n (pc := 82) C dX10_gearedOne_82 rfl ?_
      obtain ⟨f8, hv⟩ := hv
      refine w_getR (pc := 83) C fl_X10_80 rfl dX10_gearedOne_83 (St10_k f8) (St10_r17 f8) ?_
      refine w_iload (pc := 86) C dX10_gearedOne_86 rfl ?_
      obtain ⟨f9, hv⟩ := hv
      refine w_iald (pc := 88) C dX10_gearedOne_88 (St10_k17 f8) (inbl (St10_l17 f8) f9) ?_
      refine w_cV0_1 (pc := 89) C cl_X10_329 lv_X10_isGear (by decide) dX10_gearedOne_89 (Nat.le_of_ble_eq_true rfl) (c := 10) rfl (St10_k f8) ((sf_X10_isGear (h := h) f8).mono (fun v h9 hp => ?_))
      obtain ⟨e1, e2⟩ := hp
      rw [e1, e2]
      refine w_if_eq (pc := 92) C (tgt := 108) dX10_gearedOne_92 (by decide) ?_
      obtain ⟨hv1, hv2⟩ := hv
      refine ⟨fun c11 => ?_, fun c11 => ?_⟩
      · have hv := hv1 c11
        refine w_iconst (pc := 108) C (v := 0) dX10_gearedOne_108 (by decide) ?_
        refine w_istore (pc := 109) C dX10_gearedOne_109 (by decide) ?_
        refine w_iinc (pc := 111) C dX10_gearedOne_111 rfl (by decide) ?_
        refine w_goto (pc := 114) C (tgt := 69) dX10_gearedOne_114 (by decide) ?_
        refine w_sub ?_ hv
        exact ⟨rfl, rfl, rfl, rfl, rfl, trivial⟩
      · have hv := hv2 c11
        refine w_aload_n (pc := 95) C dX10_gearedOne_95 rfl ?_
        refine w_iload (pc := 96) C dX10_gearedOne_96 rfl ?_
        refine w_cV0_1 (pc := 98) C cl_X10_214 lv_X10_isUnlike (by decide) dX10_gearedOne_98 (Nat.le_of_ble_eq_true rfl) (c := 10) rfl (St10_k f8) ((sf_X10_isUnlike (h := h) f8 f9).mono (fun v h9 hp => ?_))
        obtain ⟨e1, e2⟩ := hp
        rw [e1, e2]
        refine w_if_eq (pc := 101) C (tgt := 108) dX10_gearedOne_101 (by decide) ?_
        obtain ⟨hv1, hv2⟩ := hv
        refine ⟨fun c10 => ?_, fun c10 => ?_⟩
        · have hv := hv1 c10
          refine w_iconst (pc := 108) C (v := 0) dX10_gearedOne_108 (by decide) ?_
          refine w_istore (pc := 109) C dX10_gearedOne_109 (by decide) ?_
          refine w_iinc (pc := 111) C dX10_gearedOne_111 rfl (by decide) ?_
          refine w_goto (pc := 114) C (tgt := 69) dX10_gearedOne_114 (by decide) ?_
          refine w_sub ?_ hv
          exact ⟨rfl, rfl, rfl, rfl, rfl, trivial⟩
        · have hv := hv2 c10
          refine w_iconst (pc := 104) C (v := 1) dX10_gearedOne_104 (by decide) ?_
          refine w_goto (pc := 105) C (tgt := 109) dX10_gearedOne_105 (by decide) ?_
          refine w_istore (pc := 109) C dX10_gearedOne_109 (by decide) ?_
          refine w_iinc (pc := 111) C dX10_gearedOne_111 rfl (by decide) ?_
          refine w_goto (pc := 114) C (tgt := 69) dX10_gearedOne_114 (by decide) ?_
          refine w_sub ?_ hv
          exact ⟨rfl, rfl, rfl, rfl, rfl, trivial⟩
set_option maxRecDepth 20000 in
set_option maxHeartbeats 2000000 in
theorem V_X10_gearedOne_173 {X : Ctx} (C : C_X10_gearedOne X) {k n : Nat} {Q : Pq} {h : Hp} {v0 : Nat} {v6 : Int32}
    (hv : Wj X k n Q 176 [(0, .ref v0), (6, .int v6), (8, .int 0)] [] h) :
    Wj X k n Q 173 [(0, .ref v0), (6, .int v6)] [] h := by
  refine w_iconst (pc := 173) C (v := 0) dX10_gearedOne_173 (by decide) ?_
  refine w_istore (pc := 174) C dX10_gearedOne_174 (by decide) ?_
  refine w_sub ?_ hv
  exact ⟨rfl, rfl, rfl, trivial⟩
set_option maxRecDepth 20000 in
set_option maxHeartbeats 2000000 in
theorem V_X10_gearedOne_176 {X : Ctx} (C : C_X10_gearedOne X) {k n : Nat} {Q : Pq} {h : Hp} {v0 : Nat} {v6 v8 : Int32}
    (hv : ((4 ≤ v8 → Q (some (.int v6)) h) ∧
    (¬ 4 ≤ v8 → St10 h v0 ∧ ((v6 ≤ v8 → inb (55 + v8) 732 ∧ Wj X k n Q 176 [(0, .ref v0), (6, .int v6), (8, .int (v8 + Int32.ofInt 1))] [] (si h (v0 + 3) (ix (55 + v8)) (-1))) ∧
    (¬ v6 ≤ v8 → inb v8 4 ∧ inb (55 + v8) 732 ∧ Wj X k n Q 176 [(0, .ref v0), (6, .int v6), (8, .int (v8 + Int32.ofInt 1))] [] (si h (v0 + 3) (ix (55 + v8)) (gi h (v0 + 7) (ix v8)))))))) :
    Wj X k n Q 176 [(0, .ref v0), (6, .int v6), (8, .int v8)] [] h := by
  refine w_iload (pc := 176) C dX10_gearedOne_176 rfl ?_
  refine w_iconst (pc := 178) C (v := 4) dX10_gearedOne_178 (by decide) ?_
  refine w_icmp_ge (pc := 179) C (tgt := 216) dX10_gearedOne_179 (by decide) ?_
  obtain ⟨hv1, hv2⟩ := hv
  refine ⟨fun c6 => ?_, fun c6 => ?_⟩
  · have hv := hv1 c6
    refine w_iload (pc := 216) C dX10_gearedOne_216 rfl ?_
    exact w_iret (pc := 218) C dX10_gearedOne_218 hv
  · have hv := hv2 c6
    refine w_aload_n (pc := 182) C dX10_gearedOne_182 rfl ?_
    obtain ⟨f1, hv⟩ := hv
    refine w_getR (pc := 183) C fl_X10_68 rfl dX10_gearedOne_183 (St10_k f1) (St10_r7 f1) ?_
    refine w_bipush (pc := 186) C (v := 55) dX10_gearedOne_186 (by decide) ?_
    refine w_iload (pc := 188) C dX10_gearedOne_188 rfl ?_
    refine w_iadd (pc := 190) C dX10_gearedOne_190 ?_
    refine w_iload (pc := 191) C dX10_gearedOne_191 rfl ?_
    refine w_iload (pc := 193) C dX10_gearedOne_193 rfl ?_
    refine w_icmp_ge (pc := 195) C (tgt := 208) dX10_gearedOne_195 (by decide) ?_
    obtain ⟨hv1, hv2⟩ := hv
    refine ⟨fun c5 => ?_, fun c5 => ?_⟩
    · have hv := hv1 c5
      refine w_iconst (pc := 208) C (v := (-1)) dX10_gearedOne_208 (by decide) ?_
      obtain ⟨f2, hv⟩ := hv
      refine w_iast (pc := 209) C dX10_gearedOne_209 (St10_k7 f1) (inbl (St10_l7 f1) f2) ?_
      refine w_iinc (pc := 210) C dX10_gearedOne_210 rfl (by decide) ?_
      refine w_goto (pc := 213) C (tgt := 176) dX10_gearedOne_213 (by decide) ?_
      refine w_sub ?_ hv
      exact ⟨rfl, rfl, rfl, trivial⟩
    · have hv := hv2 c5
      refine w_aload_n (pc := 198) C dX10_gearedOne_198 rfl ?_
      refine w_getR (pc := 199) C fl_X10_80 rfl dX10_gearedOne_199 (St10_k f1) (St10_r17 f1) ?_
      refine w_iload (pc := 202) C dX10_gearedOne_202 rfl ?_
      obtain ⟨f3, hv⟩ := hv
      refine w_iald (pc := 204) C dX10_gearedOne_204 (St10_k17 f1) (inbl (St10_l17 f1) f3) ?_
      refine w_goto (pc := 205) C (tgt := 209) dX10_gearedOne_205 (by decide) ?_
      obtain ⟨f4, hv⟩ := hv
      refine w_iast (pc := 209) C dX10_gearedOne_209 (St10_k7 f1) (inbl (St10_l7 f1) f4) ?_
      refine w_iinc (pc := 210) C dX10_gearedOne_210 rfl (by decide) ?_
      refine w_goto (pc := 213) C (tgt := 176) dX10_gearedOne_213 (by decide) ?_
      refine w_sub ?_ hv
      exact ⟨rfl, rfl, rfl, trivial⟩
theorem dX10_ungearedOne_0 : decode cX10_ungearedOne 0 = .ok (.aload_n 0, 1) := by decide +kernel
theorem dX10_ungearedOne_1 : decode cX10_ungearedOne 1 = .ok (.getfield 68, 3) := by decide +kernel
theorem dX10_ungearedOne_4 : decode cX10_ungearedOne 4 = .ok (.bipush 54, 2) := by decide +kernel
theorem dX10_ungearedOne_6 : decode cX10_ungearedOne 6 = .ok (.iaload, 1) := by decide +kernel
theorem dX10_ungearedOne_7 : decode cX10_ungearedOne 7 = .ok (.istore_n 1, 1) := by decide +kernel
theorem dX10_ungearedOne_8 : decode cX10_ungearedOne 8 = .ok (.aload_n 0, 1) := by decide +kernel
theorem dX10_ungearedOne_9 : decode cX10_ungearedOne 9 = .ok (.getfield 68, 3) := by decide +kernel
theorem dX10_ungearedOne_12 : decode cX10_ungearedOne 12 = .ok (.bipush 54, 2) := by decide +kernel
theorem dX10_ungearedOne_14 : decode cX10_ungearedOne 14 = .ok (.iconst 0, 1) := by decide +kernel
theorem dX10_ungearedOne_15 : decode cX10_ungearedOne 15 = .ok (.iastore, 1) := by decide +kernel
theorem dX10_ungearedOne_16 : decode cX10_ungearedOne 16 = .ok (.iload_n 1, 1) := by decide +kernel
theorem dX10_ungearedOne_17 : decode cX10_ungearedOne 17 = .ok (.ifCond .ne 8, 3) := by decide +kernel
theorem dX10_ungearedOne_20 : decode cX10_ungearedOne 20 = .ok (.bipush (-2), 2) := by decide +kernel
theorem dX10_ungearedOne_22 : decode cX10_ungearedOne 22 = .ok (.goto 4, 3) := by decide +kernel
theorem dX10_ungearedOne_25 : decode cX10_ungearedOne 25 = .ok (.iload_n 1, 1) := by decide +kernel
theorem dX10_ungearedOne_26 : decode cX10_ungearedOne 26 = .ok (.ireturn, 1) := by decide +kernel
set_option maxRecDepth 20000 in
set_option maxHeartbeats 2000000 in
theorem V_X10_ungearedOne_0 {X : Ctx} (C : C_X10_ungearedOne X) {k n : Nat} {Q : Pq} {h : Hp} {v0 : Nat}
    (hv : St10 h v0 ∧ ((¬ (gi h (v0 + 3) (ix 54)) = 0 → Q (some (.int (gi h (v0 + 3) (ix 54)))) (si h (v0 + 3) (ix 54) 0)) ∧
    ((gi h (v0 + 3) (ix 54)) = 0 → Q (some (.int (-2))) (si h (v0 + 3) (ix 54) 0)))) :
    Wj X k n Q 0 [(0, .ref v0)] [] h := by
  refine w_aload_n (pc := 0) C dX10_ungearedOne_0 rfl ?_
  obtain ⟨f1, hv⟩ := hv
  refine w_getR (pc := 1) C fl_X10_68 rfl dX10_ungearedOne_1 (St10_k f1) (St10_r7 f1) ?_
  refine w_bipush (pc := 4) C (v := 54) dX10_ungearedOne_4 (by decide) ?_
  refine w_iald (pc := 6) C dX10_ungearedOne_6 (St10_k7 f1) (inbl (St10_l7 f1) (inbd (by decide))) ?_
  refine w_istore_n (pc := 7) C dX10_ungearedOne_7 (by decide) ?_
  refine w_aload_n (pc := 8) C dX10_ungearedOne_8 rfl ?_
  refine w_getR (pc := 9) C fl_X10_68 rfl dX10_ungearedOne_9 (St10_k f1) (St10_r7 f1) ?_
  refine w_bipush (pc := 12) C (v := 54) dX10_ungearedOne_12 (by decide) ?_
  refine w_iconst (pc := 14) C (v := 0) dX10_ungearedOne_14 (by decide) ?_
  refine w_iast (pc := 15) C dX10_ungearedOne_15 (St10_k7 f1) (inbl (St10_l7 f1) (inbd (by decide))) ?_
  refine w_iload_n (pc := 16) C dX10_ungearedOne_16 rfl ?_
  refine w_if_ne (pc := 17) C (tgt := 25) dX10_ungearedOne_17 (by decide) ?_
  obtain ⟨hv1, hv2⟩ := hv
  refine ⟨fun c2 => ?_, fun c2 => ?_⟩
  · have hv := hv1 c2
    refine w_iload_n (pc := 25) C dX10_ungearedOne_25 rfl ?_
    exact w_iret (pc := 26) C dX10_ungearedOne_26 hv
  · have hv := hv2 c2
    refine w_bipush (pc := 20) C (v := (-2)) dX10_ungearedOne_20 (by decide) ?_
    refine w_goto (pc := 22) C (tgt := 26) dX10_ungearedOne_22 (by decide) ?_
    exact w_iret (pc := 26) C dX10_ungearedOne_26 hv
theorem dX10_laysStep_0 : decode cX10_laysStep 0 = .ok (.aload_n 0, 1) := by decide +kernel
theorem dX10_laysStep_1 : decode cX10_laysStep 1 = .ok (.invokevirtual 339, 3) := by decide +kernel
theorem dX10_laysStep_4 : decode cX10_laysStep 4 = .ok (.lstore_n 2, 1) := by decide +kernel
theorem dX10_laysStep_5 : decode cX10_laysStep 5 = .ok (.aload_n 0, 1) := by decide +kernel
theorem dX10_laysStep_6 : decode cX10_laysStep 6 = .ok (.iload_n 1, 1) := by decide +kernel
theorem dX10_laysStep_7 : decode cX10_laysStep 7 = .ok (.invokevirtual 159, 3) := by decide +kernel
theorem dX10_laysStep_10 : decode cX10_laysStep 10 = .ok (.i2l, 1) := by decide +kernel
theorem dX10_laysStep_11 : decode cX10_laysStep 11 = .ok (.aload_n 0, 1) := by decide +kernel
theorem dX10_laysStep_12 : decode cX10_laysStep 12 = .ok (.invokevirtual 168, 3) := by decide +kernel
theorem dX10_laysStep_15 : decode cX10_laysStep 15 = .ok (.i2l, 1) := by decide +kernel
theorem dX10_laysStep_16 : decode cX10_laysStep 16 = .ok (.aload_n 0, 1) := by decide +kernel
theorem dX10_laysStep_17 : decode cX10_laysStep 17 = .ok (.invokevirtual 339, 3) := by decide +kernel
theorem dX10_laysStep_20 : decode cX10_laysStep 20 = .ok (.lmul, 1) := by decide +kernel
theorem dX10_laysStep_21 : decode cX10_laysStep 21 = .ok (.aload_n 0, 1) := by decide +kernel
theorem dX10_laysStep_22 : decode cX10_laysStep 22 = .ok (.invokevirtual 342, 3) := by decide +kernel
theorem dX10_laysStep_25 : decode cX10_laysStep 25 = .ok (.lsub, 1) := by decide +kernel
theorem dX10_laysStep_26 : decode cX10_laysStep 26 = .ok (.lmul, 1) := by decide +kernel
theorem dX10_laysStep_27 : decode cX10_laysStep 27 = .ok (.lstore 4, 2) := by decide +kernel
theorem dX10_laysStep_29 : decode cX10_laysStep 29 = .ok (.lload 4, 2) := by decide +kernel
theorem dX10_laysStep_31 : decode cX10_laysStep 31 = .ok (.lconst 0, 1) := by decide +kernel
theorem dX10_laysStep_32 : decode cX10_laysStep 32 = .ok (.lcmp, 1) := by decide +kernel
theorem dX10_laysStep_33 : decode cX10_laysStep 33 = .ok (.ifCond .ge 9, 3) := by decide +kernel
theorem dX10_laysStep_36 : decode cX10_laysStep 36 = .ok (.ldc2_w 345, 3) := by decide +kernel
theorem dX10_laysStep_39 : decode cX10_laysStep 39 = .ok (.goto 4, 3) := by decide +kernel
theorem dX10_laysStep_42 : decode cX10_laysStep 42 = .ok (.lconst 1, 1) := by decide +kernel
theorem dX10_laysStep_43 : decode cX10_laysStep 43 = .ok (.lstore 6, 2) := by decide +kernel
theorem dX10_laysStep_45 : decode cX10_laysStep 45 = .ok (.lload_n 2, 1) := by decide +kernel
theorem dX10_laysStep_46 : decode cX10_laysStep 46 = .ok (.lload 6, 2) := by decide +kernel
theorem dX10_laysStep_48 : decode cX10_laysStep 48 = .ok (.lload 4, 2) := by decide +kernel
theorem dX10_laysStep_50 : decode cX10_laysStep 50 = .ok (.lmul, 1) := by decide +kernel
theorem dX10_laysStep_51 : decode cX10_laysStep 51 = .ok (.invokestatic 14, 3) := by decide +kernel
theorem dX10_laysStep_54 : decode cX10_laysStep 54 = .ok (.lstore 8, 2) := by decide +kernel
theorem dX10_laysStep_56 : decode cX10_laysStep 56 = .ok (.aload_n 0, 1) := by decide +kernel
theorem dX10_laysStep_57 : decode cX10_laysStep 57 = .ok (.lload 6, 2) := by decide +kernel
theorem dX10_laysStep_59 : decode cX10_laysStep 59 = .ok (.lload_n 2, 1) := by decide +kernel
theorem dX10_laysStep_60 : decode cX10_laysStep 60 = .ok (.lmul, 1) := by decide +kernel
theorem dX10_laysStep_61 : decode cX10_laysStep 61 = .ok (.lload 8, 2) := by decide +kernel
theorem dX10_laysStep_63 : decode cX10_laysStep 63 = .ok (.ldiv, 1) := by decide +kernel
theorem dX10_laysStep_64 : decode cX10_laysStep 64 = .ok (.putfield 347, 3) := by decide +kernel
theorem dX10_laysStep_67 : decode cX10_laysStep 67 = .ok (.aload_n 0, 1) := by decide +kernel
theorem dX10_laysStep_68 : decode cX10_laysStep 68 = .ok (.lload 6, 2) := by decide +kernel
theorem dX10_laysStep_70 : decode cX10_laysStep 70 = .ok (.lload 4, 2) := by decide +kernel
theorem dX10_laysStep_72 : decode cX10_laysStep 72 = .ok (.lmul, 1) := by decide +kernel
theorem dX10_laysStep_73 : decode cX10_laysStep 73 = .ok (.lload 8, 2) := by decide +kernel
theorem dX10_laysStep_75 : decode cX10_laysStep 75 = .ok (.ldiv, 1) := by decide +kernel
theorem dX10_laysStep_76 : decode cX10_laysStep 76 = .ok (.putfield 350, 3) := by decide +kernel
theorem dX10_laysStep_79 : decode cX10_laysStep 79 = .ok (.return_, 1) := by decide +kernel
set_option maxRecDepth 20000 in
set_option maxHeartbeats 2000000 in
theorem V_X10_laysStep_0 {X : Ctx} (C : C_X10_laysStep X) {k n : Nat} {Q : Pq} {h : Hp} {v0 : Nat} {v1 : Int32}
    (hv : St10 h v0 ∧ (¬ gi h (v0 + 3) (ix 54) = 0 → inb (41 + gi h (v0 + 3) (ix 56)) 732) ∧ (gi h (v0 + 3) (ix 54) = 4 → inb (41 + gi h (v0 + 3) (ix 58)) 732) ∧ inb (23 + v1) 732 ∧ (¬ gi h (v0 + 3) (ix 54) = 0 → inb (41 + gi h (v0 + 3) (ix 55)) 732) ∧ (gi h (v0 + 3) (ix 54) = 4 → inb (41 + gi h (v0 + 3) (ix 57)) 732) ∧ (∀ z7 : Int64, z7 = ((Int32.toInt64 (gi h (v0 + 3) (ix (23 + v1)))) * (((Int32.toInt64 (gi h (v0 + 3) (ix 0))) * (mTL h v0)) - (mTU h v0))) →
    ((0 ≤ z7 → Wj X k n Q 43 [(0, .ref v0), (2, .long (mTL h v0)), (4, .long z7)] [.long 1] h) ∧
    (¬ 0 ≤ z7 → Wj X k n Q 43 [(0, .ref v0), (2, .long (mTL h v0)), (4, .long z7)] [.long (-1)] h)))) :
    Wj X k n Q 0 [(0, .ref v0), (1, .int v1)] [] h := by
  refine w_aload_n (pc := 0) C dX10_laysStep_0 rfl ?_
  obtain ⟨f1, hv⟩ := hv
  obtain ⟨f2, hv⟩ := hv
  obtain ⟨f3, hv⟩ := hv
  refine w_cV0_0 (pc := 1) C cl_X10_339 lv_X10_trainLower (by decide) dX10_laysStep_1 (Nat.le_of_ble_eq_true rfl) (c := 10) rfl (St10_k f1) ((sf_X10_trainLower (h := h) f1 f2 f3).mono (fun v h9 hp => ?_))
  obtain ⟨e1, e2⟩ := hp
  rw [e1, e2]
  refine w_lstore_n (pc := 4) C dX10_laysStep_4 (by decide) ?_
  refine w_aload_n (pc := 5) C dX10_laysStep_5 rfl ?_
  refine w_iload_n (pc := 6) C dX10_laysStep_6 rfl ?_
  obtain ⟨f4, hv⟩ := hv
  refine w_cV0_1 (pc := 7) C cl_X10_159 lv_X10_holes (by decide) dX10_laysStep_7 (Nat.le_of_ble_eq_true rfl) (c := 10) rfl (St10_k f1) ((sf_X10_holes (h := h) f1 f4).mono (fun v h9 hp => ?_))
  obtain ⟨e1, e2⟩ := hp
  rw [e1, e2]
  refine w_i2l (pc := 10) C dX10_laysStep_10 ?_
  refine w_aload_n (pc := 11) C dX10_laysStep_11 rfl ?_
  refine w_cV0_0 (pc := 12) C cl_X10_168 lv_X10_worm (by decide) dX10_laysStep_12 (Nat.le_of_ble_eq_true rfl) (c := 10) rfl (St10_k f1) ((sf_X10_worm (h := h) f1).mono (fun v h9 hp => ?_))
  obtain ⟨e1, e2⟩ := hp
  rw [e1, e2]
  refine w_i2l (pc := 15) C dX10_laysStep_15 ?_
  refine w_aload_n (pc := 16) C dX10_laysStep_16 rfl ?_
  refine w_cV0_0 (pc := 17) C cl_X10_339 lv_X10_trainLower (by decide) dX10_laysStep_17 (Nat.le_of_ble_eq_true rfl) (c := 10) rfl (St10_k f1) ((sf_X10_trainLower (h := h) f1 f2 f3).mono (fun v h9 hp => ?_))
  obtain ⟨e1, e2⟩ := hp
  rw [e1, e2]
  refine w_lmul (pc := 20) C dX10_laysStep_20 ?_
  refine w_aload_n (pc := 21) C dX10_laysStep_21 rfl ?_
  obtain ⟨f5, hv⟩ := hv
  obtain ⟨f6, hv⟩ := hv
  refine w_cV0_0 (pc := 22) C cl_X10_342 lv_X10_trainUpper (by decide) dX10_laysStep_22 (Nat.le_of_ble_eq_true rfl) (c := 10) rfl (St10_k f1) ((sf_X10_trainUpper (h := h) f1 f5 f6).mono (fun v h9 hp => ?_))
  obtain ⟨e1, e2⟩ := hp
  rw [e1, e2]
  refine w_lsub (pc := 25) C dX10_laysStep_25 ?_
  refine w_lmul (pc := 26) C dX10_laysStep_26 ?_
  obtain ⟨z7, ez7⟩ : ∃ z : Int64, z = ((Int32.toInt64 (gi h (v0 + 3) (ix (23 + v1)))) * (((Int32.toInt64 (gi h (v0 + 3) (ix 0))) * (mTL h v0)) - (mTU h v0))) := ⟨_, rfl⟩
  have hv := hv z7 ez7
  rw [← ez7]
  refine w_lstore (pc := 27) C dX10_laysStep_27 (by decide) ?_
  refine w_lload (pc := 29) C dX10_laysStep_29 rfl ?_
  refine w_lconst (pc := 31) C (v := 0) dX10_laysStep_31 (by decide) ?_
  refine w_lcmp_ge (pc := 32) C (tgt := 42) dX10_laysStep_32 dX10_laysStep_33 (by decide) ?_
  obtain ⟨hv1, hv2⟩ := hv
  refine ⟨fun c8 => ?_, fun c8 => ?_⟩
  · have hv := hv1 c8
    refine w_lconst (pc := 42) C (v := 1) dX10_laysStep_42 (by decide) ?_
    refine w_sub ?_ hv
    exact ⟨rfl, rfl, rfl, trivial⟩
  · have hv := hv2 c8
    refine w_ldc2 (pc := 36) C ctl_X10_345 dX10_laysStep_36 ?_
    refine w_goto (pc := 39) C (tgt := 43) dX10_laysStep_39 (by decide) ?_
    refine w_sub ?_ hv
    exact ⟨rfl, rfl, rfl, trivial⟩
set_option maxRecDepth 20000 in
set_option maxHeartbeats 2000000 in
theorem V_X10_laysStep_43 {X : Ctx} (C : C_X10_laysStep X) {k n : Nat} {Q : Pq} {h : Hp} {v0 : Nat} {v2 v4 s0 : Int64}
    (hv : -9223372036854775807 ≤ (Int64.toInt v2) ∧ 0 < (Int64.toInt (s0 * v4)) ∧ ¬ (cm v2 (s0 * v4)) = 0 ∧ St10 h v0 ∧ Q none (sl (sl h v0 29 ((s0 * v2) / (cm v2 (s0 * v4)))) v0 30 ((s0 * v4) / (cm v2 (s0 * v4))))) :
    Wj X k n Q 43 [(0, .ref v0), (2, .long v2), (4, .long v4)] [.long s0] h := by
  refine w_lstore (pc := 43) C dX10_laysStep_43 (by decide) ?_
  refine w_lload_n (pc := 45) C dX10_laysStep_45 rfl ?_
  refine w_lload (pc := 46) C dX10_laysStep_46 rfl ?_
  refine w_lload (pc := 48) C dX10_laysStep_48 rfl ?_
  refine w_lmul (pc := 50) C dX10_laysStep_50 ?_
  obtain ⟨f1, hv⟩ := hv
  obtain ⟨f2, hv⟩ := hv
  refine w_cS0_2 (pc := 51) C cl_X10_14 ls_X10_common (by decide) dX10_laysStep_51 (Nat.le_of_ble_eq_true rfl) ((sf_X10_common (h := h) f1 f2).mono (fun v h9 hp => ?_))
  obtain ⟨e1, e2⟩ := hp
  rw [e1, e2]
  refine w_lstore (pc := 54) C dX10_laysStep_54 (by decide) ?_
  refine w_aload_n (pc := 56) C dX10_laysStep_56 rfl ?_
  refine w_lload (pc := 57) C dX10_laysStep_57 rfl ?_
  refine w_lload_n (pc := 59) C dX10_laysStep_59 rfl ?_
  refine w_lmul (pc := 60) C dX10_laysStep_60 ?_
  refine w_lload (pc := 61) C dX10_laysStep_61 rfl ?_
  obtain ⟨f3, hv⟩ := hv
  refine w_ldiv (pc := 63) C dX10_laysStep_63 f3 ?_
  obtain ⟨f4, hv⟩ := hv
  refine w_putL (pc := 64) C fl_X10_347 rfl rfl dX10_laysStep_64 (St10_k f4) ?_
  refine w_aload_n (pc := 67) C dX10_laysStep_67 rfl ?_
  refine w_lload (pc := 68) C dX10_laysStep_68 rfl ?_
  refine w_lload (pc := 70) C dX10_laysStep_70 rfl ?_
  refine w_lmul (pc := 72) C dX10_laysStep_72 ?_
  refine w_lload (pc := 73) C dX10_laysStep_73 rfl ?_
  refine w_ldiv (pc := 75) C dX10_laysStep_75 f3 ?_
  refine w_putL (pc := 76) C fl_X10_350 rfl rfl dX10_laysStep_76 (St10_k f4) ?_
  exact w_vret (pc := 79) C dX10_laysStep_79 hv
theorem dX10_laysNext_0 : decode cX10_laysNext 0 = .ok (.aload_n 0, 1) := by decide +kernel
theorem dX10_laysNext_1 : decode cX10_laysNext 1 = .ok (.iload_n 1, 1) := by decide +kernel
theorem dX10_laysNext_2 : decode cX10_laysNext 2 = .ok (.invokevirtual 353, 3) := by decide +kernel
theorem dX10_laysNext_5 : decode cX10_laysNext 5 = .ok (.lload_n 2, 1) := by decide +kernel
theorem dX10_laysNext_6 : decode cX10_laysNext 6 = .ok (.aload_n 0, 1) := by decide +kernel
theorem dX10_laysNext_7 : decode cX10_laysNext 7 = .ok (.getfield 347, 3) := by decide +kernel
theorem dX10_laysNext_10 : decode cX10_laysNext 10 = .ok (.lmul, 1) := by decide +kernel
theorem dX10_laysNext_11 : decode cX10_laysNext 11 = .ok (.aload_n 0, 1) := by decide +kernel
theorem dX10_laysNext_12 : decode cX10_laysNext 12 = .ok (.getfield 350, 3) := by decide +kernel
theorem dX10_laysNext_15 : decode cX10_laysNext 15 = .ok (.invokestatic 14, 3) := by decide +kernel
theorem dX10_laysNext_18 : decode cX10_laysNext 18 = .ok (.lstore 4, 2) := by decide +kernel
theorem dX10_laysNext_20 : decode cX10_laysNext 20 = .ok (.lload_n 2, 1) := by decide +kernel
theorem dX10_laysNext_21 : decode cX10_laysNext 21 = .ok (.aload_n 0, 1) := by decide +kernel
theorem dX10_laysNext_22 : decode cX10_laysNext 22 = .ok (.getfield 347, 3) := by decide +kernel
theorem dX10_laysNext_25 : decode cX10_laysNext 25 = .ok (.lmul, 1) := by decide +kernel
theorem dX10_laysNext_26 : decode cX10_laysNext 26 = .ok (.lload 4, 2) := by decide +kernel
theorem dX10_laysNext_28 : decode cX10_laysNext 28 = .ok (.ldiv, 1) := by decide +kernel
theorem dX10_laysNext_29 : decode cX10_laysNext 29 = .ok (.lstore 6, 2) := by decide +kernel
theorem dX10_laysNext_31 : decode cX10_laysNext 31 = .ok (.aload_n 0, 1) := by decide +kernel
theorem dX10_laysNext_32 : decode cX10_laysNext 32 = .ok (.getfield 350, 3) := by decide +kernel
theorem dX10_laysNext_35 : decode cX10_laysNext 35 = .ok (.lload 4, 2) := by decide +kernel
theorem dX10_laysNext_37 : decode cX10_laysNext 37 = .ok (.ldiv, 1) := by decide +kernel
theorem dX10_laysNext_38 : decode cX10_laysNext 38 = .ok (.lstore 8, 2) := by decide +kernel
theorem dX10_laysNext_40 : decode cX10_laysNext 40 = .ok (.aload_n 0, 1) := by decide +kernel
theorem dX10_laysNext_41 : decode cX10_laysNext 41 = .ok (.getfield 71, 3) := by decide +kernel
theorem dX10_laysNext_44 : decode cX10_laysNext 44 = .ok (.iconst 1, 1) := by decide +kernel
theorem dX10_laysNext_45 : decode cX10_laysNext 45 = .ok (.laload, 1) := by decide +kernel
theorem dX10_laysNext_46 : decode cX10_laysNext 46 = .ok (.lload 8, 2) := by decide +kernel
theorem dX10_laysNext_48 : decode cX10_laysNext 48 = .ok (.invokestatic 14, 3) := by decide +kernel
theorem dX10_laysNext_51 : decode cX10_laysNext 51 = .ok (.lstore 10, 2) := by decide +kernel
theorem dX10_laysNext_53 : decode cX10_laysNext 53 = .ok (.aload_n 0, 1) := by decide +kernel
theorem dX10_laysNext_54 : decode cX10_laysNext 54 = .ok (.getfield 71, 3) := by decide +kernel
theorem dX10_laysNext_57 : decode cX10_laysNext 57 = .ok (.iconst 1, 1) := by decide +kernel
theorem dX10_laysNext_58 : decode cX10_laysNext 58 = .ok (.laload, 1) := by decide +kernel
theorem dX10_laysNext_59 : decode cX10_laysNext 59 = .ok (.lload 10, 2) := by decide +kernel
theorem dX10_laysNext_61 : decode cX10_laysNext 61 = .ok (.ldiv, 1) := by decide +kernel
theorem dX10_laysNext_62 : decode cX10_laysNext 62 = .ok (.lload 8, 2) := by decide +kernel
theorem dX10_laysNext_64 : decode cX10_laysNext 64 = .ok (.lmul, 1) := by decide +kernel
theorem dX10_laysNext_65 : decode cX10_laysNext 65 = .ok (.lstore 12, 2) := by decide +kernel
theorem dX10_laysNext_67 : decode cX10_laysNext 67 = .ok (.aload_n 0, 1) := by decide +kernel
theorem dX10_laysNext_68 : decode cX10_laysNext 68 = .ok (.getfield 71, 3) := by decide +kernel
theorem dX10_laysNext_71 : decode cX10_laysNext 71 = .ok (.iconst 0, 1) := by decide +kernel
theorem dX10_laysNext_72 : decode cX10_laysNext 72 = .ok (.laload, 1) := by decide +kernel
theorem dX10_laysNext_73 : decode cX10_laysNext 73 = .ok (.lload 8, 2) := by decide +kernel
theorem dX10_laysNext_75 : decode cX10_laysNext 75 = .ok (.lload 10, 2) := by decide +kernel
theorem dX10_laysNext_77 : decode cX10_laysNext 77 = .ok (.ldiv, 1) := by decide +kernel
theorem dX10_laysNext_78 : decode cX10_laysNext 78 = .ok (.lmul, 1) := by decide +kernel
theorem dX10_laysNext_79 : decode cX10_laysNext 79 = .ok (.lload 6, 2) := by decide +kernel
theorem dX10_laysNext_81 : decode cX10_laysNext 81 = .ok (.lload 8, 2) := by decide +kernel
theorem dX10_laysNext_83 : decode cX10_laysNext 83 = .ok (.lrem, 1) := by decide +kernel
theorem dX10_laysNext_84 : decode cX10_laysNext 84 = .ok (.aload_n 0, 1) := by decide +kernel
theorem dX10_laysNext_85 : decode cX10_laysNext 85 = .ok (.getfield 71, 3) := by decide +kernel
theorem dX10_laysNext_88 : decode cX10_laysNext 88 = .ok (.iconst 1, 1) := by decide +kernel
theorem dX10_laysNext_89 : decode cX10_laysNext 89 = .ok (.laload, 1) := by decide +kernel
theorem dX10_laysNext_90 : decode cX10_laysNext 90 = .ok (.lload 10, 2) := by decide +kernel
theorem dX10_laysNext_92 : decode cX10_laysNext 92 = .ok (.ldiv, 1) := by decide +kernel
theorem dX10_laysNext_93 : decode cX10_laysNext 93 = .ok (.lmul, 1) := by decide +kernel
theorem dX10_laysNext_94 : decode cX10_laysNext 94 = .ok (.ladd, 1) := by decide +kernel
theorem dX10_laysNext_95 : decode cX10_laysNext 95 = .ok (.lstore 14, 2) := by decide +kernel
theorem dX10_laysNext_97 : decode cX10_laysNext 97 = .ok (.lload 14, 2) := by decide +kernel
theorem dX10_laysNext_99 : decode cX10_laysNext 99 = .ok (.lload 12, 2) := by decide +kernel
theorem dX10_laysNext_101 : decode cX10_laysNext 101 = .ok (.lrem, 1) := by decide +kernel
theorem dX10_laysNext_102 : decode cX10_laysNext 102 = .ok (.lload 12, 2) := by decide +kernel
theorem dX10_laysNext_104 : decode cX10_laysNext 104 = .ok (.ladd, 1) := by decide +kernel
theorem dX10_laysNext_105 : decode cX10_laysNext 105 = .ok (.lload 12, 2) := by decide +kernel
theorem dX10_laysNext_107 : decode cX10_laysNext 107 = .ok (.lrem, 1) := by decide +kernel
theorem dX10_laysNext_108 : decode cX10_laysNext 108 = .ok (.lstore 14, 2) := by decide +kernel
theorem dX10_laysNext_110 : decode cX10_laysNext 110 = .ok (.lload 14, 2) := by decide +kernel
theorem dX10_laysNext_112 : decode cX10_laysNext 112 = .ok (.lload 12, 2) := by decide +kernel
theorem dX10_laysNext_114 : decode cX10_laysNext 114 = .ok (.invokestatic 14, 3) := by decide +kernel
theorem dX10_laysNext_117 : decode cX10_laysNext 117 = .ok (.lstore 16, 2) := by decide +kernel
theorem dX10_laysNext_119 : decode cX10_laysNext 119 = .ok (.aload_n 0, 1) := by decide +kernel
theorem dX10_laysNext_120 : decode cX10_laysNext 120 = .ok (.lload 14, 2) := by decide +kernel
theorem dX10_laysNext_122 : decode cX10_laysNext 122 = .ok (.lload 16, 2) := by decide +kernel
theorem dX10_laysNext_124 : decode cX10_laysNext 124 = .ok (.ldiv, 1) := by decide +kernel
theorem dX10_laysNext_125 : decode cX10_laysNext 125 = .ok (.putfield 356, 3) := by decide +kernel
theorem dX10_laysNext_128 : decode cX10_laysNext 128 = .ok (.aload_n 0, 1) := by decide +kernel
theorem dX10_laysNext_129 : decode cX10_laysNext 129 = .ok (.lload 12, 2) := by decide +kernel
theorem dX10_laysNext_131 : decode cX10_laysNext 131 = .ok (.lload 16, 2) := by decide +kernel
theorem dX10_laysNext_133 : decode cX10_laysNext 133 = .ok (.ldiv, 1) := by decide +kernel
theorem dX10_laysNext_134 : decode cX10_laysNext 134 = .ok (.putfield 359, 3) := by decide +kernel
theorem dX10_laysNext_137 : decode cX10_laysNext 137 = .ok (.aload_n 0, 1) := by decide +kernel
theorem dX10_laysNext_138 : decode cX10_laysNext 138 = .ok (.getfield 359, 3) := by decide +kernel
theorem dX10_laysNext_141 : decode cX10_laysNext 141 = .ok (.ldc2_w 362, 3) := by decide +kernel
theorem dX10_laysNext_144 : decode cX10_laysNext 144 = .ok (.lcmp, 1) := by decide +kernel
theorem dX10_laysNext_145 : decode cX10_laysNext 145 = .ok (.ifCond .gt 7, 3) := by decide +kernel
theorem dX10_laysNext_148 : decode cX10_laysNext 148 = .ok (.iconst 1, 1) := by decide +kernel
theorem dX10_laysNext_149 : decode cX10_laysNext 149 = .ok (.goto 4, 3) := by decide +kernel
theorem dX10_laysNext_152 : decode cX10_laysNext 152 = .ok (.iconst 0, 1) := by decide +kernel
theorem dX10_laysNext_153 : decode cX10_laysNext 153 = .ok (.ireturn, 1) := by decide +kernel
set_option maxRecDepth 20000 in
set_option maxHeartbeats 2000000 in
theorem V_X10_laysNext_0 {X : Ctx} (C : C_X10_laysNext X) {k n : Nat} {Q : Pq} {h : Hp} {v0 : Nat} {v1 : Int32} {v2 : Int64}
    (hv : St10 h v0 ∧ S_X10_laysStep (lX X) (dtX X) 0 0 [.ref v0, .int v1] h (QV fun h2 =>
    St10 h2 v0 ∧ -9223372036854775807 ≤ (Int64.toInt (v2 * (gl h2 v0 29))) ∧ 0 < (Int64.toInt (gl h2 v0 30)) ∧ ¬ (cm (v2 * (gl h2 v0 29)) (gl h2 v0 30)) = 0 ∧ (∀ z7 : Int64, z7 = ((v2 * (gl h2 v0 29)) / (cm (v2 * (gl h2 v0 29)) (gl h2 v0 30))) →
    -9223372036854775807 ≤ (Int64.toInt (gl h2 (v0 + 4) (ix 1))) ∧ 0 < (Int64.toInt ((gl h2 v0 30) / (cm (v2 * (gl h2 v0 29)) (gl h2 v0 30)))) ∧ (∀ z10 : Int64, z10 = (cm (gl h2 (v0 + 4) (ix 1)) ((gl h2 v0 30) / (cm (v2 * (gl h2 v0 29)) (gl h2 v0 30)))) →
    ¬ z10 = 0 ∧ (∀ z12 : Int64, z12 = (((gl h2 (v0 + 4) (ix 1)) / z10) * ((gl h2 v0 30) / (cm (v2 * (gl h2 v0 29)) (gl h2 v0 30)))) →
    ¬ ((gl h2 v0 30) / (cm (v2 * (gl h2 v0 29)) (gl h2 v0 30))) = 0 ∧ (∀ z14 : Int64, z14 = (((gl h2 (v0 + 4) (ix 0)) * (((gl h2 v0 30) / (cm (v2 * (gl h2 v0 29)) (gl h2 v0 30))) / z10)) + ((z7 % ((gl h2 v0 30) / (cm (v2 * (gl h2 v0 29)) (gl h2 v0 30)))) * ((gl h2 (v0 + 4) (ix 1)) / z10))) →
    ¬ z12 = 0 ∧ -9223372036854775807 ≤ (Int64.toInt (((z14 % z12) + z12) % z12)) ∧ 0 < (Int64.toInt z12) ∧ ¬ (cm (((z14 % z12) + z12) % z12) z12) = 0 ∧ ((1000000000 < (gl (sl (sl h2 v0 31 ((((z14 % z12) + z12) % z12) / (cm (((z14 % z12) + z12) % z12) z12))) v0 32 (z12 / (cm (((z14 % z12) + z12) % z12) z12))) v0 32) → Q (some (.int 0)) (sl (sl h2 v0 31 ((((z14 % z12) + z12) % z12) / (cm (((z14 % z12) + z12) % z12) z12))) v0 32 (z12 / (cm (((z14 % z12) + z12) % z12) z12)))) ∧
    (¬ 1000000000 < (gl (sl (sl h2 v0 31 ((((z14 % z12) + z12) % z12) / (cm (((z14 % z12) + z12) % z12) z12))) v0 32 (z12 / (cm (((z14 % z12) + z12) % z12) z12))) v0 32) → Q (some (.int 1)) (sl (sl h2 v0 31 ((((z14 % z12) + z12) % z12) / (cm (((z14 % z12) + z12) % z12) z12))) v0 32 (z12 / (cm (((z14 % z12) + z12) % z12) z12))))))))))) :
    Wj X k n Q 0 [(0, .ref v0), (1, .int v1), (2, .long v2)] [] h := by
  refine w_aload_n (pc := 0) C dX10_laysNext_0 rfl ?_
  refine w_iload_n (pc := 1) C dX10_laysNext_1 rfl ?_
  obtain ⟨f1, hv⟩ := hv
  refine w_cV0_1 (pc := 2) C cl_X10_353 lv_X10_laysStep (by decide) dX10_laysNext_2 (Nat.le_of_ble_eq_true rfl) (c := 10) rfl (St10_k f1) (hv.mono (fun v h2 hp => ?_))
  obtain ⟨rfl, hv⟩ := hp
  refine w_lload_n (pc := 5) C dX10_laysNext_5 rfl ?_
  refine w_aload_n (pc := 6) C dX10_laysNext_6 rfl ?_
  obtain ⟨f3, hv⟩ := hv
  refine w_getL (pc := 7) C fl_X10_347 rfl dX10_laysNext_7 (St10_k f3) ?_
  refine w_lmul (pc := 10) C dX10_laysNext_10 ?_
  refine w_aload_n (pc := 11) C dX10_laysNext_11 rfl ?_
  refine w_getL (pc := 12) C fl_X10_350 rfl dX10_laysNext_12 (St10_k f3) ?_
  obtain ⟨f4, hv⟩ := hv
  obtain ⟨f5, hv⟩ := hv
  refine w_cS0_2 (pc := 15) C cl_X10_14 ls_X10_common (by decide) dX10_laysNext_15 (Nat.le_of_ble_eq_true rfl) ((sf_X10_common (h := h2) f4 f5).mono (fun v h9 hp => ?_))
  obtain ⟨e1, e2⟩ := hp
  rw [e1, e2]
  refine w_lstore (pc := 18) C dX10_laysNext_18 (by decide) ?_
  refine w_lload_n (pc := 20) C dX10_laysNext_20 rfl ?_
  refine w_aload_n (pc := 21) C dX10_laysNext_21 rfl ?_
  refine w_getL (pc := 22) C fl_X10_347 rfl dX10_laysNext_22 (St10_k f3) ?_
  refine w_lmul (pc := 25) C dX10_laysNext_25 ?_
  refine w_lload (pc := 26) C dX10_laysNext_26 rfl ?_
  obtain ⟨f6, hv⟩ := hv
  refine w_ldiv (pc := 28) C dX10_laysNext_28 f6 ?_
  obtain ⟨z7, ez7⟩ : ∃ z : Int64, z = ((v2 * (gl h2 v0 29)) / (cm (v2 * (gl h2 v0 29)) (gl h2 v0 30))) := ⟨_, rfl⟩
  have hv := hv z7 ez7
  rw [← ez7]
  refine w_lstore (pc := 29) C dX10_laysNext_29 (by decide) ?_
  refine w_aload_n (pc := 31) C dX10_laysNext_31 rfl ?_
  refine w_getL (pc := 32) C fl_X10_350 rfl dX10_laysNext_32 (St10_k f3) ?_
  refine w_lload (pc := 35) C dX10_laysNext_35 rfl ?_
  refine w_ldiv (pc := 37) C dX10_laysNext_37 f6 ?_
  refine w_lstore (pc := 38) C dX10_laysNext_38 (by decide) ?_
  refine w_aload_n (pc := 40) C dX10_laysNext_40 rfl ?_
  refine w_getR (pc := 41) C fl_X10_71 rfl dX10_laysNext_41 (St10_k f3) (St10_r8 f3) ?_
  refine w_iconst (pc := 44) C (v := 1) dX10_laysNext_44 (by decide) ?_
  refine w_lald (pc := 45) C dX10_laysNext_45 (St10_k8 f3) (inbl (St10_l8 f3) (inbd (by decide))) ?_
  refine w_lload (pc := 46) C dX10_laysNext_46 rfl ?_
  obtain ⟨f8, hv⟩ := hv
  obtain ⟨f9, hv⟩ := hv
  refine w_cS0_2 (pc := 48) C cl_X10_14 ls_X10_common (by decide) dX10_laysNext_48 (Nat.le_of_ble_eq_true rfl) ((sf_X10_common (h := h2) f8 f9).mono (fun v h9 hp => ?_))
  obtain ⟨e1, e2⟩ := hp
  rw [e1, e2]
  obtain ⟨z10, ez10⟩ : ∃ z : Int64, z = (cm (gl h2 (v0 + 4) (ix 1)) ((gl h2 v0 30) / (cm (v2 * (gl h2 v0 29)) (gl h2 v0 30)))) := ⟨_, rfl⟩
  have hv := hv z10 ez10
  rw [← ez10]
  refine w_lstore (pc := 51) C dX10_laysNext_51 (by decide) ?_
  refine w_aload_n (pc := 53) C dX10_laysNext_53 rfl ?_
  refine w_getR (pc := 54) C fl_X10_71 rfl dX10_laysNext_54 (St10_k f3) (St10_r8 f3) ?_
  refine w_iconst (pc := 57) C (v := 1) dX10_laysNext_57 (by decide) ?_
  refine w_lald (pc := 58) C dX10_laysNext_58 (St10_k8 f3) (inbl (St10_l8 f3) (inbd (by decide))) ?_
  refine w_lload (pc := 59) C dX10_laysNext_59 rfl ?_
  obtain ⟨f11, hv⟩ := hv
  refine w_ldiv (pc := 61) C dX10_laysNext_61 f11 ?_
  refine w_lload (pc := 62) C dX10_laysNext_62 rfl ?_
  refine w_lmul (pc := 64) C dX10_laysNext_64 ?_
  obtain ⟨z12, ez12⟩ : ∃ z : Int64, z = (((gl h2 (v0 + 4) (ix 1)) / z10) * ((gl h2 v0 30) / (cm (v2 * (gl h2 v0 29)) (gl h2 v0 30)))) := ⟨_, rfl⟩
  have hv := hv z12 ez12
  rw [← ez12]
  refine w_lstore (pc := 65) C dX10_laysNext_65 (by decide) ?_
  refine w_aload_n (pc := 67) C dX10_laysNext_67 rfl ?_
  refine w_getR (pc := 68) C fl_X10_71 rfl dX10_laysNext_68 (St10_k f3) (St10_r8 f3) ?_
  refine w_iconst (pc := 71) C (v := 0) dX10_laysNext_71 (by decide) ?_
  refine w_lald (pc := 72) C dX10_laysNext_72 (St10_k8 f3) (inbl (St10_l8 f3) (inbd (by decide))) ?_
  refine w_lload (pc := 73) C dX10_laysNext_73 rfl ?_
  refine w_lload (pc := 75) C dX10_laysNext_75 rfl ?_
  refine w_ldiv (pc := 77) C dX10_laysNext_77 f11 ?_
  refine w_lmul (pc := 78) C dX10_laysNext_78 ?_
  refine w_lload (pc := 79) C dX10_laysNext_79 rfl ?_
  refine w_lload (pc := 81) C dX10_laysNext_81 rfl ?_
  obtain ⟨f13, hv⟩ := hv
  refine w_lrem (pc := 83) C dX10_laysNext_83 f13 ?_
  refine w_aload_n (pc := 84) C dX10_laysNext_84 rfl ?_
  refine w_getR (pc := 85) C fl_X10_71 rfl dX10_laysNext_85 (St10_k f3) (St10_r8 f3) ?_
  refine w_iconst (pc := 88) C (v := 1) dX10_laysNext_88 (by decide) ?_
  refine w_lald (pc := 89) C dX10_laysNext_89 (St10_k8 f3) (inbl (St10_l8 f3) (inbd (by decide))) ?_
  refine w_lload (pc := 90) C dX10_laysNext_90 rfl ?_
  refine w_ldiv (pc := 92) C dX10_laysNext_92 f11 ?_
  refine w_lmul (pc := 93) C dX10_laysNext_93 ?_
  refine w_ladd (pc := 94) C dX10_laysNext_94 ?_
  obtain ⟨z14, ez14⟩ : ∃ z : Int64, z = (((gl h2 (v0 + 4) (ix 0)) * (((gl h2 v0 30) / (cm (v2 * (gl h2 v0 29)) (gl h2 v0 30))) / z10)) + ((z7 % ((gl h2 v0 30) / (cm (v2 * (gl h2 v0 29)) (gl h2 v0 30)))) * ((gl h2 (v0 + 4) (ix 1)) / z10))) := ⟨_, rfl⟩
  have hv := hv z14 ez14
  rw [← ez14]
  refine w_lstore (pc := 95) C dX10_laysNext_95 (by decide) ?_
  refine w_lload (pc := 97) C dX10_laysNext_97 rfl ?_
  refine w_lload (pc := 99) C dX10_laysNext_99 rfl ?_
  obtain ⟨f15, hv⟩ := hv
  refine w_lrem (pc := 101) C dX10_laysNext_101 f15 ?_
  refine w_lload (pc := 102) C dX10_laysNext_102 rfl ?_
  refine w_ladd (pc := 104) C dX10_laysNext_104 ?_
  refine w_lload (pc := 105) C dX10_laysNext_105 rfl ?_
  refine w_lrem (pc := 107) C dX10_laysNext_107 f15 ?_
  refine w_lstore (pc := 108) C dX10_laysNext_108 (by decide) ?_
  refine w_lload (pc := 110) C dX10_laysNext_110 rfl ?_
  refine w_lload (pc := 112) C dX10_laysNext_112 rfl ?_
  obtain ⟨f16, hv⟩ := hv
  obtain ⟨f17, hv⟩ := hv
  refine w_cS0_2 (pc := 114) C cl_X10_14 ls_X10_common (by decide) dX10_laysNext_114 (Nat.le_of_ble_eq_true rfl) ((sf_X10_common (h := h2) f16 f17).mono (fun v h9 hp => ?_))
  obtain ⟨e1, e2⟩ := hp
  rw [e1, e2]
  refine w_lstore (pc := 117) C dX10_laysNext_117 (by decide) ?_
  refine w_aload_n (pc := 119) C dX10_laysNext_119 rfl ?_
  refine w_lload (pc := 120) C dX10_laysNext_120 rfl ?_
  refine w_lload (pc := 122) C dX10_laysNext_122 rfl ?_
  obtain ⟨f18, hv⟩ := hv
  refine w_ldiv (pc := 124) C dX10_laysNext_124 f18 ?_
  refine w_putL (pc := 125) C fl_X10_356 rfl rfl dX10_laysNext_125 (St10_k f3) ?_
  refine w_aload_n (pc := 128) C dX10_laysNext_128 rfl ?_
  refine w_lload (pc := 129) C dX10_laysNext_129 rfl ?_
  refine w_lload (pc := 131) C dX10_laysNext_131 rfl ?_
  refine w_ldiv (pc := 133) C dX10_laysNext_133 f18 ?_
  refine w_putL (pc := 134) C fl_X10_359 rfl rfl dX10_laysNext_134 (St10_k f3) ?_
  refine w_aload_n (pc := 137) C dX10_laysNext_137 rfl ?_
  refine w_getL (pc := 138) C fl_X10_359 rfl dX10_laysNext_138 (St10_k f3) ?_
  refine w_ldc2 (pc := 141) C ctl_X10_362 dX10_laysNext_141 ?_
  refine w_lcmp_gt (pc := 144) C (tgt := 152) dX10_laysNext_144 dX10_laysNext_145 (by decide) ?_
  obtain ⟨hv1, hv2⟩ := hv
  refine ⟨fun c19 => ?_, fun c19 => ?_⟩
  · have hv := hv1 c19
    refine w_iconst (pc := 152) C (v := 0) dX10_laysNext_152 (by decide) ?_
    exact w_zret (pc := 153) C dX10_laysNext_153 (by decide) hv
  · have hv := hv2 c19
    refine w_iconst (pc := 148) C (v := 1) dX10_laysNext_148 (by decide) ?_
    refine w_goto (pc := 149) C (tgt := 153) dX10_laysNext_149 (by decide) ?_
    exact w_zret (pc := 153) C dX10_laysNext_153 (by decide) hv
theorem dX10_goesBy_0 : decode cX10_goesBy 0 = .ok (.aload_n 0, 1) := by decide +kernel
theorem dX10_goesBy_1 : decode cX10_goesBy 1 = .ok (.iload_n 1, 1) := by decide +kernel
theorem dX10_goesBy_2 : decode cX10_goesBy 2 = .ok (.lload_n 2, 1) := by decide +kernel
theorem dX10_goesBy_3 : decode cX10_goesBy 3 = .ok (.invokevirtual 364, 3) := by decide +kernel
theorem dX10_goesBy_6 : decode cX10_goesBy 6 = .ok (.ifCond .ne 6, 3) := by decide +kernel
theorem dX10_goesBy_9 : decode cX10_goesBy 9 = .ok (.bipush (-4), 2) := by decide +kernel
theorem dX10_goesBy_11 : decode cX10_goesBy 11 = .ok (.ireturn, 1) := by decide +kernel
theorem dX10_goesBy_12 : decode cX10_goesBy 12 = .ok (.aload_n 0, 1) := by decide +kernel
theorem dX10_goesBy_13 : decode cX10_goesBy 13 = .ok (.getfield 71, 3) := by decide +kernel
theorem dX10_goesBy_16 : decode cX10_goesBy 16 = .ok (.iconst 0, 1) := by decide +kernel
theorem dX10_goesBy_17 : decode cX10_goesBy 17 = .ok (.aload_n 0, 1) := by decide +kernel
theorem dX10_goesBy_18 : decode cX10_goesBy 18 = .ok (.getfield 356, 3) := by decide +kernel
theorem dX10_goesBy_21 : decode cX10_goesBy 21 = .ok (.lastore, 1) := by decide +kernel
theorem dX10_goesBy_22 : decode cX10_goesBy 22 = .ok (.aload_n 0, 1) := by decide +kernel
theorem dX10_goesBy_23 : decode cX10_goesBy 23 = .ok (.getfield 71, 3) := by decide +kernel
theorem dX10_goesBy_26 : decode cX10_goesBy 26 = .ok (.iconst 1, 1) := by decide +kernel
theorem dX10_goesBy_27 : decode cX10_goesBy 27 = .ok (.aload_n 0, 1) := by decide +kernel
theorem dX10_goesBy_28 : decode cX10_goesBy 28 = .ok (.getfield 359, 3) := by decide +kernel
theorem dX10_goesBy_31 : decode cX10_goesBy 31 = .ok (.lastore, 1) := by decide +kernel
theorem dX10_goesBy_32 : decode cX10_goesBy 32 = .ok (.iconst 0, 1) := by decide +kernel
theorem dX10_goesBy_33 : decode cX10_goesBy 33 = .ok (.ireturn, 1) := by decide +kernel
set_option maxRecDepth 20000 in
set_option maxHeartbeats 2000000 in
theorem V_X10_goesBy_0 {X : Ctx} (C : C_X10_goesBy X) {k n : Nat} {Q : Pq} {h : Hp} {v0 : Nat} {v1 : Int32} {v2 : Int64}
    (hv : St10 h v0 ∧ S_X10_laysNext (lX X) (dtX X) 0 0 [.ref v0, .int v1, .long v2] h (QI fun x3 h2 =>
    ((¬ x3 = 0 → St10 h2 v0 ∧ Q (some (.int 0)) (sl (sl h2 (v0 + 4) (ix 0) (gl h2 v0 31)) (v0 + 4) (ix 1) (gl (sl h2 (v0 + 4) (ix 0) (gl h2 v0 31)) v0 32))) ∧
    (x3 = 0 → Q (some (.int (-4))) h2)))) :
    Wj X k n Q 0 [(0, .ref v0), (1, .int v1), (2, .long v2)] [] h := by
  refine w_aload_n (pc := 0) C dX10_goesBy_0 rfl ?_
  refine w_iload_n (pc := 1) C dX10_goesBy_1 rfl ?_
  refine w_lload_n (pc := 2) C dX10_goesBy_2 rfl ?_
  obtain ⟨f1, hv⟩ := hv
  refine w_cV0_2 (pc := 3) C cl_X10_364 lv_X10_laysNext (by decide) dX10_goesBy_3 (Nat.le_of_ble_eq_true rfl) (c := 10) rfl (St10_k f1) (hv.mono (fun v h2 hp => ?_))
  obtain ⟨x3, rfl, hv⟩ := hp
  refine w_if_ne (pc := 6) C (tgt := 12) dX10_goesBy_6 (by decide) ?_
  obtain ⟨hv1, hv2⟩ := hv
  refine ⟨fun c5 => ?_, fun c5 => ?_⟩
  · have hv := hv1 c5
    refine w_aload_n (pc := 12) C dX10_goesBy_12 rfl ?_
    obtain ⟨f4, hv⟩ := hv
    refine w_getR (pc := 13) C fl_X10_71 rfl dX10_goesBy_13 (St10_k f4) (St10_r8 f4) ?_
    refine w_iconst (pc := 16) C (v := 0) dX10_goesBy_16 (by decide) ?_
    refine w_aload_n (pc := 17) C dX10_goesBy_17 rfl ?_
    refine w_getL (pc := 18) C fl_X10_356 rfl dX10_goesBy_18 (St10_k f4) ?_
    refine w_last (pc := 21) C dX10_goesBy_21 (St10_k8 f4) (inbl (St10_l8 f4) (inbd (by decide))) ?_
    refine w_aload_n (pc := 22) C dX10_goesBy_22 rfl ?_
    refine w_getR (pc := 23) C fl_X10_71 rfl dX10_goesBy_23 (St10_k f4) (St10_r8 f4) ?_
    refine w_iconst (pc := 26) C (v := 1) dX10_goesBy_26 (by decide) ?_
    refine w_aload_n (pc := 27) C dX10_goesBy_27 rfl ?_
    refine w_getL (pc := 28) C fl_X10_359 rfl dX10_goesBy_28 (St10_k f4) ?_
    refine w_last (pc := 31) C dX10_goesBy_31 (St10_k8 f4) (inbl (St10_l8 f4) (inbd (by decide))) ?_
    refine w_iconst (pc := 32) C (v := 0) dX10_goesBy_32 (by decide) ?_
    exact w_iret (pc := 33) C dX10_goesBy_33 hv
  · have hv := hv2 c5
    refine w_bipush (pc := 9) C (v := (-4)) dX10_goesBy_9 (by decide) ?_
    exact w_iret (pc := 11) C dX10_goesBy_11 hv
theorem dX10_turnsOne_0 : decode cX10_turnsOne 0 = .ok (.aload_n 0, 1) := by decide +kernel
theorem dX10_turnsOne_1 : decode cX10_turnsOne 1 = .ok (.getfield 68, 3) := by decide +kernel
theorem dX10_turnsOne_4 : decode cX10_turnsOne 4 = .ok (.bipush 53, 2) := by decide +kernel
theorem dX10_turnsOne_6 : decode cX10_turnsOne 6 = .ok (.iaload, 1) := by decide +kernel
theorem dX10_turnsOne_7 : decode cX10_turnsOne 7 = .ok (.istore 4, 2) := by decide +kernel
theorem dX10_turnsOne_9 : decode cX10_turnsOne 9 = .ok (.iload_n 1, 1) := by decide +kernel
theorem dX10_turnsOne_10 : decode cX10_turnsOne 10 = .ok (.i2l, 1) := by decide +kernel
theorem dX10_turnsOne_11 : decode cX10_turnsOne 11 = .ok (.lconst 0, 1) := by decide +kernel
theorem dX10_turnsOne_12 : decode cX10_turnsOne 12 = .ok (.ldc2_w 368, 3) := by decide +kernel
theorem dX10_turnsOne_15 : decode cX10_turnsOne 15 = .ok (.invokestatic 29, 3) := by decide +kernel
theorem dX10_turnsOne_18 : decode cX10_turnsOne 18 = .ok (.ifCond .eq 31, 3) := by decide +kernel
theorem dX10_turnsOne_21 : decode cX10_turnsOne 21 = .ok (.iload_n 2, 1) := by decide +kernel
theorem dX10_turnsOne_22 : decode cX10_turnsOne 22 = .ok (.i2l, 1) := by decide +kernel
theorem dX10_turnsOne_23 : decode cX10_turnsOne 23 = .ok (.lconst 0, 1) := by decide +kernel
theorem dX10_turnsOne_24 : decode cX10_turnsOne 24 = .ok (.aload_n 0, 1) := by decide +kernel
theorem dX10_turnsOne_25 : decode cX10_turnsOne 25 = .ok (.iload 4, 2) := by decide +kernel
theorem dX10_turnsOne_27 : decode cX10_turnsOne 27 = .ok (.invokevirtual 159, 3) := by decide +kernel
theorem dX10_turnsOne_30 : decode cX10_turnsOne 30 = .ok (.iconst 1, 1) := by decide +kernel
theorem dX10_turnsOne_31 : decode cX10_turnsOne 31 = .ok (.isub, 1) := by decide +kernel
theorem dX10_turnsOne_32 : decode cX10_turnsOne 32 = .ok (.i2l, 1) := by decide +kernel
theorem dX10_turnsOne_33 : decode cX10_turnsOne 33 = .ok (.invokestatic 29, 3) := by decide +kernel
theorem dX10_turnsOne_36 : decode cX10_turnsOne 36 = .ok (.ifCond .eq 13, 3) := by decide +kernel
theorem dX10_turnsOne_39 : decode cX10_turnsOne 39 = .ok (.iload_n 3, 1) := by decide +kernel
theorem dX10_turnsOne_40 : decode cX10_turnsOne 40 = .ok (.i2l, 1) := by decide +kernel
theorem dX10_turnsOne_41 : decode cX10_turnsOne 41 = .ok (.lconst 0, 1) := by decide +kernel
theorem dX10_turnsOne_42 : decode cX10_turnsOne 42 = .ok (.lconst 1, 1) := by decide +kernel
theorem dX10_turnsOne_43 : decode cX10_turnsOne 43 = .ok (.invokestatic 29, 3) := by decide +kernel
theorem dX10_turnsOne_46 : decode cX10_turnsOne 46 = .ok (.ifCond .ne 5, 3) := by decide +kernel
theorem dX10_turnsOne_49 : decode cX10_turnsOne 49 = .ok (.iconst (-1), 1) := by decide +kernel
theorem dX10_turnsOne_50 : decode cX10_turnsOne 50 = .ok (.ireturn, 1) := by decide +kernel
theorem dX10_turnsOne_51 : decode cX10_turnsOne 51 = .ok (.iload_n 1, 1) := by decide +kernel
theorem dX10_turnsOne_52 : decode cX10_turnsOne 52 = .ok (.i2l, 1) := by decide +kernel
theorem dX10_turnsOne_53 : decode cX10_turnsOne 53 = .ok (.aload_n 0, 1) := by decide +kernel
theorem dX10_turnsOne_54 : decode cX10_turnsOne 54 = .ok (.iload 4, 2) := by decide +kernel
theorem dX10_turnsOne_56 : decode cX10_turnsOne 56 = .ok (.invokevirtual 159, 3) := by decide +kernel
theorem dX10_turnsOne_59 : decode cX10_turnsOne 59 = .ok (.i2l, 1) := by decide +kernel
theorem dX10_turnsOne_60 : decode cX10_turnsOne 60 = .ok (.lmul, 1) := by decide +kernel
theorem dX10_turnsOne_61 : decode cX10_turnsOne 61 = .ok (.iload_n 2, 1) := by decide +kernel
theorem dX10_turnsOne_62 : decode cX10_turnsOne 62 = .ok (.i2l, 1) := by decide +kernel
theorem dX10_turnsOne_63 : decode cX10_turnsOne 63 = .ok (.ladd, 1) := by decide +kernel
theorem dX10_turnsOne_64 : decode cX10_turnsOne 64 = .ok (.lstore 5, 2) := by decide +kernel
theorem dX10_turnsOne_66 : decode cX10_turnsOne 66 = .ok (.aload_n 0, 1) := by decide +kernel
theorem dX10_turnsOne_67 : decode cX10_turnsOne 67 = .ok (.iload 4, 2) := by decide +kernel
theorem dX10_turnsOne_69 : decode cX10_turnsOne 69 = .ok (.iload_n 3, 1) := by decide +kernel
theorem dX10_turnsOne_70 : decode cX10_turnsOne 70 = .ok (.iconst 1, 1) := by decide +kernel
theorem dX10_turnsOne_71 : decode cX10_turnsOne 71 = .ok (.if_icmp .ne 9, 3) := by decide +kernel
theorem dX10_turnsOne_74 : decode cX10_turnsOne 74 = .ok (.lload 5, 2) := by decide +kernel
theorem dX10_turnsOne_76 : decode cX10_turnsOne 76 = .ok (.lneg, 1) := by decide +kernel
theorem dX10_turnsOne_77 : decode cX10_turnsOne 77 = .ok (.goto 5, 3) := by decide +kernel
theorem dX10_turnsOne_80 : decode cX10_turnsOne 80 = .ok (.lload 5, 2) := by decide +kernel
theorem dX10_turnsOne_82 : decode cX10_turnsOne 82 = .ok (.invokevirtual 370, 3) := by decide +kernel
theorem dX10_turnsOne_85 : decode cX10_turnsOne 85 = .ok (.ireturn, 1) := by decide +kernel
set_option maxRecDepth 20000 in
set_option maxHeartbeats 2000000 in
theorem V_X10_turnsOne_0 {X : Ctx} (C : C_X10_turnsOne X) {k n : Nat} {Q : Pq} {h : Hp} {v0 : Nat} {v1 v2 v3 : Int32}
    (hv : St10 h v0 ∧ (((btL (Int32.toInt64 v1) 0 99) = 0 → Q (some (.int (-1))) h) ∧
    (¬ (btL (Int32.toInt64 v1) 0 99) = 0 → inb (23 + (gi h (v0 + 3) (ix 53))) 732 ∧ (((btL (Int32.toInt64 v2) 0 (Int32.toInt64 ((gi h (v0 + 3) (ix (23 + (gi h (v0 + 3) (ix 53))))) - 1))) = 0 → Q (some (.int (-1))) h) ∧
    (¬ (btL (Int32.toInt64 v2) 0 (Int32.toInt64 ((gi h (v0 + 3) (ix (23 + (gi h (v0 + 3) (ix 53))))) - 1))) = 0 → ((¬ (btL (Int32.toInt64 v3) 0 1) = 0 → (∀ z3 : Int64, z3 = (((Int32.toInt64 v1) * (Int32.toInt64 (gi h (v0 + 3) (ix (23 + (gi h (v0 + 3) (ix 53))))))) + (Int32.toInt64 v2)) →
    ((¬ v3 = 1 → S_X10_goesBy (lX X) (dtX X) 0 0 [.ref v0, .int (gi h (v0 + 3) (ix 53)), .long z3] h (QI fun x5 h4 =>
    Q (some (.int x5)) h4)) ∧
    (v3 = 1 → S_X10_goesBy (lX X) (dtX X) 0 0 [.ref v0, .int (gi h (v0 + 3) (ix 53)), .long (-z3)] h (QI fun x7 h6 =>
    Q (some (.int x7)) h6))))) ∧
    ((btL (Int32.toInt64 v3) 0 1) = 0 → Q (some (.int (-1))) h))))))) :
    Wj X k n Q 0 [(0, .ref v0), (1, .int v1), (2, .int v2), (3, .int v3)] [] h := by
  refine w_aload_n (pc := 0) C dX10_turnsOne_0 rfl ?_
  obtain ⟨f1, hv⟩ := hv
  refine w_getR (pc := 1) C fl_X10_68 rfl dX10_turnsOne_1 (St10_k f1) (St10_r7 f1) ?_
  refine w_bipush (pc := 4) C (v := 53) dX10_turnsOne_4 (by decide) ?_
  refine w_iald (pc := 6) C dX10_turnsOne_6 (St10_k7 f1) (inbl (St10_l7 f1) (inbd (by decide))) ?_
  refine w_istore (pc := 7) C dX10_turnsOne_7 (by decide) ?_
  refine w_iload_n (pc := 9) C dX10_turnsOne_9 rfl ?_
  refine w_i2l (pc := 10) C dX10_turnsOne_10 ?_
  refine w_lconst (pc := 11) C (v := 0) dX10_turnsOne_11 (by decide) ?_
  refine w_ldc2 (pc := 12) C ctl_X10_368 dX10_turnsOne_12 ?_
  refine w_cS0_3 (pc := 15) C cl_X10_29 ls_X10_in (by decide) dX10_turnsOne_15 (Nat.le_of_ble_eq_true rfl) ((sf_X10_in (h := h) ).mono (fun v h9 hp => ?_))
  obtain ⟨e1, e2⟩ := hp
  rw [e1, e2]
  refine w_if_eq (pc := 18) C (tgt := 49) dX10_turnsOne_18 (by decide) ?_
  obtain ⟨hv1, hv2⟩ := hv
  refine ⟨fun c11 => ?_, fun c11 => ?_⟩
  · have hv := hv1 c11
    refine w_iconst (pc := 49) C (v := (-1)) dX10_turnsOne_49 (by decide) ?_
    exact w_iret (pc := 50) C dX10_turnsOne_50 hv
  · have hv := hv2 c11
    refine w_iload_n (pc := 21) C dX10_turnsOne_21 rfl ?_
    refine w_i2l (pc := 22) C dX10_turnsOne_22 ?_
    refine w_lconst (pc := 23) C (v := 0) dX10_turnsOne_23 (by decide) ?_
    refine w_aload_n (pc := 24) C dX10_turnsOne_24 rfl ?_
    refine w_iload (pc := 25) C dX10_turnsOne_25 rfl ?_
    obtain ⟨f2, hv⟩ := hv
    refine w_cV0_1 (pc := 27) C cl_X10_159 lv_X10_holes (by decide) dX10_turnsOne_27 (Nat.le_of_ble_eq_true rfl) (c := 10) rfl (St10_k f1) ((sf_X10_holes (h := h) f1 f2).mono (fun v h9 hp => ?_))
    obtain ⟨e1, e2⟩ := hp
    rw [e1, e2]
    refine w_iconst (pc := 30) C (v := 1) dX10_turnsOne_30 (by decide) ?_
    refine w_isub (pc := 31) C dX10_turnsOne_31 ?_
    refine w_i2l (pc := 32) C dX10_turnsOne_32 ?_
    refine w_cS0_3 (pc := 33) C cl_X10_29 ls_X10_in (by decide) dX10_turnsOne_33 (Nat.le_of_ble_eq_true rfl) ((sf_X10_in (h := h) ).mono (fun v h9 hp => ?_))
    obtain ⟨e1, e2⟩ := hp
    rw [e1, e2]
    refine w_if_eq (pc := 36) C (tgt := 49) dX10_turnsOne_36 (by decide) ?_
    obtain ⟨hv1, hv2⟩ := hv
    refine ⟨fun c10 => ?_, fun c10 => ?_⟩
    · have hv := hv1 c10
      refine w_iconst (pc := 49) C (v := (-1)) dX10_turnsOne_49 (by decide) ?_
      exact w_iret (pc := 50) C dX10_turnsOne_50 hv
    · have hv := hv2 c10
      refine w_iload_n (pc := 39) C dX10_turnsOne_39 rfl ?_
      refine w_i2l (pc := 40) C dX10_turnsOne_40 ?_
      refine w_lconst (pc := 41) C (v := 0) dX10_turnsOne_41 (by decide) ?_
      refine w_lconst (pc := 42) C (v := 1) dX10_turnsOne_42 (by decide) ?_
      refine w_cS0_3 (pc := 43) C cl_X10_29 ls_X10_in (by decide) dX10_turnsOne_43 (Nat.le_of_ble_eq_true rfl) ((sf_X10_in (h := h) ).mono (fun v h9 hp => ?_))
      obtain ⟨e1, e2⟩ := hp
      rw [e1, e2]
      refine w_if_ne (pc := 46) C (tgt := 51) dX10_turnsOne_46 (by decide) ?_
      obtain ⟨hv1, hv2⟩ := hv
      refine ⟨fun c9 => ?_, fun c9 => ?_⟩
      · have hv := hv1 c9
        refine w_iload_n (pc := 51) C dX10_turnsOne_51 rfl ?_
        refine w_i2l (pc := 52) C dX10_turnsOne_52 ?_
        refine w_aload_n (pc := 53) C dX10_turnsOne_53 rfl ?_
        refine w_iload (pc := 54) C dX10_turnsOne_54 rfl ?_
        refine w_cV0_1 (pc := 56) C cl_X10_159 lv_X10_holes (by decide) dX10_turnsOne_56 (Nat.le_of_ble_eq_true rfl) (c := 10) rfl (St10_k f1) ((sf_X10_holes (h := h) f1 f2).mono (fun v h9 hp => ?_))
        obtain ⟨e1, e2⟩ := hp
        rw [e1, e2]
        refine w_i2l (pc := 59) C dX10_turnsOne_59 ?_
        refine w_lmul (pc := 60) C dX10_turnsOne_60 ?_
        refine w_iload_n (pc := 61) C dX10_turnsOne_61 rfl ?_
        refine w_i2l (pc := 62) C dX10_turnsOne_62 ?_
        refine w_ladd (pc := 63) C dX10_turnsOne_63 ?_
        obtain ⟨z3, ez3⟩ : ∃ z : Int64, z = (((Int32.toInt64 v1) * (Int32.toInt64 (gi h (v0 + 3) (ix (23 + (gi h (v0 + 3) (ix 53))))))) + (Int32.toInt64 v2)) := ⟨_, rfl⟩
        have hv := hv z3 ez3
        rw [← ez3]
        refine w_lstore (pc := 64) C dX10_turnsOne_64 (by decide) ?_
        refine w_aload_n (pc := 66) C dX10_turnsOne_66 rfl ?_
        refine w_iload (pc := 67) C dX10_turnsOne_67 rfl ?_
        refine w_iload_n (pc := 69) C dX10_turnsOne_69 rfl ?_
        refine w_iconst (pc := 70) C (v := 1) dX10_turnsOne_70 (by decide) ?_
        refine w_icmp_ne (pc := 71) C (tgt := 80) dX10_turnsOne_71 (by decide) ?_
        obtain ⟨hv1, hv2⟩ := hv
        refine ⟨fun c8 => ?_, fun c8 => ?_⟩
        · have hv := hv1 c8
          refine w_lload (pc := 80) C dX10_turnsOne_80 rfl ?_
          refine w_cV0_2 (pc := 82) C cl_X10_370 lv_X10_goesBy (by decide) dX10_turnsOne_82 (Nat.le_of_ble_eq_true rfl) (c := 10) rfl (St10_k f1) (hv.mono (fun v h4 hp => ?_))
          obtain ⟨x5, rfl, hv⟩ := hp
          exact w_iret (pc := 85) C dX10_turnsOne_85 hv
        · have hv := hv2 c8
          refine w_lload (pc := 74) C dX10_turnsOne_74 rfl ?_
          refine w_lneg (pc := 76) C dX10_turnsOne_76 ?_
          refine w_goto (pc := 77) C (tgt := 82) dX10_turnsOne_77 (by decide) ?_
          refine w_cV0_2 (pc := 82) C cl_X10_370 lv_X10_goesBy (by decide) dX10_turnsOne_82 (Nat.le_of_ble_eq_true rfl) (c := 10) rfl (St10_k f1) (hv.mono (fun v h6 hp => ?_))
          obtain ⟨x7, rfl, hv⟩ := hp
          exact w_iret (pc := 85) C dX10_turnsOne_85 hv
      · have hv := hv2 c9
        refine w_iconst (pc := 49) C (v := (-1)) dX10_turnsOne_49 (by decide) ?_
        exact w_iret (pc := 50) C dX10_turnsOne_50 hv
theorem dX10_cutsOne_0 : decode cX10_cutsOne 0 = .ok (.aload_n 0, 1) := by decide +kernel
theorem dX10_cutsOne_1 : decode cX10_cutsOne 1 = .ok (.aload_n 0, 1) := by decide +kernel
theorem dX10_cutsOne_2 : decode cX10_cutsOne 2 = .ok (.getfield 71, 3) := by decide +kernel
theorem dX10_cutsOne_5 : decode cX10_cutsOne 5 = .ok (.iconst 0, 1) := by decide +kernel
theorem dX10_cutsOne_6 : decode cX10_cutsOne 6 = .ok (.laload, 1) := by decide +kernel
theorem dX10_cutsOne_7 : decode cX10_cutsOne 7 = .ok (.aload_n 0, 1) := by decide +kernel
theorem dX10_cutsOne_8 : decode cX10_cutsOne 8 = .ok (.getfield 71, 3) := by decide +kernel
theorem dX10_cutsOne_11 : decode cX10_cutsOne 11 = .ok (.iconst 1, 1) := by decide +kernel
theorem dX10_cutsOne_12 : decode cX10_cutsOne 12 = .ok (.laload, 1) := by decide +kernel
theorem dX10_cutsOne_13 : decode cX10_cutsOne 13 = .ok (.invokevirtual 388, 3) := by decide +kernel
theorem dX10_cutsOne_16 : decode cX10_cutsOne 16 = .ok (.ifCond .lt 6, 3) := by decide +kernel
theorem dX10_cutsOne_19 : decode cX10_cutsOne 19 = .ok (.bipush (-2), 2) := by decide +kernel
theorem dX10_cutsOne_21 : decode cX10_cutsOne 21 = .ok (.ireturn, 1) := by decide +kernel
theorem dX10_cutsOne_22 : decode cX10_cutsOne 22 = .ok (.aload_n 0, 1) := by decide +kernel
theorem dX10_cutsOne_23 : decode cX10_cutsOne 23 = .ok (.invokevirtual 378, 3) := by decide +kernel
theorem dX10_cutsOne_26 : decode cX10_cutsOne 26 = .ok (.bipush 60, 2) := by decide +kernel
theorem dX10_cutsOne_28 : decode cX10_cutsOne 28 = .ok (.if_icmp .ne 6, 3) := by decide +kernel
theorem dX10_cutsOne_31 : decode cX10_cutsOne 31 = .ok (.bipush (-3), 2) := by decide +kernel
theorem dX10_cutsOne_33 : decode cX10_cutsOne 33 = .ok (.ireturn, 1) := by decide +kernel
theorem dX10_cutsOne_34 : decode cX10_cutsOne 34 = .ok (.aload_n 0, 1) := by decide +kernel
theorem dX10_cutsOne_35 : decode cX10_cutsOne 35 = .ok (.invokevirtual 378, 3) := by decide +kernel
theorem dX10_cutsOne_38 : decode cX10_cutsOne 38 = .ok (.istore_n 1, 1) := by decide +kernel
theorem dX10_cutsOne_39 : decode cX10_cutsOne 39 = .ok (.iload_n 1, 1) := by decide +kernel
theorem dX10_cutsOne_40 : decode cX10_cutsOne 40 = .ok (.ifCond .le 77, 3) := by decide +kernel
theorem dX10_cutsOne_43 : decode cX10_cutsOne 43 = .ok (.aload_n 0, 1) := by decide +kernel
theorem dX10_cutsOne_44 : decode cX10_cutsOne 44 = .ok (.iload_n 1, 1) := by decide +kernel
theorem dX10_cutsOne_45 : decode cX10_cutsOne 45 = .ok (.iconst 1, 1) := by decide +kernel
theorem dX10_cutsOne_46 : decode cX10_cutsOne 46 = .ok (.isub, 1) := by decide +kernel
theorem dX10_cutsOne_47 : decode cX10_cutsOne 47 = .ok (.invokevirtual 381, 3) := by decide +kernel
theorem dX10_cutsOne_50 : decode cX10_cutsOne 50 = .ok (.aload_n 0, 1) := by decide +kernel
theorem dX10_cutsOne_51 : decode cX10_cutsOne 51 = .ok (.getfield 71, 3) := by decide +kernel
theorem dX10_cutsOne_54 : decode cX10_cutsOne 54 = .ok (.iconst 1, 1) := by decide +kernel
theorem dX10_cutsOne_55 : decode cX10_cutsOne 55 = .ok (.laload, 1) := by decide +kernel
theorem dX10_cutsOne_56 : decode cX10_cutsOne 56 = .ok (.lmul, 1) := by decide +kernel
theorem dX10_cutsOne_57 : decode cX10_cutsOne 57 = .ok (.aload_n 0, 1) := by decide +kernel
theorem dX10_cutsOne_58 : decode cX10_cutsOne 58 = .ok (.getfield 71, 3) := by decide +kernel
theorem dX10_cutsOne_61 : decode cX10_cutsOne 61 = .ok (.iconst 0, 1) := by decide +kernel
theorem dX10_cutsOne_62 : decode cX10_cutsOne 62 = .ok (.laload, 1) := by decide +kernel
theorem dX10_cutsOne_63 : decode cX10_cutsOne 63 = .ok (.aload_n 0, 1) := by decide +kernel
theorem dX10_cutsOne_64 : decode cX10_cutsOne 64 = .ok (.iload_n 1, 1) := by decide +kernel
theorem dX10_cutsOne_65 : decode cX10_cutsOne 65 = .ok (.iconst 1, 1) := by decide +kernel
theorem dX10_cutsOne_66 : decode cX10_cutsOne 66 = .ok (.isub, 1) := by decide +kernel
theorem dX10_cutsOne_67 : decode cX10_cutsOne 67 = .ok (.invokevirtual 385, 3) := by decide +kernel
theorem dX10_cutsOne_70 : decode cX10_cutsOne 70 = .ok (.lmul, 1) := by decide +kernel
theorem dX10_cutsOne_71 : decode cX10_cutsOne 71 = .ok (.lcmp, 1) := by decide +kernel
theorem dX10_cutsOne_72 : decode cX10_cutsOne 72 = .ok (.ifCond .le 45, 3) := by decide +kernel
theorem dX10_cutsOne_75 : decode cX10_cutsOne 75 = .ok (.aload_n 0, 1) := by decide +kernel
theorem dX10_cutsOne_76 : decode cX10_cutsOne 76 = .ok (.getfield 71, 3) := by decide +kernel
theorem dX10_cutsOne_79 : decode cX10_cutsOne 79 = .ok (.iconst 2, 1) := by decide +kernel
theorem dX10_cutsOne_80 : decode cX10_cutsOne 80 = .ok (.iconst 2, 1) := by decide +kernel
theorem dX10_cutsOne_81 : decode cX10_cutsOne 81 = .ok (.iload_n 1, 1) := by decide +kernel
theorem dX10_cutsOne_82 : decode cX10_cutsOne 82 = .ok (.imul, 1) := by decide +kernel
theorem dX10_cutsOne_83 : decode cX10_cutsOne 83 = .ok (.iadd, 1) := by decide +kernel
theorem dX10_cutsOne_84 : decode cX10_cutsOne 84 = .ok (.aload_n 0, 1) := by decide +kernel
theorem dX10_cutsOne_85 : decode cX10_cutsOne 85 = .ok (.iload_n 1, 1) := by decide +kernel
theorem dX10_cutsOne_86 : decode cX10_cutsOne 86 = .ok (.iconst 1, 1) := by decide +kernel
theorem dX10_cutsOne_87 : decode cX10_cutsOne 87 = .ok (.isub, 1) := by decide +kernel
theorem dX10_cutsOne_88 : decode cX10_cutsOne 88 = .ok (.invokevirtual 381, 3) := by decide +kernel
theorem dX10_cutsOne_91 : decode cX10_cutsOne 91 = .ok (.lastore, 1) := by decide +kernel
theorem dX10_cutsOne_92 : decode cX10_cutsOne 92 = .ok (.aload_n 0, 1) := by decide +kernel
theorem dX10_cutsOne_93 : decode cX10_cutsOne 93 = .ok (.getfield 71, 3) := by decide +kernel
theorem dX10_cutsOne_96 : decode cX10_cutsOne 96 = .ok (.iconst 2, 1) := by decide +kernel
theorem dX10_cutsOne_97 : decode cX10_cutsOne 97 = .ok (.iconst 2, 1) := by decide +kernel
theorem dX10_cutsOne_98 : decode cX10_cutsOne 98 = .ok (.iload_n 1, 1) := by decide +kernel
theorem dX10_cutsOne_99 : decode cX10_cutsOne 99 = .ok (.imul, 1) := by decide +kernel
theorem dX10_cutsOne_100 : decode cX10_cutsOne 100 = .ok (.iadd, 1) := by decide +kernel
theorem dX10_cutsOne_101 : decode cX10_cutsOne 101 = .ok (.iconst 1, 1) := by decide +kernel
theorem dX10_cutsOne_102 : decode cX10_cutsOne 102 = .ok (.iadd, 1) := by decide +kernel
theorem dX10_cutsOne_103 : decode cX10_cutsOne 103 = .ok (.aload_n 0, 1) := by decide +kernel
theorem dX10_cutsOne_104 : decode cX10_cutsOne 104 = .ok (.iload_n 1, 1) := by decide +kernel
theorem dX10_cutsOne_105 : decode cX10_cutsOne 105 = .ok (.iconst 1, 1) := by decide +kernel
theorem dX10_cutsOne_106 : decode cX10_cutsOne 106 = .ok (.isub, 1) := by decide +kernel
theorem dX10_cutsOne_107 : decode cX10_cutsOne 107 = .ok (.invokevirtual 385, 3) := by decide +kernel
theorem dX10_cutsOne_110 : decode cX10_cutsOne 110 = .ok (.lastore, 1) := by decide +kernel
theorem dX10_cutsOne_111 : decode cX10_cutsOne 111 = .ok (.iinc 1 (-1), 3) := by decide +kernel
theorem dX10_cutsOne_114 : decode cX10_cutsOne 114 = .ok (.goto (-75), 3) := by decide +kernel
theorem dX10_cutsOne_117 : decode cX10_cutsOne 117 = .ok (.aload_n 0, 1) := by decide +kernel
theorem dX10_cutsOne_118 : decode cX10_cutsOne 118 = .ok (.getfield 71, 3) := by decide +kernel
theorem dX10_cutsOne_121 : decode cX10_cutsOne 121 = .ok (.iconst 2, 1) := by decide +kernel
theorem dX10_cutsOne_122 : decode cX10_cutsOne 122 = .ok (.iconst 2, 1) := by decide +kernel
theorem dX10_cutsOne_123 : decode cX10_cutsOne 123 = .ok (.iload_n 1, 1) := by decide +kernel
theorem dX10_cutsOne_124 : decode cX10_cutsOne 124 = .ok (.imul, 1) := by decide +kernel
theorem dX10_cutsOne_125 : decode cX10_cutsOne 125 = .ok (.iadd, 1) := by decide +kernel
theorem dX10_cutsOne_126 : decode cX10_cutsOne 126 = .ok (.aload_n 0, 1) := by decide +kernel
theorem dX10_cutsOne_127 : decode cX10_cutsOne 127 = .ok (.getfield 71, 3) := by decide +kernel
theorem dX10_cutsOne_130 : decode cX10_cutsOne 130 = .ok (.iconst 0, 1) := by decide +kernel
theorem dX10_cutsOne_131 : decode cX10_cutsOne 131 = .ok (.laload, 1) := by decide +kernel
theorem dX10_cutsOne_132 : decode cX10_cutsOne 132 = .ok (.lastore, 1) := by decide +kernel
theorem dX10_cutsOne_133 : decode cX10_cutsOne 133 = .ok (.aload_n 0, 1) := by decide +kernel
theorem dX10_cutsOne_134 : decode cX10_cutsOne 134 = .ok (.getfield 71, 3) := by decide +kernel
theorem dX10_cutsOne_137 : decode cX10_cutsOne 137 = .ok (.iconst 2, 1) := by decide +kernel
theorem dX10_cutsOne_138 : decode cX10_cutsOne 138 = .ok (.iconst 2, 1) := by decide +kernel
theorem dX10_cutsOne_139 : decode cX10_cutsOne 139 = .ok (.iload_n 1, 1) := by decide +kernel
theorem dX10_cutsOne_140 : decode cX10_cutsOne 140 = .ok (.imul, 1) := by decide +kernel
theorem dX10_cutsOne_141 : decode cX10_cutsOne 141 = .ok (.iadd, 1) := by decide +kernel
theorem dX10_cutsOne_142 : decode cX10_cutsOne 142 = .ok (.iconst 1, 1) := by decide +kernel
theorem dX10_cutsOne_143 : decode cX10_cutsOne 143 = .ok (.iadd, 1) := by decide +kernel
theorem dX10_cutsOne_144 : decode cX10_cutsOne 144 = .ok (.aload_n 0, 1) := by decide +kernel
theorem dX10_cutsOne_145 : decode cX10_cutsOne 145 = .ok (.getfield 71, 3) := by decide +kernel
theorem dX10_cutsOne_148 : decode cX10_cutsOne 148 = .ok (.iconst 1, 1) := by decide +kernel
theorem dX10_cutsOne_149 : decode cX10_cutsOne 149 = .ok (.laload, 1) := by decide +kernel
theorem dX10_cutsOne_150 : decode cX10_cutsOne 150 = .ok (.lastore, 1) := by decide +kernel
theorem dX10_cutsOne_151 : decode cX10_cutsOne 151 = .ok (.aload_n 0, 1) := by decide +kernel
theorem dX10_cutsOne_152 : decode cX10_cutsOne 152 = .ok (.getfield 68, 3) := by decide +kernel
theorem dX10_cutsOne_155 : decode cX10_cutsOne 155 = .ok (.bipush 60, 2) := by decide +kernel
theorem dX10_cutsOne_157 : decode cX10_cutsOne 157 = .ok (.dup2, 1) := by decide +kernel
theorem dX10_cutsOne_158 : decode cX10_cutsOne 158 = .ok (.iaload, 1) := by decide +kernel
theorem dX10_cutsOne_159 : decode cX10_cutsOne 159 = .ok (.iconst 1, 1) := by decide +kernel
theorem dX10_cutsOne_160 : decode cX10_cutsOne 160 = .ok (.iadd, 1) := by decide +kernel
theorem dX10_cutsOne_161 : decode cX10_cutsOne 161 = .ok (.iastore, 1) := by decide +kernel
theorem dX10_cutsOne_162 : decode cX10_cutsOne 162 = .ok (.aload_n 0, 1) := by decide +kernel
theorem dX10_cutsOne_163 : decode cX10_cutsOne 163 = .ok (.invokevirtual 378, 3) := by decide +kernel
theorem dX10_cutsOne_166 : decode cX10_cutsOne 166 = .ok (.ireturn, 1) := by decide +kernel
set_option maxRecDepth 20000 in
set_option maxHeartbeats 2000000 in
theorem V_X10_cutsOne_0 {X : Ctx} (C : C_X10_cutsOne X) {k n : Nat} {Q : Pq} {h : Hp} {v0 : Nat}
    (hv : St10 h v0 ∧ S_X10_markAt (lX X) (dtX X) 0 0 [.ref v0, .long (gl h (v0 + 4) (ix 0)), .long (gl h (v0 + 4) (ix 1))] h (QI fun x3 h2 =>
    ((x3 < 0 → St10 h2 v0 ∧ ((¬ (gi h2 (v0 + 3) (ix 60)) = 60 → Wj X k n Q 39 [(0, .ref v0), (1, .int (gi h2 (v0 + 3) (ix 60)))] [] h2) ∧
    ((gi h2 (v0 + 3) (ix 60)) = 60 → Q (some (.int (-3))) h2))) ∧
    (¬ x3 < 0 → Q (some (.int (-2))) h2)))) :
    Wj X k n Q 0 [(0, .ref v0)] [] h := by
  refine w_aload_n (pc := 0) C dX10_cutsOne_0 rfl ?_
  refine w_aload_n (pc := 1) C dX10_cutsOne_1 rfl ?_
  obtain ⟨f1, hv⟩ := hv
  refine w_getR (pc := 2) C fl_X10_71 rfl dX10_cutsOne_2 (St10_k f1) (St10_r8 f1) ?_
  refine w_iconst (pc := 5) C (v := 0) dX10_cutsOne_5 (by decide) ?_
  refine w_lald (pc := 6) C dX10_cutsOne_6 (St10_k8 f1) (inbl (St10_l8 f1) (inbd (by decide))) ?_
  refine w_aload_n (pc := 7) C dX10_cutsOne_7 rfl ?_
  refine w_getR (pc := 8) C fl_X10_71 rfl dX10_cutsOne_8 (St10_k f1) (St10_r8 f1) ?_
  refine w_iconst (pc := 11) C (v := 1) dX10_cutsOne_11 (by decide) ?_
  refine w_lald (pc := 12) C dX10_cutsOne_12 (St10_k8 f1) (inbl (St10_l8 f1) (inbd (by decide))) ?_
  refine w_cV0_2 (pc := 13) C cl_X10_388 lv_X10_markAt (by decide) dX10_cutsOne_13 (Nat.le_of_ble_eq_true rfl) (c := 10) rfl (St10_k f1) (hv.mono (fun v h2 hp => ?_))
  obtain ⟨x3, rfl, hv⟩ := hp
  refine w_if_lt (pc := 16) C (tgt := 22) dX10_cutsOne_16 (by decide) ?_
  obtain ⟨hv1, hv2⟩ := hv
  refine ⟨fun c6 => ?_, fun c6 => ?_⟩
  · have hv := hv1 c6
    refine w_aload_n (pc := 22) C dX10_cutsOne_22 rfl ?_
    obtain ⟨f4, hv⟩ := hv
    refine w_cV0_0 (pc := 23) C cl_X10_378 lv_X10_marks (by decide) dX10_cutsOne_23 (Nat.le_of_ble_eq_true rfl) (c := 10) rfl (St10_k f4) ((sf_X10_marks (h := h2) f4).mono (fun v h9 hp => ?_))
    obtain ⟨e1, e2⟩ := hp
    rw [e1, e2]
    refine w_bipush (pc := 26) C (v := 60) dX10_cutsOne_26 (by decide) ?_
    refine w_icmp_ne (pc := 28) C (tgt := 34) dX10_cutsOne_28 (by decide) ?_
    obtain ⟨hv1, hv2⟩ := hv
    refine ⟨fun c5 => ?_, fun c5 => ?_⟩
    · have hv := hv1 c5
      refine w_aload_n (pc := 34) C dX10_cutsOne_34 rfl ?_
      refine w_cV0_0 (pc := 35) C cl_X10_378 lv_X10_marks (by decide) dX10_cutsOne_35 (Nat.le_of_ble_eq_true rfl) (c := 10) rfl (St10_k f4) ((sf_X10_marks (h := h2) f4).mono (fun v h9 hp => ?_))
      obtain ⟨e1, e2⟩ := hp
      rw [e1, e2]
      refine w_istore_n (pc := 38) C dX10_cutsOne_38 (by decide) ?_
      refine w_sub ?_ hv
      exact ⟨rfl, rfl, trivial⟩
    · have hv := hv2 c5
      refine w_bipush (pc := 31) C (v := (-3)) dX10_cutsOne_31 (by decide) ?_
      exact w_iret (pc := 33) C dX10_cutsOne_33 hv
  · have hv := hv2 c6
    refine w_bipush (pc := 19) C (v := (-2)) dX10_cutsOne_19 (by decide) ?_
    exact w_iret (pc := 21) C dX10_cutsOne_21 hv
set_option maxRecDepth 20000 in
set_option maxHeartbeats 2000000 in
theorem V_X10_cutsOne_39 {X : Ctx} (C : C_X10_cutsOne X) {k n : Nat} {Q : Pq} {h : Hp} {v0 : Nat} {v1 : Int32}
    (hv : ((v1 ≤ 0 → Wj X k n Q 117 [(0, .ref v0), (1, .int v1)] [] h) ∧
    (¬ v1 ≤ 0 → St10 h v0 ∧ inb (2 + 2 * (v1 - 1)) 1464 ∧ inb (2 + 2 * (v1 - 1) + 1) 1464 ∧ ((((gl h (v0 + 4) (ix (2 + 2 * (v1 - 1)))) * (gl h (v0 + 4) (ix 1))) ≤ ((gl h (v0 + 4) (ix 0)) * (gl h (v0 + 4) (ix (2 + 2 * (v1 - 1) + 1)))) → Wj X k n Q 117 [(0, .ref v0), (1, .int v1)] [] h) ∧
    (¬ ((gl h (v0 + 4) (ix (2 + 2 * (v1 - 1)))) * (gl h (v0 + 4) (ix 1))) ≤ ((gl h (v0 + 4) (ix 0)) * (gl h (v0 + 4) (ix (2 + 2 * (v1 - 1) + 1)))) → inb (2 + (2 * v1)) 1464 ∧ inb ((2 + (2 * v1)) + 1) 1464 ∧ Wj X k n Q 39 [(0, .ref v0), (1, .int (v1 + Int32.ofInt (-1)))] [] (sl (sl h (v0 + 4) (ix (2 + (2 * v1))) (gl h (v0 + 4) (ix (2 + 2 * (v1 - 1))))) (v0 + 4) (ix ((2 + (2 * v1)) + 1)) (gl (sl h (v0 + 4) (ix (2 + (2 * v1))) (gl h (v0 + 4) (ix (2 + 2 * (v1 - 1))))) (v0 + 4) (ix (2 + 2 * (v1 - 1) + 1))))))))) :
    Wj X k n Q 39 [(0, .ref v0), (1, .int v1)] [] h := by
  refine w_iload_n (pc := 39) C dX10_cutsOne_39 rfl ?_
  refine w_if_le (pc := 40) C (tgt := 117) dX10_cutsOne_40 (by decide) ?_
  obtain ⟨hv1, hv2⟩ := hv
  refine ⟨fun c7 => ?_, fun c7 => ?_⟩
  · have hv := hv1 c7
    refine w_sub ?_ hv
    exact ⟨rfl, rfl, trivial⟩
  · have hv := hv2 c7
    refine w_aload_n (pc := 43) C dX10_cutsOne_43 rfl ?_
    refine w_iload_n (pc := 44) C dX10_cutsOne_44 rfl ?_
    refine w_iconst (pc := 45) C (v := 1) dX10_cutsOne_45 (by decide) ?_
    refine w_isub (pc := 46) C dX10_cutsOne_46 ?_
    obtain ⟨f1, hv⟩ := hv
    obtain ⟨f2, hv⟩ := hv
    refine w_cV0_1 (pc := 47) C cl_X10_381 lv_X10_markUp (by decide) dX10_cutsOne_47 (Nat.le_of_ble_eq_true rfl) (c := 10) rfl (St10_k f1) ((sf_X10_markUp (h := h) f1 f2).mono (fun v h9 hp => ?_))
    obtain ⟨e1, e2⟩ := hp
    rw [e1, e2]
    refine w_aload_n (pc := 50) C dX10_cutsOne_50 rfl ?_
    refine w_getR (pc := 51) C fl_X10_71 rfl dX10_cutsOne_51 (St10_k f1) (St10_r8 f1) ?_
    refine w_iconst (pc := 54) C (v := 1) dX10_cutsOne_54 (by decide) ?_
    refine w_lald (pc := 55) C dX10_cutsOne_55 (St10_k8 f1) (inbl (St10_l8 f1) (inbd (by decide))) ?_
    refine w_lmul (pc := 56) C dX10_cutsOne_56 ?_
    refine w_aload_n (pc := 57) C dX10_cutsOne_57 rfl ?_
    refine w_getR (pc := 58) C fl_X10_71 rfl dX10_cutsOne_58 (St10_k f1) (St10_r8 f1) ?_
    refine w_iconst (pc := 61) C (v := 0) dX10_cutsOne_61 (by decide) ?_
    refine w_lald (pc := 62) C dX10_cutsOne_62 (St10_k8 f1) (inbl (St10_l8 f1) (inbd (by decide))) ?_
    refine w_aload_n (pc := 63) C dX10_cutsOne_63 rfl ?_
    refine w_iload_n (pc := 64) C dX10_cutsOne_64 rfl ?_
    refine w_iconst (pc := 65) C (v := 1) dX10_cutsOne_65 (by decide) ?_
    refine w_isub (pc := 66) C dX10_cutsOne_66 ?_
    obtain ⟨f3, hv⟩ := hv
    refine w_cV0_1 (pc := 67) C cl_X10_385 lv_X10_markLow (by decide) dX10_cutsOne_67 (Nat.le_of_ble_eq_true rfl) (c := 10) rfl (St10_k f1) ((sf_X10_markLow (h := h) f1 f3).mono (fun v h9 hp => ?_))
    obtain ⟨e1, e2⟩ := hp
    rw [e1, e2]
    refine w_lmul (pc := 70) C dX10_cutsOne_70 ?_
    refine w_lcmp_le (pc := 71) C (tgt := 117) dX10_cutsOne_71 dX10_cutsOne_72 (by decide) ?_
    obtain ⟨hv1, hv2⟩ := hv
    refine ⟨fun c6 => ?_, fun c6 => ?_⟩
    · have hv := hv1 c6
      refine w_sub ?_ hv
      exact ⟨rfl, rfl, trivial⟩
    · have hv := hv2 c6
      refine w_aload_n (pc := 75) C dX10_cutsOne_75 rfl ?_
      refine w_getR (pc := 76) C fl_X10_71 rfl dX10_cutsOne_76 (St10_k f1) (St10_r8 f1) ?_
      refine w_iconst (pc := 79) C (v := 2) dX10_cutsOne_79 (by decide) ?_
      refine w_iconst (pc := 80) C (v := 2) dX10_cutsOne_80 (by decide) ?_
      refine w_iload_n (pc := 81) C dX10_cutsOne_81 rfl ?_
      refine w_imul (pc := 82) C dX10_cutsOne_82 ?_
      refine w_iadd (pc := 83) C dX10_cutsOne_83 ?_
      refine w_aload_n (pc := 84) C dX10_cutsOne_84 rfl ?_
      refine w_iload_n (pc := 85) C dX10_cutsOne_85 rfl ?_
      refine w_iconst (pc := 86) C (v := 1) dX10_cutsOne_86 (by decide) ?_
      refine w_isub (pc := 87) C dX10_cutsOne_87 ?_
      refine w_cV0_1 (pc := 88) C cl_X10_381 lv_X10_markUp (by decide) dX10_cutsOne_88 (Nat.le_of_ble_eq_true rfl) (c := 10) rfl (St10_k f1) ((sf_X10_markUp (h := h) f1 f2).mono (fun v h9 hp => ?_))
      obtain ⟨e1, e2⟩ := hp
      rw [e1, e2]
      obtain ⟨f4, hv⟩ := hv
      refine w_last (pc := 91) C dX10_cutsOne_91 (St10_k8 f1) (inbl (St10_l8 f1) f4) ?_
      refine w_aload_n (pc := 92) C dX10_cutsOne_92 rfl ?_
      refine w_getR (pc := 93) C fl_X10_71 rfl dX10_cutsOne_93 (St10_k f1) (St10_r8 f1) ?_
      refine w_iconst (pc := 96) C (v := 2) dX10_cutsOne_96 (by decide) ?_
      refine w_iconst (pc := 97) C (v := 2) dX10_cutsOne_97 (by decide) ?_
      refine w_iload_n (pc := 98) C dX10_cutsOne_98 rfl ?_
      refine w_imul (pc := 99) C dX10_cutsOne_99 ?_
      refine w_iadd (pc := 100) C dX10_cutsOne_100 ?_
      refine w_iconst (pc := 101) C (v := 1) dX10_cutsOne_101 (by decide) ?_
      refine w_iadd (pc := 102) C dX10_cutsOne_102 ?_
      refine w_aload_n (pc := 103) C dX10_cutsOne_103 rfl ?_
      refine w_iload_n (pc := 104) C dX10_cutsOne_104 rfl ?_
      refine w_iconst (pc := 105) C (v := 1) dX10_cutsOne_105 (by decide) ?_
      refine w_isub (pc := 106) C dX10_cutsOne_106 ?_
      refine w_cV0_1 (pc := 107) C cl_X10_385 lv_X10_markLow (by decide) dX10_cutsOne_107 (Nat.le_of_ble_eq_true rfl) (c := 10) rfl (St10_k f1) ((sf_X10_markLow (h := (sl h (v0 + 4) (ix (2 + (2 * v1))) (gl h (v0 + 4) (ix (2 + 2 * (v1 - 1)))))) f1 f3).mono (fun v h9 hp => ?_))
      obtain ⟨e1, e2⟩ := hp
      rw [e1, e2]
      obtain ⟨f5, hv⟩ := hv
      refine w_last (pc := 110) C dX10_cutsOne_110 (St10_k8 f1) (inbl (St10_l8 f1) f5) ?_
      refine w_iinc (pc := 111) C dX10_cutsOne_111 rfl (by decide) ?_
      refine w_goto (pc := 114) C (tgt := 39) dX10_cutsOne_114 (by decide) ?_
      refine w_sub ?_ hv
      exact ⟨rfl, rfl, trivial⟩
set_option maxRecDepth 20000 in
set_option maxHeartbeats 2000000 in
theorem V_X10_cutsOne_117 {X : Ctx} (C : C_X10_cutsOne X) {k n : Nat} {Q : Pq} {h : Hp} {v0 : Nat} {v1 : Int32}
    (hv : St10 h v0 ∧ inb (2 + (2 * v1)) 1464 ∧ inb ((2 + (2 * v1)) + 1) 1464 ∧ Q (some (.int (gi (si h (v0 + 3) (ix 60) ((gi h (v0 + 3) (ix 60)) + 1)) (v0 + 3) (ix 60)))) (si (sl (sl h (v0 + 4) (ix (2 + (2 * v1))) (gl h (v0 + 4) (ix 0))) (v0 + 4) (ix ((2 + (2 * v1)) + 1)) (gl (sl h (v0 + 4) (ix (2 + (2 * v1))) (gl h (v0 + 4) (ix 0))) (v0 + 4) (ix 1))) (v0 + 3) (ix 60) ((gi h (v0 + 3) (ix 60)) + 1))) :
    Wj X k n Q 117 [(0, .ref v0), (1, .int v1)] [] h := by
  refine w_aload_n (pc := 117) C dX10_cutsOne_117 rfl ?_
  obtain ⟨f1, hv⟩ := hv
  refine w_getR (pc := 118) C fl_X10_71 rfl dX10_cutsOne_118 (St10_k f1) (St10_r8 f1) ?_
  refine w_iconst (pc := 121) C (v := 2) dX10_cutsOne_121 (by decide) ?_
  refine w_iconst (pc := 122) C (v := 2) dX10_cutsOne_122 (by decide) ?_
  refine w_iload_n (pc := 123) C dX10_cutsOne_123 rfl ?_
  refine w_imul (pc := 124) C dX10_cutsOne_124 ?_
  refine w_iadd (pc := 125) C dX10_cutsOne_125 ?_
  refine w_aload_n (pc := 126) C dX10_cutsOne_126 rfl ?_
  refine w_getR (pc := 127) C fl_X10_71 rfl dX10_cutsOne_127 (St10_k f1) (St10_r8 f1) ?_
  refine w_iconst (pc := 130) C (v := 0) dX10_cutsOne_130 (by decide) ?_
  refine w_lald (pc := 131) C dX10_cutsOne_131 (St10_k8 f1) (inbl (St10_l8 f1) (inbd (by decide))) ?_
  obtain ⟨f2, hv⟩ := hv
  refine w_last (pc := 132) C dX10_cutsOne_132 (St10_k8 f1) (inbl (St10_l8 f1) f2) ?_
  refine w_aload_n (pc := 133) C dX10_cutsOne_133 rfl ?_
  refine w_getR (pc := 134) C fl_X10_71 rfl dX10_cutsOne_134 (St10_k f1) (St10_r8 f1) ?_
  refine w_iconst (pc := 137) C (v := 2) dX10_cutsOne_137 (by decide) ?_
  refine w_iconst (pc := 138) C (v := 2) dX10_cutsOne_138 (by decide) ?_
  refine w_iload_n (pc := 139) C dX10_cutsOne_139 rfl ?_
  refine w_imul (pc := 140) C dX10_cutsOne_140 ?_
  refine w_iadd (pc := 141) C dX10_cutsOne_141 ?_
  refine w_iconst (pc := 142) C (v := 1) dX10_cutsOne_142 (by decide) ?_
  refine w_iadd (pc := 143) C dX10_cutsOne_143 ?_
  refine w_aload_n (pc := 144) C dX10_cutsOne_144 rfl ?_
  refine w_getR (pc := 145) C fl_X10_71 rfl dX10_cutsOne_145 (St10_k f1) (St10_r8 f1) ?_
  refine w_iconst (pc := 148) C (v := 1) dX10_cutsOne_148 (by decide) ?_
  refine w_lald (pc := 149) C dX10_cutsOne_149 (St10_k8 f1) (inbl (St10_l8 f1) (inbd (by decide))) ?_
  obtain ⟨f3, hv⟩ := hv
  refine w_last (pc := 150) C dX10_cutsOne_150 (St10_k8 f1) (inbl (St10_l8 f1) f3) ?_
  refine w_aload_n (pc := 151) C dX10_cutsOne_151 rfl ?_
  refine w_getR (pc := 152) C fl_X10_68 rfl dX10_cutsOne_152 (St10_k f1) (St10_r7 f1) ?_
  refine w_bipush (pc := 155) C (v := 60) dX10_cutsOne_155 (by decide) ?_
  refine w_dup2 (pc := 157) C dX10_cutsOne_157 rfl rfl ?_
  refine w_iald (pc := 158) C dX10_cutsOne_158 (St10_k7 f1) (inbl (St10_l7 f1) (inbd (by decide))) ?_
  refine w_iconst (pc := 159) C (v := 1) dX10_cutsOne_159 (by decide) ?_
  refine w_iadd (pc := 160) C dX10_cutsOne_160 ?_
  refine w_iast (pc := 161) C dX10_cutsOne_161 (St10_k7 f1) (inbl (St10_l7 f1) (inbd (by decide))) ?_
  refine w_aload_n (pc := 162) C dX10_cutsOne_162 rfl ?_
  refine w_cV0_0 (pc := 163) C cl_X10_378 lv_X10_marks (by decide) dX10_cutsOne_163 (Nat.le_of_ble_eq_true rfl) (c := 10) rfl (St10_k f1) ((sf_X10_marks (h := (si (sl (sl h (v0 + 4) (ix (2 + (2 * v1))) (gl h (v0 + 4) (ix 0))) (v0 + 4) (ix ((2 + (2 * v1)) + 1)) (gl (sl h (v0 + 4) (ix (2 + (2 * v1))) (gl h (v0 + 4) (ix 0))) (v0 + 4) (ix 1))) (v0 + 3) (ix 60) ((gi h (v0 + 3) (ix 60)) + 1))) f1).mono (fun v h9 hp => ?_))
  obtain ⟨e1, e2⟩ := hp
  rw [e1, e2]
  exact w_iret (pc := 166) C dX10_cutsOne_166 hv
theorem dX10_wipesOne_0 : decode cX10_wipesOne 0 = .ok (.aload_n 0, 1) := by decide +kernel
theorem dX10_wipesOne_1 : decode cX10_wipesOne 1 = .ok (.invokevirtual 378, 3) := by decide +kernel
theorem dX10_wipesOne_4 : decode cX10_wipesOne 4 = .ok (.istore_n 1, 1) := by decide +kernel
theorem dX10_wipesOne_5 : decode cX10_wipesOne 5 = .ok (.aload_n 0, 1) := by decide +kernel
theorem dX10_wipesOne_6 : decode cX10_wipesOne 6 = .ok (.getfield 68, 3) := by decide +kernel
theorem dX10_wipesOne_9 : decode cX10_wipesOne 9 = .ok (.bipush 60, 2) := by decide +kernel
theorem dX10_wipesOne_11 : decode cX10_wipesOne 11 = .ok (.iconst 0, 1) := by decide +kernel
theorem dX10_wipesOne_12 : decode cX10_wipesOne 12 = .ok (.iastore, 1) := by decide +kernel
theorem dX10_wipesOne_13 : decode cX10_wipesOne 13 = .ok (.aload_n 0, 1) := by decide +kernel
theorem dX10_wipesOne_14 : decode cX10_wipesOne 14 = .ok (.getfield 71, 3) := by decide +kernel
theorem dX10_wipesOne_17 : decode cX10_wipesOne 17 = .ok (.iconst 0, 1) := by decide +kernel
theorem dX10_wipesOne_18 : decode cX10_wipesOne 18 = .ok (.lconst 0, 1) := by decide +kernel
theorem dX10_wipesOne_19 : decode cX10_wipesOne 19 = .ok (.lastore, 1) := by decide +kernel
theorem dX10_wipesOne_20 : decode cX10_wipesOne 20 = .ok (.aload_n 0, 1) := by decide +kernel
theorem dX10_wipesOne_21 : decode cX10_wipesOne 21 = .ok (.getfield 71, 3) := by decide +kernel
theorem dX10_wipesOne_24 : decode cX10_wipesOne 24 = .ok (.iconst 1, 1) := by decide +kernel
theorem dX10_wipesOne_25 : decode cX10_wipesOne 25 = .ok (.lconst 1, 1) := by decide +kernel
theorem dX10_wipesOne_26 : decode cX10_wipesOne 26 = .ok (.lastore, 1) := by decide +kernel
theorem dX10_wipesOne_27 : decode cX10_wipesOne 27 = .ok (.iload_n 1, 1) := by decide +kernel
theorem dX10_wipesOne_28 : decode cX10_wipesOne 28 = .ok (.ireturn, 1) := by decide +kernel
set_option maxRecDepth 20000 in
set_option maxHeartbeats 2000000 in
theorem V_X10_wipesOne_0 {X : Ctx} (C : C_X10_wipesOne X) {k n : Nat} {Q : Pq} {h : Hp} {v0 : Nat}
    (hv : St10 h v0 ∧ Q (some (.int (gi h (v0 + 3) (ix 60)))) (sl (sl (si h (v0 + 3) (ix 60) 0) (v0 + 4) (ix 0) 0) (v0 + 4) (ix 1) 1)) :
    Wj X k n Q 0 [(0, .ref v0)] [] h := by
  refine w_aload_n (pc := 0) C dX10_wipesOne_0 rfl ?_
  obtain ⟨f1, hv⟩ := hv
  refine w_cV0_0 (pc := 1) C cl_X10_378 lv_X10_marks (by decide) dX10_wipesOne_1 (Nat.le_of_ble_eq_true rfl) (c := 10) rfl (St10_k f1) ((sf_X10_marks (h := h) f1).mono (fun v h9 hp => ?_))
  obtain ⟨e1, e2⟩ := hp
  rw [e1, e2]
  refine w_istore_n (pc := 4) C dX10_wipesOne_4 (by decide) ?_
  refine w_aload_n (pc := 5) C dX10_wipesOne_5 rfl ?_
  refine w_getR (pc := 6) C fl_X10_68 rfl dX10_wipesOne_6 (St10_k f1) (St10_r7 f1) ?_
  refine w_bipush (pc := 9) C (v := 60) dX10_wipesOne_9 (by decide) ?_
  refine w_iconst (pc := 11) C (v := 0) dX10_wipesOne_11 (by decide) ?_
  refine w_iast (pc := 12) C dX10_wipesOne_12 (St10_k7 f1) (inbl (St10_l7 f1) (inbd (by decide))) ?_
  refine w_aload_n (pc := 13) C dX10_wipesOne_13 rfl ?_
  refine w_getR (pc := 14) C fl_X10_71 rfl dX10_wipesOne_14 (St10_k f1) (St10_r8 f1) ?_
  refine w_iconst (pc := 17) C (v := 0) dX10_wipesOne_17 (by decide) ?_
  refine w_lconst (pc := 18) C (v := 0) dX10_wipesOne_18 (by decide) ?_
  refine w_last (pc := 19) C dX10_wipesOne_19 (St10_k8 f1) (inbl (St10_l8 f1) (inbd (by decide))) ?_
  refine w_aload_n (pc := 20) C dX10_wipesOne_20 rfl ?_
  refine w_getR (pc := 21) C fl_X10_71 rfl dX10_wipesOne_21 (St10_k f1) (St10_r8 f1) ?_
  refine w_iconst (pc := 24) C (v := 1) dX10_wipesOne_24 (by decide) ?_
  refine w_lconst (pc := 25) C (v := 1) dX10_wipesOne_25 (by decide) ?_
  refine w_last (pc := 26) C dX10_wipesOne_26 (St10_k8 f1) (inbl (St10_l8 f1) (inbd (by decide))) ?_
  refine w_iload_n (pc := 27) C dX10_wipesOne_27 rfl ?_
  exact w_iret (pc := 28) C dX10_wipesOne_28 hv
theorem dX10_begins_0 : decode cX10_begins 0 = .ok (.aload_n 0, 1) := by decide +kernel
theorem dX10_begins_1 : decode cX10_begins 1 = .ok (.getfield 68, 3) := by decide +kernel
theorem dX10_begins_4 : decode cX10_begins 4 = .ok (.iload_n 1, 1) := by decide +kernel
theorem dX10_begins_5 : decode cX10_begins 5 = .ok (.bipush 61, 2) := by decide +kernel
theorem dX10_begins_7 : decode cX10_begins 7 = .ok (.imul, 1) := by decide +kernel
theorem dX10_begins_8 : decode cX10_begins 8 = .ok (.bipush 53, 2) := by decide +kernel
theorem dX10_begins_10 : decode cX10_begins 10 = .ok (.iadd, 1) := by decide +kernel
theorem dX10_begins_11 : decode cX10_begins 11 = .ok (.iconst 0, 1) := by decide +kernel
theorem dX10_begins_12 : decode cX10_begins 12 = .ok (.iastore, 1) := by decide +kernel
theorem dX10_begins_13 : decode cX10_begins 13 = .ok (.aload_n 0, 1) := by decide +kernel
theorem dX10_begins_14 : decode cX10_begins 14 = .ok (.getfield 68, 3) := by decide +kernel
theorem dX10_begins_17 : decode cX10_begins 17 = .ok (.iload_n 1, 1) := by decide +kernel
theorem dX10_begins_18 : decode cX10_begins 18 = .ok (.bipush 61, 2) := by decide +kernel
theorem dX10_begins_20 : decode cX10_begins 20 = .ok (.imul, 1) := by decide +kernel
theorem dX10_begins_21 : decode cX10_begins 21 = .ok (.bipush 54, 2) := by decide +kernel
theorem dX10_begins_23 : decode cX10_begins 23 = .ok (.iadd, 1) := by decide +kernel
theorem dX10_begins_24 : decode cX10_begins 24 = .ok (.iconst 0, 1) := by decide +kernel
theorem dX10_begins_25 : decode cX10_begins 25 = .ok (.iastore, 1) := by decide +kernel
theorem dX10_begins_26 : decode cX10_begins 26 = .ok (.aload_n 0, 1) := by decide +kernel
theorem dX10_begins_27 : decode cX10_begins 27 = .ok (.getfield 68, 3) := by decide +kernel
theorem dX10_begins_30 : decode cX10_begins 30 = .ok (.iload_n 1, 1) := by decide +kernel
theorem dX10_begins_31 : decode cX10_begins 31 = .ok (.bipush 61, 2) := by decide +kernel
theorem dX10_begins_33 : decode cX10_begins 33 = .ok (.imul, 1) := by decide +kernel
theorem dX10_begins_34 : decode cX10_begins 34 = .ok (.bipush 60, 2) := by decide +kernel
theorem dX10_begins_36 : decode cX10_begins 36 = .ok (.iadd, 1) := by decide +kernel
theorem dX10_begins_37 : decode cX10_begins 37 = .ok (.iconst 0, 1) := by decide +kernel
theorem dX10_begins_38 : decode cX10_begins 38 = .ok (.iastore, 1) := by decide +kernel
theorem dX10_begins_39 : decode cX10_begins 39 = .ok (.aload_n 0, 1) := by decide +kernel
theorem dX10_begins_40 : decode cX10_begins 40 = .ok (.getfield 71, 3) := by decide +kernel
theorem dX10_begins_43 : decode cX10_begins 43 = .ok (.iload_n 1, 1) := by decide +kernel
theorem dX10_begins_44 : decode cX10_begins 44 = .ok (.bipush 122, 2) := by decide +kernel
theorem dX10_begins_46 : decode cX10_begins 46 = .ok (.imul, 1) := by decide +kernel
theorem dX10_begins_47 : decode cX10_begins 47 = .ok (.lconst 0, 1) := by decide +kernel
theorem dX10_begins_48 : decode cX10_begins 48 = .ok (.lastore, 1) := by decide +kernel
theorem dX10_begins_49 : decode cX10_begins 49 = .ok (.aload_n 0, 1) := by decide +kernel
theorem dX10_begins_50 : decode cX10_begins 50 = .ok (.getfield 71, 3) := by decide +kernel
theorem dX10_begins_53 : decode cX10_begins 53 = .ok (.iload_n 1, 1) := by decide +kernel
theorem dX10_begins_54 : decode cX10_begins 54 = .ok (.bipush 122, 2) := by decide +kernel
theorem dX10_begins_56 : decode cX10_begins 56 = .ok (.imul, 1) := by decide +kernel
theorem dX10_begins_57 : decode cX10_begins 57 = .ok (.iconst 1, 1) := by decide +kernel
theorem dX10_begins_58 : decode cX10_begins 58 = .ok (.iadd, 1) := by decide +kernel
theorem dX10_begins_59 : decode cX10_begins 59 = .ok (.lconst 1, 1) := by decide +kernel
theorem dX10_begins_60 : decode cX10_begins 60 = .ok (.lastore, 1) := by decide +kernel
theorem dX10_begins_61 : decode cX10_begins 61 = .ok (.return_, 1) := by decide +kernel
set_option maxRecDepth 20000 in
set_option maxHeartbeats 2000000 in
theorem V_X10_begins_0 {X : Ctx} (C : C_X10_begins X) {k n : Nat} {Q : Pq} {h : Hp} {v0 : Nat} {v1 : Int32}
    (hv : St10 h v0 ∧ inb ((v1 * 61) + 53) 732 ∧ inb ((v1 * 61) + 54) 732 ∧ inb ((v1 * 61) + 60) 732 ∧ inb (v1 * 122) 1464 ∧ inb ((v1 * 122) + 1) 1464 ∧ Q none (sl (sl (si (si (si h (v0 + 3) (ix ((v1 * 61) + 53)) 0) (v0 + 3) (ix ((v1 * 61) + 54)) 0) (v0 + 3) (ix ((v1 * 61) + 60)) 0) (v0 + 4) (ix (v1 * 122)) 0) (v0 + 4) (ix ((v1 * 122) + 1)) 1)) :
    Wj X k n Q 0 [(0, .ref v0), (1, .int v1)] [] h := by
  refine w_aload_n (pc := 0) C dX10_begins_0 rfl ?_
  obtain ⟨f1, hv⟩ := hv
  refine w_getR (pc := 1) C fl_X10_68 rfl dX10_begins_1 (St10_k f1) (St10_r7 f1) ?_
  refine w_iload_n (pc := 4) C dX10_begins_4 rfl ?_
  refine w_bipush (pc := 5) C (v := 61) dX10_begins_5 (by decide) ?_
  refine w_imul (pc := 7) C dX10_begins_7 ?_
  refine w_bipush (pc := 8) C (v := 53) dX10_begins_8 (by decide) ?_
  refine w_iadd (pc := 10) C dX10_begins_10 ?_
  refine w_iconst (pc := 11) C (v := 0) dX10_begins_11 (by decide) ?_
  obtain ⟨f2, hv⟩ := hv
  refine w_iast (pc := 12) C dX10_begins_12 (St10_k7 f1) (inbl (St10_l7 f1) f2) ?_
  refine w_aload_n (pc := 13) C dX10_begins_13 rfl ?_
  refine w_getR (pc := 14) C fl_X10_68 rfl dX10_begins_14 (St10_k f1) (St10_r7 f1) ?_
  refine w_iload_n (pc := 17) C dX10_begins_17 rfl ?_
  refine w_bipush (pc := 18) C (v := 61) dX10_begins_18 (by decide) ?_
  refine w_imul (pc := 20) C dX10_begins_20 ?_
  refine w_bipush (pc := 21) C (v := 54) dX10_begins_21 (by decide) ?_
  refine w_iadd (pc := 23) C dX10_begins_23 ?_
  refine w_iconst (pc := 24) C (v := 0) dX10_begins_24 (by decide) ?_
  obtain ⟨f3, hv⟩ := hv
  refine w_iast (pc := 25) C dX10_begins_25 (St10_k7 f1) (inbl (St10_l7 f1) f3) ?_
  refine w_aload_n (pc := 26) C dX10_begins_26 rfl ?_
  refine w_getR (pc := 27) C fl_X10_68 rfl dX10_begins_27 (St10_k f1) (St10_r7 f1) ?_
  refine w_iload_n (pc := 30) C dX10_begins_30 rfl ?_
  refine w_bipush (pc := 31) C (v := 61) dX10_begins_31 (by decide) ?_
  refine w_imul (pc := 33) C dX10_begins_33 ?_
  refine w_bipush (pc := 34) C (v := 60) dX10_begins_34 (by decide) ?_
  refine w_iadd (pc := 36) C dX10_begins_36 ?_
  refine w_iconst (pc := 37) C (v := 0) dX10_begins_37 (by decide) ?_
  obtain ⟨f4, hv⟩ := hv
  refine w_iast (pc := 38) C dX10_begins_38 (St10_k7 f1) (inbl (St10_l7 f1) f4) ?_
  refine w_aload_n (pc := 39) C dX10_begins_39 rfl ?_
  refine w_getR (pc := 40) C fl_X10_71 rfl dX10_begins_40 (St10_k f1) (St10_r8 f1) ?_
  refine w_iload_n (pc := 43) C dX10_begins_43 rfl ?_
  refine w_bipush (pc := 44) C (v := 122) dX10_begins_44 (by decide) ?_
  refine w_imul (pc := 46) C dX10_begins_46 ?_
  refine w_lconst (pc := 47) C (v := 0) dX10_begins_47 (by decide) ?_
  obtain ⟨f5, hv⟩ := hv
  refine w_last (pc := 48) C dX10_begins_48 (St10_k8 f1) (inbl (St10_l8 f1) f5) ?_
  refine w_aload_n (pc := 49) C dX10_begins_49 rfl ?_
  refine w_getR (pc := 50) C fl_X10_71 rfl dX10_begins_50 (St10_k f1) (St10_r8 f1) ?_
  refine w_iload_n (pc := 53) C dX10_begins_53 rfl ?_
  refine w_bipush (pc := 54) C (v := 122) dX10_begins_54 (by decide) ?_
  refine w_imul (pc := 56) C dX10_begins_56 ?_
  refine w_iconst (pc := 57) C (v := 1) dX10_begins_57 (by decide) ?_
  refine w_iadd (pc := 58) C dX10_begins_58 ?_
  refine w_lconst (pc := 59) C (v := 1) dX10_begins_59 (by decide) ?_
  obtain ⟨f6, hv⟩ := hv
  refine w_last (pc := 60) C dX10_begins_60 (St10_k8 f1) (inbl (St10_l8 f1) f6) ?_
  exact w_vret (pc := 61) C dX10_begins_61 hv
theorem dX10_copies_0 : decode cX10_copies 0 = .ok (.iconst 0, 1) := by decide +kernel
theorem dX10_copies_1 : decode cX10_copies 1 = .ok (.istore_n 3, 1) := by decide +kernel
theorem dX10_copies_2 : decode cX10_copies 2 = .ok (.iload_n 3, 1) := by decide +kernel
theorem dX10_copies_3 : decode cX10_copies 3 = .ok (.bipush 61, 2) := by decide +kernel
theorem dX10_copies_5 : decode cX10_copies 5 = .ok (.if_icmp .ge 31, 3) := by decide +kernel
theorem dX10_copies_8 : decode cX10_copies 8 = .ok (.aload_n 0, 1) := by decide +kernel
theorem dX10_copies_9 : decode cX10_copies 9 = .ok (.getfield 68, 3) := by decide +kernel
theorem dX10_copies_12 : decode cX10_copies 12 = .ok (.iload_n 2, 1) := by decide +kernel
theorem dX10_copies_13 : decode cX10_copies 13 = .ok (.bipush 61, 2) := by decide +kernel
theorem dX10_copies_15 : decode cX10_copies 15 = .ok (.imul, 1) := by decide +kernel
theorem dX10_copies_16 : decode cX10_copies 16 = .ok (.iload_n 3, 1) := by decide +kernel
theorem dX10_copies_17 : decode cX10_copies 17 = .ok (.iadd, 1) := by decide +kernel
theorem dX10_copies_18 : decode cX10_copies 18 = .ok (.aload_n 0, 1) := by decide +kernel
theorem dX10_copies_19 : decode cX10_copies 19 = .ok (.getfield 68, 3) := by decide +kernel
theorem dX10_copies_22 : decode cX10_copies 22 = .ok (.iload_n 1, 1) := by decide +kernel
theorem dX10_copies_23 : decode cX10_copies 23 = .ok (.bipush 61, 2) := by decide +kernel
theorem dX10_copies_25 : decode cX10_copies 25 = .ok (.imul, 1) := by decide +kernel
theorem dX10_copies_26 : decode cX10_copies 26 = .ok (.iload_n 3, 1) := by decide +kernel
theorem dX10_copies_27 : decode cX10_copies 27 = .ok (.iadd, 1) := by decide +kernel
theorem dX10_copies_28 : decode cX10_copies 28 = .ok (.iaload, 1) := by decide +kernel
theorem dX10_copies_29 : decode cX10_copies 29 = .ok (.iastore, 1) := by decide +kernel
theorem dX10_copies_30 : decode cX10_copies 30 = .ok (.iinc 3 1, 3) := by decide +kernel
theorem dX10_copies_33 : decode cX10_copies 33 = .ok (.goto (-31), 3) := by decide +kernel
theorem dX10_copies_36 : decode cX10_copies 36 = .ok (.iconst 0, 1) := by decide +kernel
theorem dX10_copies_37 : decode cX10_copies 37 = .ok (.istore_n 3, 1) := by decide +kernel
theorem dX10_copies_38 : decode cX10_copies 38 = .ok (.iload_n 3, 1) := by decide +kernel
theorem dX10_copies_39 : decode cX10_copies 39 = .ok (.bipush 122, 2) := by decide +kernel
theorem dX10_copies_41 : decode cX10_copies 41 = .ok (.if_icmp .ge 31, 3) := by decide +kernel
theorem dX10_copies_44 : decode cX10_copies 44 = .ok (.aload_n 0, 1) := by decide +kernel
theorem dX10_copies_45 : decode cX10_copies 45 = .ok (.getfield 71, 3) := by decide +kernel
theorem dX10_copies_48 : decode cX10_copies 48 = .ok (.iload_n 2, 1) := by decide +kernel
theorem dX10_copies_49 : decode cX10_copies 49 = .ok (.bipush 122, 2) := by decide +kernel
theorem dX10_copies_51 : decode cX10_copies 51 = .ok (.imul, 1) := by decide +kernel
theorem dX10_copies_52 : decode cX10_copies 52 = .ok (.iload_n 3, 1) := by decide +kernel
theorem dX10_copies_53 : decode cX10_copies 53 = .ok (.iadd, 1) := by decide +kernel
theorem dX10_copies_54 : decode cX10_copies 54 = .ok (.aload_n 0, 1) := by decide +kernel
theorem dX10_copies_55 : decode cX10_copies 55 = .ok (.getfield 71, 3) := by decide +kernel
theorem dX10_copies_58 : decode cX10_copies 58 = .ok (.iload_n 1, 1) := by decide +kernel
theorem dX10_copies_59 : decode cX10_copies 59 = .ok (.bipush 122, 2) := by decide +kernel
theorem dX10_copies_61 : decode cX10_copies 61 = .ok (.imul, 1) := by decide +kernel
theorem dX10_copies_62 : decode cX10_copies 62 = .ok (.iload_n 3, 1) := by decide +kernel
theorem dX10_copies_63 : decode cX10_copies 63 = .ok (.iadd, 1) := by decide +kernel
theorem dX10_copies_64 : decode cX10_copies 64 = .ok (.laload, 1) := by decide +kernel
theorem dX10_copies_65 : decode cX10_copies 65 = .ok (.lastore, 1) := by decide +kernel
theorem dX10_copies_66 : decode cX10_copies 66 = .ok (.iinc 3 1, 3) := by decide +kernel
theorem dX10_copies_69 : decode cX10_copies 69 = .ok (.goto (-31), 3) := by decide +kernel
theorem dX10_copies_72 : decode cX10_copies 72 = .ok (.return_, 1) := by decide +kernel
set_option maxRecDepth 20000 in
set_option maxHeartbeats 2000000 in
theorem V_X10_copies_0 {X : Ctx} (C : C_X10_copies X) {k n : Nat} {Q : Pq} {h : Hp} {v0 : Nat} {v1 v2 : Int32}
    (hv : Wj X k n Q 2 [(0, .ref v0), (1, .int v1), (2, .int v2), (3, .int 0)] [] h) :
    Wj X k n Q 0 [(0, .ref v0), (1, .int v1), (2, .int v2)] [] h := by
  refine w_iconst (pc := 0) C (v := 0) dX10_copies_0 (by decide) ?_
  refine w_istore_n (pc := 1) C dX10_copies_1 (by decide) ?_
  refine w_sub ?_ hv
  exact ⟨rfl, rfl, rfl, rfl, trivial⟩
set_option maxRecDepth 20000 in
set_option maxHeartbeats 2000000 in
theorem V_X10_copies_2 {X : Ctx} (C : C_X10_copies X) {k n : Nat} {Q : Pq} {h : Hp} {v0 : Nat} {v1 v2 v3 : Int32}
    (hv : ((61 ≤ v3 → Wj X k n Q 38 [(0, .ref v0), (1, .int v1), (2, .int v2), (3, .int 0)] [] h) ∧
    (¬ 61 ≤ v3 → St10 h v0 ∧ inb ((v1 * 61) + v3) 732 ∧ inb ((v2 * 61) + v3) 732 ∧ Wj X k n Q 2 [(0, .ref v0), (1, .int v1), (2, .int v2), (3, .int (v3 + Int32.ofInt 1))] [] (si h (v0 + 3) (ix ((v2 * 61) + v3)) (gi h (v0 + 3) (ix ((v1 * 61) + v3))))))) :
    Wj X k n Q 2 [(0, .ref v0), (1, .int v1), (2, .int v2), (3, .int v3)] [] h := by
  refine w_iload_n (pc := 2) C dX10_copies_2 rfl ?_
  refine w_bipush (pc := 3) C (v := 61) dX10_copies_3 (by decide) ?_
  refine w_icmp_ge (pc := 5) C (tgt := 36) dX10_copies_5 (by decide) ?_
  obtain ⟨hv1, hv2⟩ := hv
  refine ⟨fun c4 => ?_, fun c4 => ?_⟩
  · have hv := hv1 c4
    refine w_iconst (pc := 36) C (v := 0) dX10_copies_36 (by decide) ?_
    refine w_istore_n (pc := 37) C dX10_copies_37 (by decide) ?_
    refine w_sub ?_ hv
    exact ⟨rfl, rfl, rfl, rfl, trivial⟩
  · have hv := hv2 c4
    refine w_aload_n (pc := 8) C dX10_copies_8 rfl ?_
    obtain ⟨f1, hv⟩ := hv
    refine w_getR (pc := 9) C fl_X10_68 rfl dX10_copies_9 (St10_k f1) (St10_r7 f1) ?_
    refine w_iload_n (pc := 12) C dX10_copies_12 rfl ?_
    refine w_bipush (pc := 13) C (v := 61) dX10_copies_13 (by decide) ?_
    refine w_imul (pc := 15) C dX10_copies_15 ?_
    refine w_iload_n (pc := 16) C dX10_copies_16 rfl ?_
    refine w_iadd (pc := 17) C dX10_copies_17 ?_
    refine w_aload_n (pc := 18) C dX10_copies_18 rfl ?_
    refine w_getR (pc := 19) C fl_X10_68 rfl dX10_copies_19 (St10_k f1) (St10_r7 f1) ?_
    refine w_iload_n (pc := 22) C dX10_copies_22 rfl ?_
    refine w_bipush (pc := 23) C (v := 61) dX10_copies_23 (by decide) ?_
    refine w_imul (pc := 25) C dX10_copies_25 ?_
    refine w_iload_n (pc := 26) C dX10_copies_26 rfl ?_
    refine w_iadd (pc := 27) C dX10_copies_27 ?_
    obtain ⟨f2, hv⟩ := hv
    refine w_iald (pc := 28) C dX10_copies_28 (St10_k7 f1) (inbl (St10_l7 f1) f2) ?_
    obtain ⟨f3, hv⟩ := hv
    refine w_iast (pc := 29) C dX10_copies_29 (St10_k7 f1) (inbl (St10_l7 f1) f3) ?_
    refine w_iinc (pc := 30) C dX10_copies_30 rfl (by decide) ?_
    refine w_goto (pc := 33) C (tgt := 2) dX10_copies_33 (by decide) ?_
    refine w_sub ?_ hv
    exact ⟨rfl, rfl, rfl, rfl, trivial⟩
set_option maxRecDepth 20000 in
set_option maxHeartbeats 2000000 in
theorem V_X10_copies_38 {X : Ctx} (C : C_X10_copies X) {k n : Nat} {Q : Pq} {h : Hp} {v0 : Nat} {v1 v2 v3 : Int32}
    (hv : ((122 ≤ v3 → Q none h) ∧
    (¬ 122 ≤ v3 → St10 h v0 ∧ inb ((v1 * 122) + v3) 1464 ∧ inb ((v2 * 122) + v3) 1464 ∧ Wj X k n Q 38 [(0, .ref v0), (1, .int v1), (2, .int v2), (3, .int (v3 + Int32.ofInt 1))] [] (sl h (v0 + 4) (ix ((v2 * 122) + v3)) (gl h (v0 + 4) (ix ((v1 * 122) + v3))))))) :
    Wj X k n Q 38 [(0, .ref v0), (1, .int v1), (2, .int v2), (3, .int v3)] [] h := by
  refine w_iload_n (pc := 38) C dX10_copies_38 rfl ?_
  refine w_bipush (pc := 39) C (v := 122) dX10_copies_39 (by decide) ?_
  refine w_icmp_ge (pc := 41) C (tgt := 72) dX10_copies_41 (by decide) ?_
  obtain ⟨hv1, hv2⟩ := hv
  refine ⟨fun c4 => ?_, fun c4 => ?_⟩
  · have hv := hv1 c4
    exact w_vret (pc := 72) C dX10_copies_72 hv
  · have hv := hv2 c4
    refine w_aload_n (pc := 44) C dX10_copies_44 rfl ?_
    obtain ⟨f1, hv⟩ := hv
    refine w_getR (pc := 45) C fl_X10_71 rfl dX10_copies_45 (St10_k f1) (St10_r8 f1) ?_
    refine w_iload_n (pc := 48) C dX10_copies_48 rfl ?_
    refine w_bipush (pc := 49) C (v := 122) dX10_copies_49 (by decide) ?_
    refine w_imul (pc := 51) C dX10_copies_51 ?_
    refine w_iload_n (pc := 52) C dX10_copies_52 rfl ?_
    refine w_iadd (pc := 53) C dX10_copies_53 ?_
    refine w_aload_n (pc := 54) C dX10_copies_54 rfl ?_
    refine w_getR (pc := 55) C fl_X10_71 rfl dX10_copies_55 (St10_k f1) (St10_r8 f1) ?_
    refine w_iload_n (pc := 58) C dX10_copies_58 rfl ?_
    refine w_bipush (pc := 59) C (v := 122) dX10_copies_59 (by decide) ?_
    refine w_imul (pc := 61) C dX10_copies_61 ?_
    refine w_iload_n (pc := 62) C dX10_copies_62 rfl ?_
    refine w_iadd (pc := 63) C dX10_copies_63 ?_
    obtain ⟨f2, hv⟩ := hv
    refine w_lald (pc := 64) C dX10_copies_64 (St10_k8 f1) (inbl (St10_l8 f1) f2) ?_
    obtain ⟨f3, hv⟩ := hv
    refine w_last (pc := 65) C dX10_copies_65 (St10_k8 f1) (inbl (St10_l8 f1) f3) ?_
    refine w_iinc (pc := 66) C dX10_copies_66 rfl (by decide) ?_
    refine w_goto (pc := 69) C (tgt := 38) dX10_copies_69 (by decide) ?_
    refine w_sub ?_ hv
    exact ⟨rfl, rfl, rfl, rfl, trivial⟩
theorem dX10_done_0 : decode cX10_done 0 = .ok (.iload_n 1, 1) := by decide +kernel
theorem dX10_done_1 : decode cX10_done 1 = .ok (.ifCond .ge 5, 3) := by decide +kernel
theorem dX10_done_4 : decode cX10_done 4 = .ok (.iload_n 1, 1) := by decide +kernel
theorem dX10_done_5 : decode cX10_done 5 = .ok (.ireturn, 1) := by decide +kernel
theorem dX10_done_6 : decode cX10_done 6 = .ok (.aload_n 0, 1) := by decide +kernel
theorem dX10_done_7 : decode cX10_done 7 = .ok (.getfield 115, 3) := by decide +kernel
theorem dX10_done_10 : decode cX10_done 10 = .ok (.bipush 7, 2) := by decide +kernel
theorem dX10_done_12 : decode cX10_done 12 = .ok (.if_icmp .ne 41, 3) := by decide +kernel
theorem dX10_done_15 : decode cX10_done 15 = .ok (.iconst 0, 1) := by decide +kernel
theorem dX10_done_16 : decode cX10_done 16 = .ok (.istore_n 2, 1) := by decide +kernel
theorem dX10_done_17 : decode cX10_done 17 = .ok (.iload_n 2, 1) := by decide +kernel
theorem dX10_done_18 : decode cX10_done 18 = .ok (.iconst 1, 1) := by decide +kernel
theorem dX10_done_19 : decode cX10_done 19 = .ok (.iadd, 1) := by decide +kernel
theorem dX10_done_20 : decode cX10_done 20 = .ok (.bipush 7, 2) := by decide +kernel
theorem dX10_done_22 : decode cX10_done 22 = .ok (.if_icmp .ge 21, 3) := by decide +kernel
theorem dX10_done_25 : decode cX10_done 25 = .ok (.aload_n 0, 1) := by decide +kernel
theorem dX10_done_26 : decode cX10_done 26 = .ok (.iconst 5, 1) := by decide +kernel
theorem dX10_done_27 : decode cX10_done 27 = .ok (.iload_n 2, 1) := by decide +kernel
theorem dX10_done_28 : decode cX10_done 28 = .ok (.iadd, 1) := by decide +kernel
theorem dX10_done_29 : decode cX10_done 29 = .ok (.iconst 1, 1) := by decide +kernel
theorem dX10_done_30 : decode cX10_done 30 = .ok (.iadd, 1) := by decide +kernel
theorem dX10_done_31 : decode cX10_done 31 = .ok (.iconst 5, 1) := by decide +kernel
theorem dX10_done_32 : decode cX10_done 32 = .ok (.iload_n 2, 1) := by decide +kernel
theorem dX10_done_33 : decode cX10_done 33 = .ok (.iadd, 1) := by decide +kernel
theorem dX10_done_34 : decode cX10_done 34 = .ok (.invokevirtual 118, 3) := by decide +kernel
theorem dX10_done_37 : decode cX10_done 37 = .ok (.iinc 2 1, 3) := by decide +kernel
theorem dX10_done_40 : decode cX10_done 40 = .ok (.goto (-23), 3) := by decide +kernel
theorem dX10_done_43 : decode cX10_done 43 = .ok (.aload_n 0, 1) := by decide +kernel
theorem dX10_done_44 : decode cX10_done 44 = .ok (.dup, 1) := by decide +kernel
theorem dX10_done_45 : decode cX10_done 45 = .ok (.getfield 115, 3) := by decide +kernel
theorem dX10_done_48 : decode cX10_done 48 = .ok (.iconst 1, 1) := by decide +kernel
theorem dX10_done_49 : decode cX10_done 49 = .ok (.isub, 1) := by decide +kernel
theorem dX10_done_50 : decode cX10_done 50 = .ok (.putfield 115, 3) := by decide +kernel
theorem dX10_done_53 : decode cX10_done 53 = .ok (.aload_n 0, 1) := by decide +kernel
theorem dX10_done_54 : decode cX10_done 54 = .ok (.iconst 3, 1) := by decide +kernel
theorem dX10_done_55 : decode cX10_done 55 = .ok (.iconst 5, 1) := by decide +kernel
theorem dX10_done_56 : decode cX10_done 56 = .ok (.aload_n 0, 1) := by decide +kernel
theorem dX10_done_57 : decode cX10_done 57 = .ok (.getfield 115, 3) := by decide +kernel
theorem dX10_done_60 : decode cX10_done 60 = .ok (.iadd, 1) := by decide +kernel
theorem dX10_done_61 : decode cX10_done 61 = .ok (.invokevirtual 118, 3) := by decide +kernel
theorem dX10_done_64 : decode cX10_done 64 = .ok (.aload_n 0, 1) := by decide +kernel
theorem dX10_done_65 : decode cX10_done 65 = .ok (.dup, 1) := by decide +kernel
theorem dX10_done_66 : decode cX10_done 66 = .ok (.getfield 115, 3) := by decide +kernel
theorem dX10_done_69 : decode cX10_done 69 = .ok (.iconst 1, 1) := by decide +kernel
theorem dX10_done_70 : decode cX10_done 70 = .ok (.iadd, 1) := by decide +kernel
theorem dX10_done_71 : decode cX10_done 71 = .ok (.putfield 115, 3) := by decide +kernel
theorem dX10_done_74 : decode cX10_done 74 = .ok (.iload_n 1, 1) := by decide +kernel
theorem dX10_done_75 : decode cX10_done 75 = .ok (.ireturn, 1) := by decide +kernel
set_option maxRecDepth 20000 in
set_option maxHeartbeats 2000000 in
theorem V_X10_done_0 {X : Ctx} (C : C_X10_done X) {k n : Nat} {Q : Pq} {h : Hp} {v0 : Nat} {v1 : Int32}
    (hv : ((0 ≤ v1 → St10 h v0 ∧ ((¬ (gi h v0 9) = 7 → Wj X k n Q 53 [(0, .ref v0), (1, .int v1)] [] h) ∧
    ((gi h v0 9) = 7 → Wj X k n Q 17 [(0, .ref v0), (1, .int v1), (2, .int 0)] [] h))) ∧
    (¬ 0 ≤ v1 → Q (some (.int v1)) h))) :
    Wj X k n Q 0 [(0, .ref v0), (1, .int v1)] [] h := by
  refine w_iload_n (pc := 0) C dX10_done_0 rfl ?_
  refine w_if_ge (pc := 1) C (tgt := 6) dX10_done_1 (by decide) ?_
  obtain ⟨hv1, hv2⟩ := hv
  refine ⟨fun c3 => ?_, fun c3 => ?_⟩
  · have hv := hv1 c3
    refine w_aload_n (pc := 6) C dX10_done_6 rfl ?_
    obtain ⟨f1, hv⟩ := hv
    refine w_getI (pc := 7) C fl_X10_115 rfl dX10_done_7 (St10_k f1) ?_
    refine w_bipush (pc := 10) C (v := 7) dX10_done_10 (by decide) ?_
    refine w_icmp_ne (pc := 12) C (tgt := 53) dX10_done_12 (by decide) ?_
    obtain ⟨hv1, hv2⟩ := hv
    refine ⟨fun c2 => ?_, fun c2 => ?_⟩
    · have hv := hv1 c2
      refine w_sub ?_ hv
      exact ⟨rfl, rfl, trivial⟩
    · have hv := hv2 c2
      refine w_iconst (pc := 15) C (v := 0) dX10_done_15 (by decide) ?_
      refine w_istore_n (pc := 16) C dX10_done_16 (by decide) ?_
      refine w_sub ?_ hv
      exact ⟨rfl, rfl, rfl, trivial⟩
  · have hv := hv2 c3
    refine w_iload_n (pc := 4) C dX10_done_4 rfl ?_
    exact w_iret (pc := 5) C dX10_done_5 hv
set_option maxRecDepth 20000 in
set_option maxHeartbeats 2000000 in
theorem V_X10_done_17 {X : Ctx} (C : C_X10_done X) {k n : Nat} {Q : Pq} {h : Hp} {v0 : Nat} {v1 v2 : Int32}
    (hv : ((7 ≤ (v2 + 1) → St10 h v0 ∧ Wj X k n Q 53 [(0, .ref v0), (1, .int v1)] [] (si h v0 9 ((gi h v0 9) - 1))) ∧
    (¬ 7 ≤ (v2 + 1) → St10 h v0 ∧ S_X10_copies (lX X) (dtX X) 0 0 [.ref v0, .int ((5 + v2) + 1), .int (5 + v2)] h (QV fun h3 =>
    Wj X k n Q 17 [(0, .ref v0), (1, .int v1), (2, .int (v2 + Int32.ofInt 1))] [] h3)))) :
    Wj X k n Q 17 [(0, .ref v0), (1, .int v1), (2, .int v2)] [] h := by
  refine w_iload_n (pc := 17) C dX10_done_17 rfl ?_
  refine w_iconst (pc := 18) C (v := 1) dX10_done_18 (by decide) ?_
  refine w_iadd (pc := 19) C dX10_done_19 ?_
  refine w_bipush (pc := 20) C (v := 7) dX10_done_20 (by decide) ?_
  refine w_icmp_ge (pc := 22) C (tgt := 43) dX10_done_22 (by decide) ?_
  obtain ⟨hv1, hv2⟩ := hv
  refine ⟨fun c4 => ?_, fun c4 => ?_⟩
  · have hv := hv1 c4
    refine w_aload_n (pc := 43) C dX10_done_43 rfl ?_
    refine w_dup (pc := 44) C dX10_done_44 rfl ?_
    obtain ⟨f1, hv⟩ := hv
    refine w_getI (pc := 45) C fl_X10_115 rfl dX10_done_45 (St10_k f1) ?_
    refine w_iconst (pc := 48) C (v := 1) dX10_done_48 (by decide) ?_
    refine w_isub (pc := 49) C dX10_done_49 ?_
    refine w_putI (pc := 50) C fl_X10_115 rfl rfl dX10_done_50 (St10_k f1) ?_
    refine w_sub ?_ hv
    exact ⟨rfl, rfl, trivial⟩
  · have hv := hv2 c4
    refine w_aload_n (pc := 25) C dX10_done_25 rfl ?_
    refine w_iconst (pc := 26) C (v := 5) dX10_done_26 (by decide) ?_
    refine w_iload_n (pc := 27) C dX10_done_27 rfl ?_
    refine w_iadd (pc := 28) C dX10_done_28 ?_
    refine w_iconst (pc := 29) C (v := 1) dX10_done_29 (by decide) ?_
    refine w_iadd (pc := 30) C dX10_done_30 ?_
    refine w_iconst (pc := 31) C (v := 5) dX10_done_31 (by decide) ?_
    refine w_iload_n (pc := 32) C dX10_done_32 rfl ?_
    refine w_iadd (pc := 33) C dX10_done_33 ?_
    obtain ⟨f2, hv⟩ := hv
    refine w_cV0_2 (pc := 34) C cl_X10_118 lv_X10_copies (by decide) dX10_done_34 (Nat.le_of_ble_eq_true rfl) (c := 10) rfl (St10_k f2) (hv.mono (fun v h3 hp => ?_))
    obtain ⟨rfl, hv⟩ := hp
    refine w_iinc (pc := 37) C dX10_done_37 rfl (by decide) ?_
    refine w_goto (pc := 40) C (tgt := 17) dX10_done_40 (by decide) ?_
    refine w_sub ?_ hv
    exact ⟨rfl, rfl, rfl, trivial⟩
set_option maxRecDepth 20000 in
set_option maxHeartbeats 2000000 in
theorem V_X10_done_53 {X : Ctx} (C : C_X10_done X) {k n : Nat} {Q : Pq} {h : Hp} {v0 : Nat} {v1 : Int32}
    (hv : St10 h v0 ∧ S_X10_copies (lX X) (dtX X) 0 0 [.ref v0, .int 3, .int (5 + (gi h v0 9))] h (QV fun h2 =>
    St10 h2 v0 ∧ Q (some (.int v1)) (si h2 v0 9 ((gi h2 v0 9) + 1)))) :
    Wj X k n Q 53 [(0, .ref v0), (1, .int v1)] [] h := by
  refine w_aload_n (pc := 53) C dX10_done_53 rfl ?_
  refine w_iconst (pc := 54) C (v := 3) dX10_done_54 (by decide) ?_
  refine w_iconst (pc := 55) C (v := 5) dX10_done_55 (by decide) ?_
  refine w_aload_n (pc := 56) C dX10_done_56 rfl ?_
  obtain ⟨f1, hv⟩ := hv
  refine w_getI (pc := 57) C fl_X10_115 rfl dX10_done_57 (St10_k f1) ?_
  refine w_iadd (pc := 60) C dX10_done_60 ?_
  refine w_cV0_2 (pc := 61) C cl_X10_118 lv_X10_copies (by decide) dX10_done_61 (Nat.le_of_ble_eq_true rfl) (c := 10) rfl (St10_k f1) (hv.mono (fun v h2 hp => ?_))
  obtain ⟨rfl, hv⟩ := hp
  refine w_aload_n (pc := 64) C dX10_done_64 rfl ?_
  refine w_dup (pc := 65) C dX10_done_65 rfl ?_
  obtain ⟨f3, hv⟩ := hv
  refine w_getI (pc := 66) C fl_X10_115 rfl dX10_done_66 (St10_k f3) ?_
  refine w_iconst (pc := 69) C (v := 1) dX10_done_69 (by decide) ?_
  refine w_iadd (pc := 70) C dX10_done_70 ?_
  refine w_putI (pc := 71) C fl_X10_115 rfl rfl dX10_done_71 (St10_k f3) ?_
  refine w_iload_n (pc := 74) C dX10_done_74 rfl ?_
  exact w_iret (pc := 75) C dX10_done_75 hv
theorem dX10_undo_0 : decode cX10_undo 0 = .ok (.aload_n 0, 1) := by decide +kernel
theorem dX10_undo_1 : decode cX10_undo 1 = .ok (.iconst 0, 1) := by decide +kernel
theorem dX10_undo_2 : decode cX10_undo 2 = .ok (.putfield 1, 3) := by decide +kernel
theorem dX10_undo_5 : decode cX10_undo 5 = .ok (.aload_n 0, 1) := by decide +kernel
theorem dX10_undo_6 : decode cX10_undo 6 = .ok (.getfield 115, 3) := by decide +kernel
theorem dX10_undo_9 : decode cX10_undo 9 = .ok (.ifCond .ne 5, 3) := by decide +kernel
theorem dX10_undo_12 : decode cX10_undo 12 = .ok (.iconst (-1), 1) := by decide +kernel
theorem dX10_undo_13 : decode cX10_undo 13 = .ok (.ireturn, 1) := by decide +kernel
theorem dX10_undo_14 : decode cX10_undo 14 = .ok (.aload_n 0, 1) := by decide +kernel
theorem dX10_undo_15 : decode cX10_undo 15 = .ok (.dup, 1) := by decide +kernel
theorem dX10_undo_16 : decode cX10_undo 16 = .ok (.getfield 115, 3) := by decide +kernel
theorem dX10_undo_19 : decode cX10_undo 19 = .ok (.iconst 1, 1) := by decide +kernel
theorem dX10_undo_20 : decode cX10_undo 20 = .ok (.isub, 1) := by decide +kernel
theorem dX10_undo_21 : decode cX10_undo 21 = .ok (.putfield 115, 3) := by decide +kernel
theorem dX10_undo_24 : decode cX10_undo 24 = .ok (.aload_n 0, 1) := by decide +kernel
theorem dX10_undo_25 : decode cX10_undo 25 = .ok (.iconst 5, 1) := by decide +kernel
theorem dX10_undo_26 : decode cX10_undo 26 = .ok (.aload_n 0, 1) := by decide +kernel
theorem dX10_undo_27 : decode cX10_undo 27 = .ok (.getfield 115, 3) := by decide +kernel
theorem dX10_undo_30 : decode cX10_undo 30 = .ok (.iadd, 1) := by decide +kernel
theorem dX10_undo_31 : decode cX10_undo 31 = .ok (.iconst 0, 1) := by decide +kernel
theorem dX10_undo_32 : decode cX10_undo 32 = .ok (.invokevirtual 118, 3) := by decide +kernel
theorem dX10_undo_35 : decode cX10_undo 35 = .ok (.aload_n 0, 1) := by decide +kernel
theorem dX10_undo_36 : decode cX10_undo 36 = .ok (.getfield 115, 3) := by decide +kernel
theorem dX10_undo_39 : decode cX10_undo 39 = .ok (.ireturn, 1) := by decide +kernel
set_option maxRecDepth 20000 in
set_option maxHeartbeats 2000000 in
theorem V_X10_undo_0 {X : Ctx} (C : C_X10_undo X) {k n : Nat} {Q : Pq} {h : Hp} {v0 : Nat}
    (hv : St10 h v0 ∧ ((¬ (gi (si h v0 0 0) v0 9) = 0 → S_X10_copies (lX X) (dtX X) 0 0 [.ref v0, .int (5 + (gi (si (si h v0 0 0) v0 9 ((gi (si h v0 0 0) v0 9) - 1)) v0 9)), .int 0] (si (si h v0 0 0) v0 9 ((gi (si h v0 0 0) v0 9) - 1)) (QV fun h2 =>
    St10 h2 v0 ∧ Q (some (.int (gi h2 v0 9))) h2)) ∧
    ((gi (si h v0 0 0) v0 9) = 0 → Q (some (.int (-1))) (si h v0 0 0)))) :
    Wj X k n Q 0 [(0, .ref v0)] [] h := by
  refine w_aload_n (pc := 0) C dX10_undo_0 rfl ?_
  refine w_iconst (pc := 1) C (v := 0) dX10_undo_1 (by decide) ?_
  obtain ⟨f1, hv⟩ := hv
  refine w_putI (pc := 2) C fl_X10_1 rfl rfl dX10_undo_2 (St10_k f1) ?_
  refine w_aload_n (pc := 5) C dX10_undo_5 rfl ?_
  refine w_getI (pc := 6) C fl_X10_115 rfl dX10_undo_6 (St10_k f1) ?_
  refine w_if_ne (pc := 9) C (tgt := 14) dX10_undo_9 (by decide) ?_
  obtain ⟨hv1, hv2⟩ := hv
  refine ⟨fun c4 => ?_, fun c4 => ?_⟩
  · have hv := hv1 c4
    refine w_aload_n (pc := 14) C dX10_undo_14 rfl ?_
    refine w_dup (pc := 15) C dX10_undo_15 rfl ?_
    refine w_getI (pc := 16) C fl_X10_115 rfl dX10_undo_16 (St10_k f1) ?_
    refine w_iconst (pc := 19) C (v := 1) dX10_undo_19 (by decide) ?_
    refine w_isub (pc := 20) C dX10_undo_20 ?_
    refine w_putI (pc := 21) C fl_X10_115 rfl rfl dX10_undo_21 (St10_k f1) ?_
    refine w_aload_n (pc := 24) C dX10_undo_24 rfl ?_
    refine w_iconst (pc := 25) C (v := 5) dX10_undo_25 (by decide) ?_
    refine w_aload_n (pc := 26) C dX10_undo_26 rfl ?_
    refine w_getI (pc := 27) C fl_X10_115 rfl dX10_undo_27 (St10_k f1) ?_
    refine w_iadd (pc := 30) C dX10_undo_30 ?_
    refine w_iconst (pc := 31) C (v := 0) dX10_undo_31 (by decide) ?_
    refine w_cV0_2 (pc := 32) C cl_X10_118 lv_X10_copies (by decide) dX10_undo_32 (Nat.le_of_ble_eq_true rfl) (c := 10) rfl (St10_k f1) (hv.mono (fun v h2 hp => ?_))
    obtain ⟨rfl, hv⟩ := hp
    refine w_aload_n (pc := 35) C dX10_undo_35 rfl ?_
    obtain ⟨f3, hv⟩ := hv
    refine w_getI (pc := 36) C fl_X10_115 rfl dX10_undo_36 (St10_k f3) ?_
    exact w_iret (pc := 39) C dX10_undo_39 hv
  · have hv := hv2 c4
    refine w_iconst (pc := 12) C (v := (-1)) dX10_undo_12 (by decide) ?_
    exact w_iret (pc := 13) C dX10_undo_13 hv
theorem dX10_keep_0 : decode cX10_keep 0 = .ok (.aload_n 0, 1) := by decide +kernel
theorem dX10_keep_1 : decode cX10_keep 1 = .ok (.iconst 0, 1) := by decide +kernel
theorem dX10_keep_2 : decode cX10_keep 2 = .ok (.putfield 1, 3) := by decide +kernel
theorem dX10_keep_5 : decode cX10_keep 5 = .ok (.iload_n 1, 1) := by decide +kernel
theorem dX10_keep_6 : decode cX10_keep 6 = .ok (.i2l, 1) := by decide +kernel
theorem dX10_keep_7 : decode cX10_keep 7 = .ok (.lconst 0, 1) := by decide +kernel
theorem dX10_keep_8 : decode cX10_keep 8 = .ok (.lconst 1, 1) := by decide +kernel
theorem dX10_keep_9 : decode cX10_keep 9 = .ok (.invokestatic 29, 3) := by decide +kernel
theorem dX10_keep_12 : decode cX10_keep 12 = .ok (.ifCond .ne 5, 3) := by decide +kernel
theorem dX10_keep_15 : decode cX10_keep 15 = .ok (.iconst 0, 1) := by decide +kernel
theorem dX10_keep_16 : decode cX10_keep 16 = .ok (.ireturn, 1) := by decide +kernel
theorem dX10_keep_17 : decode cX10_keep 17 = .ok (.aload_n 0, 1) := by decide +kernel
theorem dX10_keep_18 : decode cX10_keep 18 = .ok (.getfield 107, 3) := by decide +kernel
theorem dX10_keep_21 : decode cX10_keep 21 = .ok (.iload_n 1, 1) := by decide +kernel
theorem dX10_keep_22 : decode cX10_keep 22 = .ok (.iconst 1, 1) := by decide +kernel
theorem dX10_keep_23 : decode cX10_keep 23 = .ok (.bastore, 1) := by decide +kernel
theorem dX10_keep_24 : decode cX10_keep 24 = .ok (.aload_n 0, 1) := by decide +kernel
theorem dX10_keep_25 : decode cX10_keep 25 = .ok (.iconst 0, 1) := by decide +kernel
theorem dX10_keep_26 : decode cX10_keep 26 = .ok (.iconst 1, 1) := by decide +kernel
theorem dX10_keep_27 : decode cX10_keep 27 = .ok (.iload_n 1, 1) := by decide +kernel
theorem dX10_keep_28 : decode cX10_keep 28 = .ok (.iadd, 1) := by decide +kernel
theorem dX10_keep_29 : decode cX10_keep 29 = .ok (.invokevirtual 118, 3) := by decide +kernel
theorem dX10_keep_32 : decode cX10_keep 32 = .ok (.iconst 1, 1) := by decide +kernel
theorem dX10_keep_33 : decode cX10_keep 33 = .ok (.ireturn, 1) := by decide +kernel
set_option maxRecDepth 20000 in
set_option maxHeartbeats 2000000 in
theorem V_X10_keep_0 {X : Ctx} (C : C_X10_keep X) {k n : Nat} {Q : Pq} {h : Hp} {v0 : Nat} {v1 : Int32}
    (hv : St10 h v0 ∧ ((¬ (btL (Int32.toInt64 v1) 0 1) = 0 → inb v1 2 ∧ S_X10_copies (lX X) (dtX X) 0 0 [.ref v0, .int 0, .int (1 + v1)] (si (si h v0 0 0) (v0 + 16) (ix v1) (vp_nar .boolean 1)) (QV fun h3 =>
    Q (some (.int 1)) h3)) ∧
    ((btL (Int32.toInt64 v1) 0 1) = 0 → Q (some (.int 0)) (si h v0 0 0)))) :
    Wj X k n Q 0 [(0, .ref v0), (1, .int v1)] [] h := by
  refine w_aload_n (pc := 0) C dX10_keep_0 rfl ?_
  refine w_iconst (pc := 1) C (v := 0) dX10_keep_1 (by decide) ?_
  obtain ⟨f1, hv⟩ := hv
  refine w_putI (pc := 2) C fl_X10_1 rfl rfl dX10_keep_2 (St10_k f1) ?_
  refine w_iload_n (pc := 5) C dX10_keep_5 rfl ?_
  refine w_i2l (pc := 6) C dX10_keep_6 ?_
  refine w_lconst (pc := 7) C (v := 0) dX10_keep_7 (by decide) ?_
  refine w_lconst (pc := 8) C (v := 1) dX10_keep_8 (by decide) ?_
  refine w_cS0_3 (pc := 9) C cl_X10_29 ls_X10_in (by decide) dX10_keep_9 (Nat.le_of_ble_eq_true rfl) ((sf_X10_in (h := (si h v0 0 0)) ).mono (fun v h9 hp => ?_))
  obtain ⟨e1, e2⟩ := hp
  rw [e1, e2]
  refine w_if_ne (pc := 12) C (tgt := 17) dX10_keep_12 (by decide) ?_
  obtain ⟨hv1, hv2⟩ := hv
  refine ⟨fun c4 => ?_, fun c4 => ?_⟩
  · have hv := hv1 c4
    refine w_aload_n (pc := 17) C dX10_keep_17 rfl ?_
    refine w_getR (pc := 18) C fl_X10_107 rfl dX10_keep_18 (St10_k f1) (St10_r42 f1) ?_
    refine w_iload_n (pc := 21) C dX10_keep_21 rfl ?_
    refine w_iconst (pc := 22) C (v := 1) dX10_keep_22 (by decide) ?_
    obtain ⟨f2, hv⟩ := hv
    refine w_zast (pc := 23) C dX10_keep_23 (St10_k42 f1) (inbl (St10_l42 f1) f2) ?_
    refine w_aload_n (pc := 24) C dX10_keep_24 rfl ?_
    refine w_iconst (pc := 25) C (v := 0) dX10_keep_25 (by decide) ?_
    refine w_iconst (pc := 26) C (v := 1) dX10_keep_26 (by decide) ?_
    refine w_iload_n (pc := 27) C dX10_keep_27 rfl ?_
    refine w_iadd (pc := 28) C dX10_keep_28 ?_
    refine w_cV0_2 (pc := 29) C cl_X10_118 lv_X10_copies (by decide) dX10_keep_29 (Nat.le_of_ble_eq_true rfl) (c := 10) rfl (St10_k f1) (hv.mono (fun v h3 hp => ?_))
    obtain ⟨rfl, hv⟩ := hp
    refine w_iconst (pc := 32) C (v := 1) dX10_keep_32 (by decide) ?_
    exact w_zret (pc := 33) C dX10_keep_33 (by decide) hv
  · have hv := hv2 c4
    refine w_iconst (pc := 15) C (v := 0) dX10_keep_15 (by decide) ?_
    exact w_zret (pc := 16) C dX10_keep_16 (by decide) hv
theorem dX10_again_0 : decode cX10_again 0 = .ok (.aload_n 0, 1) := by decide +kernel
theorem dX10_again_1 : decode cX10_again 1 = .ok (.iconst 0, 1) := by decide +kernel
theorem dX10_again_2 : decode cX10_again 2 = .ok (.putfield 1, 3) := by decide +kernel
theorem dX10_again_5 : decode cX10_again 5 = .ok (.iload_n 1, 1) := by decide +kernel
theorem dX10_again_6 : decode cX10_again 6 = .ok (.i2l, 1) := by decide +kernel
theorem dX10_again_7 : decode cX10_again 7 = .ok (.lconst 0, 1) := by decide +kernel
theorem dX10_again_8 : decode cX10_again 8 = .ok (.lconst 1, 1) := by decide +kernel
theorem dX10_again_9 : decode cX10_again 9 = .ok (.invokestatic 29, 3) := by decide +kernel
theorem dX10_again_12 : decode cX10_again 12 = .ok (.ifCond .eq 12, 3) := by decide +kernel
theorem dX10_again_15 : decode cX10_again 15 = .ok (.aload_n 0, 1) := by decide +kernel
theorem dX10_again_16 : decode cX10_again 16 = .ok (.getfield 107, 3) := by decide +kernel
theorem dX10_again_19 : decode cX10_again 19 = .ok (.iload_n 1, 1) := by decide +kernel
theorem dX10_again_20 : decode cX10_again 20 = .ok (.baload, 1) := by decide +kernel
theorem dX10_again_21 : decode cX10_again 21 = .ok (.ifCond .ne 5, 3) := by decide +kernel
theorem dX10_again_24 : decode cX10_again 24 = .ok (.iconst 0, 1) := by decide +kernel
theorem dX10_again_25 : decode cX10_again 25 = .ok (.ireturn, 1) := by decide +kernel
theorem dX10_again_26 : decode cX10_again 26 = .ok (.aload_n 0, 1) := by decide +kernel
theorem dX10_again_27 : decode cX10_again 27 = .ok (.iconst 1, 1) := by decide +kernel
theorem dX10_again_28 : decode cX10_again 28 = .ok (.iload_n 1, 1) := by decide +kernel
theorem dX10_again_29 : decode cX10_again 29 = .ok (.iadd, 1) := by decide +kernel
theorem dX10_again_30 : decode cX10_again 30 = .ok (.iconst 0, 1) := by decide +kernel
theorem dX10_again_31 : decode cX10_again 31 = .ok (.invokevirtual 118, 3) := by decide +kernel
theorem dX10_again_34 : decode cX10_again 34 = .ok (.aload_n 0, 1) := by decide +kernel
theorem dX10_again_35 : decode cX10_again 35 = .ok (.iconst 0, 1) := by decide +kernel
theorem dX10_again_36 : decode cX10_again 36 = .ok (.putfield 115, 3) := by decide +kernel
theorem dX10_again_39 : decode cX10_again 39 = .ok (.iconst 1, 1) := by decide +kernel
theorem dX10_again_40 : decode cX10_again 40 = .ok (.ireturn, 1) := by decide +kernel
set_option maxRecDepth 20000 in
set_option maxHeartbeats 2000000 in
theorem V_X10_again_0 {X : Ctx} (C : C_X10_again X) {k n : Nat} {Q : Pq} {h : Hp} {v0 : Nat} {v1 : Int32}
    (hv : St10 h v0 ∧ (((btL (Int32.toInt64 v1) 0 1) = 0 → Q (some (.int 0)) (si h v0 0 0)) ∧
    (¬ (btL (Int32.toInt64 v1) 0 1) = 0 → inb v1 2 ∧ ((¬ (gi (si h v0 0 0) (v0 + 16) (ix v1)) = 0 → S_X10_copies (lX X) (dtX X) 0 0 [.ref v0, .int (1 + v1), .int 0] (si h v0 0 0) (QV fun h3 =>
    St10 h3 v0 ∧ Q (some (.int 1)) (si h3 v0 9 0))) ∧
    ((gi (si h v0 0 0) (v0 + 16) (ix v1)) = 0 → Q (some (.int 0)) (si h v0 0 0)))))) :
    Wj X k n Q 0 [(0, .ref v0), (1, .int v1)] [] h := by
  refine w_aload_n (pc := 0) C dX10_again_0 rfl ?_
  refine w_iconst (pc := 1) C (v := 0) dX10_again_1 (by decide) ?_
  obtain ⟨f1, hv⟩ := hv
  refine w_putI (pc := 2) C fl_X10_1 rfl rfl dX10_again_2 (St10_k f1) ?_
  refine w_iload_n (pc := 5) C dX10_again_5 rfl ?_
  refine w_i2l (pc := 6) C dX10_again_6 ?_
  refine w_lconst (pc := 7) C (v := 0) dX10_again_7 (by decide) ?_
  refine w_lconst (pc := 8) C (v := 1) dX10_again_8 (by decide) ?_
  refine w_cS0_3 (pc := 9) C cl_X10_29 ls_X10_in (by decide) dX10_again_9 (Nat.le_of_ble_eq_true rfl) ((sf_X10_in (h := (si h v0 0 0)) ).mono (fun v h9 hp => ?_))
  obtain ⟨e1, e2⟩ := hp
  rw [e1, e2]
  refine w_if_eq (pc := 12) C (tgt := 24) dX10_again_12 (by decide) ?_
  obtain ⟨hv1, hv2⟩ := hv
  refine ⟨fun c6 => ?_, fun c6 => ?_⟩
  · have hv := hv1 c6
    refine w_iconst (pc := 24) C (v := 0) dX10_again_24 (by decide) ?_
    exact w_zret (pc := 25) C dX10_again_25 (by decide) hv
  · have hv := hv2 c6
    refine w_aload_n (pc := 15) C dX10_again_15 rfl ?_
    refine w_getR (pc := 16) C fl_X10_107 rfl dX10_again_16 (St10_k f1) (St10_r42 f1) ?_
    refine w_iload_n (pc := 19) C dX10_again_19 rfl ?_
    obtain ⟨f2, hv⟩ := hv
    refine w_zald (pc := 20) C dX10_again_20 (St10_k42 f1) (inbl (St10_l42 f1) f2) ?_
    refine w_if_ne (pc := 21) C (tgt := 26) dX10_again_21 (by decide) ?_
    obtain ⟨hv1, hv2⟩ := hv
    refine ⟨fun c5 => ?_, fun c5 => ?_⟩
    · have hv := hv1 c5
      refine w_aload_n (pc := 26) C dX10_again_26 rfl ?_
      refine w_iconst (pc := 27) C (v := 1) dX10_again_27 (by decide) ?_
      refine w_iload_n (pc := 28) C dX10_again_28 rfl ?_
      refine w_iadd (pc := 29) C dX10_again_29 ?_
      refine w_iconst (pc := 30) C (v := 0) dX10_again_30 (by decide) ?_
      refine w_cV0_2 (pc := 31) C cl_X10_118 lv_X10_copies (by decide) dX10_again_31 (Nat.le_of_ble_eq_true rfl) (c := 10) rfl (St10_k f1) (hv.mono (fun v h3 hp => ?_))
      obtain ⟨rfl, hv⟩ := hp
      refine w_aload_n (pc := 34) C dX10_again_34 rfl ?_
      refine w_iconst (pc := 35) C (v := 0) dX10_again_35 (by decide) ?_
      obtain ⟨f4, hv⟩ := hv
      refine w_putI (pc := 36) C fl_X10_115 rfl rfl dX10_again_36 (St10_k f4) ?_
      refine w_iconst (pc := 39) C (v := 1) dX10_again_39 (by decide) ?_
      exact w_zret (pc := 40) C dX10_again_40 (by decide) hv
    · have hv := hv2 c5
      refine w_iconst (pc := 24) C (v := 0) dX10_again_24 (by decide) ?_
      exact w_zret (pc := 25) C dX10_again_25 (by decide) hv
theorem dX10_putsRead_0 : decode cX10_putsRead 0 = .ok (.aload_n 0, 1) := by decide +kernel
theorem dX10_putsRead_1 : decode cX10_putsRead 1 = .ok (.iconst 4, 1) := by decide +kernel
theorem dX10_putsRead_2 : decode cX10_putsRead 2 = .ok (.invokevirtual 111, 3) := by decide +kernel
theorem dX10_putsRead_5 : decode cX10_putsRead 5 = .ok (.aload_n 0, 1) := by decide +kernel
theorem dX10_putsRead_6 : decode cX10_putsRead 6 = .ok (.iconst 0, 1) := by decide +kernel
theorem dX10_putsRead_7 : decode cX10_putsRead 7 = .ok (.iconst 3, 1) := by decide +kernel
theorem dX10_putsRead_8 : decode cX10_putsRead 8 = .ok (.invokevirtual 118, 3) := by decide +kernel
theorem dX10_putsRead_11 : decode cX10_putsRead 11 = .ok (.aload_n 0, 1) := by decide +kernel
theorem dX10_putsRead_12 : decode cX10_putsRead 12 = .ok (.iconst 4, 1) := by decide +kernel
theorem dX10_putsRead_13 : decode cX10_putsRead 13 = .ok (.iconst 0, 1) := by decide +kernel
theorem dX10_putsRead_14 : decode cX10_putsRead 14 = .ok (.invokevirtual 118, 3) := by decide +kernel
theorem dX10_putsRead_17 : decode cX10_putsRead 17 = .ok (.aload_n 0, 1) := by decide +kernel
theorem dX10_putsRead_18 : decode cX10_putsRead 18 = .ok (.iload_n 1, 1) := by decide +kernel
theorem dX10_putsRead_19 : decode cX10_putsRead 19 = .ok (.invokevirtual 147, 3) := by decide +kernel
theorem dX10_putsRead_22 : decode cX10_putsRead 22 = .ok (.ireturn, 1) := by decide +kernel
set_option maxRecDepth 20000 in
set_option maxHeartbeats 2000000 in
theorem V_X10_putsRead_0 {X : Ctx} (C : C_X10_putsRead X) {k n : Nat} {Q : Pq} {h : Hp} {v0 : Nat} {v1 : Int32}
    (hv : St10 h v0 ∧ S_X10_begins (lX X) (dtX X) 0 0 [.ref v0, .int 4] h (QV fun h2 =>
    St10 h2 v0 ∧ S_X10_copies (lX X) (dtX X) 0 0 [.ref v0, .int 0, .int 3] h2 (QV fun h4 =>
    St10 h4 v0 ∧ S_X10_copies (lX X) (dtX X) 0 0 [.ref v0, .int 4, .int 0] h4 (QV fun h6 =>
    St10 h6 v0 ∧ S_X10_done (lX X) (dtX X) 0 0 [.ref v0, .int v1] h6 (QI fun x9 h8 =>
    Q (some (.int x9)) h8))))) :
    Wj X k n Q 0 [(0, .ref v0), (1, .int v1)] [] h := by
  refine w_aload_n (pc := 0) C dX10_putsRead_0 rfl ?_
  refine w_iconst (pc := 1) C (v := 4) dX10_putsRead_1 (by decide) ?_
  obtain ⟨f1, hv⟩ := hv
  refine w_cV0_1 (pc := 2) C cl_X10_111 lv_X10_begins (by decide) dX10_putsRead_2 (Nat.le_of_ble_eq_true rfl) (c := 10) rfl (St10_k f1) (hv.mono (fun v h2 hp => ?_))
  obtain ⟨rfl, hv⟩ := hp
  refine w_aload_n (pc := 5) C dX10_putsRead_5 rfl ?_
  refine w_iconst (pc := 6) C (v := 0) dX10_putsRead_6 (by decide) ?_
  refine w_iconst (pc := 7) C (v := 3) dX10_putsRead_7 (by decide) ?_
  obtain ⟨f3, hv⟩ := hv
  refine w_cV0_2 (pc := 8) C cl_X10_118 lv_X10_copies (by decide) dX10_putsRead_8 (Nat.le_of_ble_eq_true rfl) (c := 10) rfl (St10_k f3) (hv.mono (fun v h4 hp => ?_))
  obtain ⟨rfl, hv⟩ := hp
  refine w_aload_n (pc := 11) C dX10_putsRead_11 rfl ?_
  refine w_iconst (pc := 12) C (v := 4) dX10_putsRead_12 (by decide) ?_
  refine w_iconst (pc := 13) C (v := 0) dX10_putsRead_13 (by decide) ?_
  obtain ⟨f5, hv⟩ := hv
  refine w_cV0_2 (pc := 14) C cl_X10_118 lv_X10_copies (by decide) dX10_putsRead_14 (Nat.le_of_ble_eq_true rfl) (c := 10) rfl (St10_k f5) (hv.mono (fun v h6 hp => ?_))
  obtain ⟨rfl, hv⟩ := hp
  refine w_aload_n (pc := 17) C dX10_putsRead_17 rfl ?_
  refine w_iload_n (pc := 18) C dX10_putsRead_18 rfl ?_
  obtain ⟨f7, hv⟩ := hv
  refine w_cV0_1 (pc := 19) C cl_X10_147 lv_X10_done (by decide) dX10_putsRead_19 (Nat.le_of_ble_eq_true rfl) (c := 10) rfl (St10_k f7) (hv.mono (fun v h8 hp => ?_))
  obtain ⟨x9, rfl, hv⟩ := hp
  exact w_iret (pc := 22) C dX10_putsRead_22 hv
theorem dX10_laysGap_0 : decode cX10_laysGap 0 = .ok (.iload_n 1, 1) := by decide +kernel
theorem dX10_laysGap_1 : decode cX10_laysGap 1 = .ok (.iconst 1, 1) := by decide +kernel
theorem dX10_laysGap_2 : decode cX10_laysGap 2 = .ok (.iadd, 1) := by decide +kernel
theorem dX10_laysGap_3 : decode cX10_laysGap 3 = .ok (.aload_n 0, 1) := by decide +kernel
theorem dX10_laysGap_4 : decode cX10_laysGap 4 = .ok (.invokevirtual 378, 3) := by decide +kernel
theorem dX10_laysGap_7 : decode cX10_laysGap 7 = .ok (.irem, 1) := by decide +kernel
theorem dX10_laysGap_8 : decode cX10_laysGap 8 = .ok (.istore_n 2, 1) := by decide +kernel
theorem dX10_laysGap_9 : decode cX10_laysGap 9 = .ok (.aload_n 0, 1) := by decide +kernel
theorem dX10_laysGap_10 : decode cX10_laysGap 10 = .ok (.iload_n 2, 1) := by decide +kernel
theorem dX10_laysGap_11 : decode cX10_laysGap 11 = .ok (.invokevirtual 381, 3) := by decide +kernel
theorem dX10_laysGap_14 : decode cX10_laysGap 14 = .ok (.aload_n 0, 1) := by decide +kernel
theorem dX10_laysGap_15 : decode cX10_laysGap 15 = .ok (.iload_n 1, 1) := by decide +kernel
theorem dX10_laysGap_16 : decode cX10_laysGap 16 = .ok (.invokevirtual 385, 3) := by decide +kernel
theorem dX10_laysGap_19 : decode cX10_laysGap 19 = .ok (.lmul, 1) := by decide +kernel
theorem dX10_laysGap_20 : decode cX10_laysGap 20 = .ok (.aload_n 0, 1) := by decide +kernel
theorem dX10_laysGap_21 : decode cX10_laysGap 21 = .ok (.iload_n 1, 1) := by decide +kernel
theorem dX10_laysGap_22 : decode cX10_laysGap 22 = .ok (.invokevirtual 381, 3) := by decide +kernel
theorem dX10_laysGap_25 : decode cX10_laysGap 25 = .ok (.aload_n 0, 1) := by decide +kernel
theorem dX10_laysGap_26 : decode cX10_laysGap 26 = .ok (.iload_n 2, 1) := by decide +kernel
theorem dX10_laysGap_27 : decode cX10_laysGap 27 = .ok (.invokevirtual 385, 3) := by decide +kernel
theorem dX10_laysGap_30 : decode cX10_laysGap 30 = .ok (.lmul, 1) := by decide +kernel
theorem dX10_laysGap_31 : decode cX10_laysGap 31 = .ok (.lsub, 1) := by decide +kernel
theorem dX10_laysGap_32 : decode cX10_laysGap 32 = .ok (.lstore_n 3, 1) := by decide +kernel
theorem dX10_laysGap_33 : decode cX10_laysGap 33 = .ok (.aload_n 0, 1) := by decide +kernel
theorem dX10_laysGap_34 : decode cX10_laysGap 34 = .ok (.iload_n 2, 1) := by decide +kernel
theorem dX10_laysGap_35 : decode cX10_laysGap 35 = .ok (.invokevirtual 385, 3) := by decide +kernel
theorem dX10_laysGap_38 : decode cX10_laysGap 38 = .ok (.aload_n 0, 1) := by decide +kernel
theorem dX10_laysGap_39 : decode cX10_laysGap 39 = .ok (.iload_n 1, 1) := by decide +kernel
theorem dX10_laysGap_40 : decode cX10_laysGap 40 = .ok (.invokevirtual 385, 3) := by decide +kernel
theorem dX10_laysGap_43 : decode cX10_laysGap 43 = .ok (.lmul, 1) := by decide +kernel
theorem dX10_laysGap_44 : decode cX10_laysGap 44 = .ok (.lstore 5, 2) := by decide +kernel
theorem dX10_laysGap_46 : decode cX10_laysGap 46 = .ok (.lload_n 3, 1) := by decide +kernel
theorem dX10_laysGap_47 : decode cX10_laysGap 47 = .ok (.lload_n 3, 1) := by decide +kernel
theorem dX10_laysGap_48 : decode cX10_laysGap 48 = .ok (.lconst 0, 1) := by decide +kernel
theorem dX10_laysGap_49 : decode cX10_laysGap 49 = .ok (.lcmp, 1) := by decide +kernel
theorem dX10_laysGap_50 : decode cX10_laysGap 50 = .ok (.ifCond .gt 8, 3) := by decide +kernel
theorem dX10_laysGap_53 : decode cX10_laysGap 53 = .ok (.lload 5, 2) := by decide +kernel
theorem dX10_laysGap_55 : decode cX10_laysGap 55 = .ok (.goto 4, 3) := by decide +kernel
theorem dX10_laysGap_58 : decode cX10_laysGap 58 = .ok (.lconst 0, 1) := by decide +kernel
theorem dX10_laysGap_59 : decode cX10_laysGap 59 = .ok (.ladd, 1) := by decide +kernel
theorem dX10_laysGap_60 : decode cX10_laysGap 60 = .ok (.lstore_n 3, 1) := by decide +kernel
theorem dX10_laysGap_61 : decode cX10_laysGap 61 = .ok (.lload_n 3, 1) := by decide +kernel
theorem dX10_laysGap_62 : decode cX10_laysGap 62 = .ok (.lload 5, 2) := by decide +kernel
theorem dX10_laysGap_64 : decode cX10_laysGap 64 = .ok (.invokestatic 14, 3) := by decide +kernel
theorem dX10_laysGap_67 : decode cX10_laysGap 67 = .ok (.lstore 7, 2) := by decide +kernel
theorem dX10_laysGap_69 : decode cX10_laysGap 69 = .ok (.aload_n 0, 1) := by decide +kernel
theorem dX10_laysGap_70 : decode cX10_laysGap 70 = .ok (.lload_n 3, 1) := by decide +kernel
theorem dX10_laysGap_71 : decode cX10_laysGap 71 = .ok (.lload 7, 2) := by decide +kernel
theorem dX10_laysGap_73 : decode cX10_laysGap 73 = .ok (.ldiv, 1) := by decide +kernel
theorem dX10_laysGap_74 : decode cX10_laysGap 74 = .ok (.putfield 409, 3) := by decide +kernel
theorem dX10_laysGap_77 : decode cX10_laysGap 77 = .ok (.aload_n 0, 1) := by decide +kernel
theorem dX10_laysGap_78 : decode cX10_laysGap 78 = .ok (.lload 5, 2) := by decide +kernel
theorem dX10_laysGap_80 : decode cX10_laysGap 80 = .ok (.lload 7, 2) := by decide +kernel
theorem dX10_laysGap_82 : decode cX10_laysGap 82 = .ok (.ldiv, 1) := by decide +kernel
theorem dX10_laysGap_83 : decode cX10_laysGap 83 = .ok (.putfield 412, 3) := by decide +kernel
theorem dX10_laysGap_86 : decode cX10_laysGap 86 = .ok (.return_, 1) := by decide +kernel
set_option maxRecDepth 20000 in
set_option maxHeartbeats 2000000 in
theorem V_X10_laysGap_0 {X : Ctx} (C : C_X10_laysGap X) {k n : Nat} {Q : Pq} {h : Hp} {v0 : Nat} {v1 : Int32}
    (hv : St10 h v0 ∧ ¬ (gi h (v0 + 3) (ix 60)) = 0 ∧ inb (2 + 2 * ((v1 + 1) % (gi h (v0 + 3) (ix 60)))) 1464 ∧ inb (2 + 2 * v1 + 1) 1464 ∧ inb (2 + 2 * v1) 1464 ∧ inb (2 + 2 * ((v1 + 1) % (gi h (v0 + 3) (ix 60))) + 1) 1464 ∧ (∀ z7 : Int64, z7 = (((gl h (v0 + 4) (ix (2 + 2 * ((v1 + 1) % (gi h (v0 + 3) (ix 60)))))) * (gl h (v0 + 4) (ix (2 + 2 * v1 + 1)))) - ((gl h (v0 + 4) (ix (2 + 2 * v1))) * (gl h (v0 + 4) (ix (2 + 2 * ((v1 + 1) % (gi h (v0 + 3) (ix 60))) + 1))))) →
    (∀ z8 : Int64, z8 = ((gl h (v0 + 4) (ix (2 + 2 * ((v1 + 1) % (gi h (v0 + 3) (ix 60))) + 1))) * (gl h (v0 + 4) (ix (2 + 2 * v1 + 1)))) →
    ((0 < z7 → Wj X k n Q 59 [(0, .ref v0), (5, .long z8)] [.long 0, .long z7] h) ∧
    (¬ 0 < z7 → Wj X k n Q 59 [(0, .ref v0), (5, .long z8)] [.long z8, .long z7] h))))) :
    Wj X k n Q 0 [(0, .ref v0), (1, .int v1)] [] h := by
  refine w_iload_n (pc := 0) C dX10_laysGap_0 rfl ?_
  refine w_iconst (pc := 1) C (v := 1) dX10_laysGap_1 (by decide) ?_
  refine w_iadd (pc := 2) C dX10_laysGap_2 ?_
  refine w_aload_n (pc := 3) C dX10_laysGap_3 rfl ?_
  obtain ⟨f1, hv⟩ := hv
  refine w_cV0_0 (pc := 4) C cl_X10_378 lv_X10_marks (by decide) dX10_laysGap_4 (Nat.le_of_ble_eq_true rfl) (c := 10) rfl (St10_k f1) ((sf_X10_marks (h := h) f1).mono (fun v h9 hp => ?_))
  obtain ⟨e1, e2⟩ := hp
  rw [e1, e2]
  obtain ⟨f2, hv⟩ := hv
  refine w_irem (pc := 7) C dX10_laysGap_7 f2 ?_
  refine w_istore_n (pc := 8) C dX10_laysGap_8 (by decide) ?_
  refine w_aload_n (pc := 9) C dX10_laysGap_9 rfl ?_
  refine w_iload_n (pc := 10) C dX10_laysGap_10 rfl ?_
  obtain ⟨f3, hv⟩ := hv
  refine w_cV0_1 (pc := 11) C cl_X10_381 lv_X10_markUp (by decide) dX10_laysGap_11 (Nat.le_of_ble_eq_true rfl) (c := 10) rfl (St10_k f1) ((sf_X10_markUp (h := h) f1 f3).mono (fun v h9 hp => ?_))
  obtain ⟨e1, e2⟩ := hp
  rw [e1, e2]
  refine w_aload_n (pc := 14) C dX10_laysGap_14 rfl ?_
  refine w_iload_n (pc := 15) C dX10_laysGap_15 rfl ?_
  obtain ⟨f4, hv⟩ := hv
  refine w_cV0_1 (pc := 16) C cl_X10_385 lv_X10_markLow (by decide) dX10_laysGap_16 (Nat.le_of_ble_eq_true rfl) (c := 10) rfl (St10_k f1) ((sf_X10_markLow (h := h) f1 f4).mono (fun v h9 hp => ?_))
  obtain ⟨e1, e2⟩ := hp
  rw [e1, e2]
  refine w_lmul (pc := 19) C dX10_laysGap_19 ?_
  refine w_aload_n (pc := 20) C dX10_laysGap_20 rfl ?_
  refine w_iload_n (pc := 21) C dX10_laysGap_21 rfl ?_
  obtain ⟨f5, hv⟩ := hv
  refine w_cV0_1 (pc := 22) C cl_X10_381 lv_X10_markUp (by decide) dX10_laysGap_22 (Nat.le_of_ble_eq_true rfl) (c := 10) rfl (St10_k f1) ((sf_X10_markUp (h := h) f1 f5).mono (fun v h9 hp => ?_))
  obtain ⟨e1, e2⟩ := hp
  rw [e1, e2]
  refine w_aload_n (pc := 25) C dX10_laysGap_25 rfl ?_
  refine w_iload_n (pc := 26) C dX10_laysGap_26 rfl ?_
  obtain ⟨f6, hv⟩ := hv
  refine w_cV0_1 (pc := 27) C cl_X10_385 lv_X10_markLow (by decide) dX10_laysGap_27 (Nat.le_of_ble_eq_true rfl) (c := 10) rfl (St10_k f1) ((sf_X10_markLow (h := h) f1 f6).mono (fun v h9 hp => ?_))
  obtain ⟨e1, e2⟩ := hp
  rw [e1, e2]
  refine w_lmul (pc := 30) C dX10_laysGap_30 ?_
  refine w_lsub (pc := 31) C dX10_laysGap_31 ?_
  obtain ⟨z7, ez7⟩ : ∃ z : Int64, z = (((gl h (v0 + 4) (ix (2 + 2 * ((v1 + 1) % (gi h (v0 + 3) (ix 60)))))) * (gl h (v0 + 4) (ix (2 + 2 * v1 + 1)))) - ((gl h (v0 + 4) (ix (2 + 2 * v1))) * (gl h (v0 + 4) (ix (2 + 2 * ((v1 + 1) % (gi h (v0 + 3) (ix 60))) + 1))))) := ⟨_, rfl⟩
  have hv := hv z7 ez7
  rw [← ez7]
  refine w_lstore_n (pc := 32) C dX10_laysGap_32 (by decide) ?_
  refine w_aload_n (pc := 33) C dX10_laysGap_33 rfl ?_
  refine w_iload_n (pc := 34) C dX10_laysGap_34 rfl ?_
  refine w_cV0_1 (pc := 35) C cl_X10_385 lv_X10_markLow (by decide) dX10_laysGap_35 (Nat.le_of_ble_eq_true rfl) (c := 10) rfl (St10_k f1) ((sf_X10_markLow (h := h) f1 f6).mono (fun v h9 hp => ?_))
  obtain ⟨e1, e2⟩ := hp
  rw [e1, e2]
  refine w_aload_n (pc := 38) C dX10_laysGap_38 rfl ?_
  refine w_iload_n (pc := 39) C dX10_laysGap_39 rfl ?_
  refine w_cV0_1 (pc := 40) C cl_X10_385 lv_X10_markLow (by decide) dX10_laysGap_40 (Nat.le_of_ble_eq_true rfl) (c := 10) rfl (St10_k f1) ((sf_X10_markLow (h := h) f1 f4).mono (fun v h9 hp => ?_))
  obtain ⟨e1, e2⟩ := hp
  rw [e1, e2]
  refine w_lmul (pc := 43) C dX10_laysGap_43 ?_
  obtain ⟨z8, ez8⟩ : ∃ z : Int64, z = ((gl h (v0 + 4) (ix (2 + 2 * ((v1 + 1) % (gi h (v0 + 3) (ix 60))) + 1))) * (gl h (v0 + 4) (ix (2 + 2 * v1 + 1)))) := ⟨_, rfl⟩
  have hv := hv z8 ez8
  rw [← ez8]
  refine w_lstore (pc := 44) C dX10_laysGap_44 (by decide) ?_
  refine w_lload_n (pc := 46) C dX10_laysGap_46 rfl ?_
  refine w_lload_n (pc := 47) C dX10_laysGap_47 rfl ?_
  refine w_lconst (pc := 48) C (v := 0) dX10_laysGap_48 (by decide) ?_
  refine w_lcmp_gt (pc := 49) C (tgt := 58) dX10_laysGap_49 dX10_laysGap_50 (by decide) ?_
  obtain ⟨hv1, hv2⟩ := hv
  refine ⟨fun c9 => ?_, fun c9 => ?_⟩
  · have hv := hv1 c9
    refine w_lconst (pc := 58) C (v := 0) dX10_laysGap_58 (by decide) ?_
    refine w_sub ?_ hv
    exact ⟨rfl, rfl, trivial⟩
  · have hv := hv2 c9
    refine w_lload (pc := 53) C dX10_laysGap_53 rfl ?_
    refine w_goto (pc := 55) C (tgt := 59) dX10_laysGap_55 (by decide) ?_
    refine w_sub ?_ hv
    exact ⟨rfl, rfl, trivial⟩
set_option maxRecDepth 20000 in
set_option maxHeartbeats 2000000 in
theorem V_X10_laysGap_59 {X : Ctx} (C : C_X10_laysGap X) {k n : Nat} {Q : Pq} {h : Hp} {v0 : Nat} {v5 s0 s1 : Int64}
    (hv : -9223372036854775807 ≤ (Int64.toInt (s0 + s1)) ∧ 0 < (Int64.toInt v5) ∧ ¬ (cm (s0 + s1) v5) = 0 ∧ St10 h v0 ∧ Q none (sl (sl h v0 33 ((s0 + s1) / (cm (s0 + s1) v5))) v0 34 (v5 / (cm (s0 + s1) v5)))) :
    Wj X k n Q 59 [(0, .ref v0), (5, .long v5)] [.long s1, .long s0] h := by
  refine w_ladd (pc := 59) C dX10_laysGap_59 ?_
  refine w_lstore_n (pc := 60) C dX10_laysGap_60 (by decide) ?_
  refine w_lload_n (pc := 61) C dX10_laysGap_61 rfl ?_
  refine w_lload (pc := 62) C dX10_laysGap_62 rfl ?_
  obtain ⟨f1, hv⟩ := hv
  obtain ⟨f2, hv⟩ := hv
  refine w_cS0_2 (pc := 64) C cl_X10_14 ls_X10_common (by decide) dX10_laysGap_64 (Nat.le_of_ble_eq_true rfl) ((sf_X10_common (h := h) f1 f2).mono (fun v h9 hp => ?_))
  obtain ⟨e1, e2⟩ := hp
  rw [e1, e2]
  refine w_lstore (pc := 67) C dX10_laysGap_67 (by decide) ?_
  refine w_aload_n (pc := 69) C dX10_laysGap_69 rfl ?_
  refine w_lload_n (pc := 70) C dX10_laysGap_70 rfl ?_
  refine w_lload (pc := 71) C dX10_laysGap_71 rfl ?_
  obtain ⟨f3, hv⟩ := hv
  refine w_ldiv (pc := 73) C dX10_laysGap_73 f3 ?_
  obtain ⟨f4, hv⟩ := hv
  refine w_putL (pc := 74) C fl_X10_409 rfl rfl dX10_laysGap_74 (St10_k f4) ?_
  refine w_aload_n (pc := 77) C dX10_laysGap_77 rfl ?_
  refine w_lload (pc := 78) C dX10_laysGap_78 rfl ?_
  refine w_lload (pc := 80) C dX10_laysGap_80 rfl ?_
  refine w_ldiv (pc := 82) C dX10_laysGap_82 f3 ?_
  refine w_putL (pc := 83) C fl_X10_412 rfl rfl dX10_laysGap_83 (St10_k f4) ?_
  exact w_vret (pc := 86) C dX10_laysGap_86 hv
