-- texts (by program: gen_parts.py)
theorem dX9_readPlates_0 : decode cX9_readPlates 0 = .ok (.aload_n 0, 1) := by decide +kernel
theorem dX9_readPlates_1 : decode cX9_readPlates 1 = .ok (.getfield 82, 3) := by decide +kernel
theorem dX9_readPlates_4 : decode cX9_readPlates 4 = .ok (.invokevirtual 114, 3) := by decide +kernel
theorem dX9_readPlates_7 : decode cX9_readPlates 7 = .ok (.aload_n 0, 1) := by decide +kernel
theorem dX9_readPlates_8 : decode cX9_readPlates 8 = .ok (.getfield 82, 3) := by decide +kernel
theorem dX9_readPlates_11 : decode cX9_readPlates 11 = .ok (.invokevirtual 117, 3) := by decide +kernel
theorem dX9_readPlates_14 : decode cX9_readPlates 14 = .ok (.iconst 0, 1) := by decide +kernel
theorem dX9_readPlates_15 : decode cX9_readPlates 15 = .ok (.istore_n 1, 1) := by decide +kernel
theorem dX9_readPlates_16 : decode cX9_readPlates 16 = .ok (.iconst 0, 1) := by decide +kernel
theorem dX9_readPlates_17 : decode cX9_readPlates 17 = .ok (.istore_n 2, 1) := by decide +kernel
theorem dX9_readPlates_18 : decode cX9_readPlates 18 = .ok (.iconst 0, 1) := by decide +kernel
theorem dX9_readPlates_19 : decode cX9_readPlates 19 = .ok (.istore_n 3, 1) := by decide +kernel
theorem dX9_readPlates_20 : decode cX9_readPlates 20 = .ok (.iload_n 3, 1) := by decide +kernel
theorem dX9_readPlates_21 : decode cX9_readPlates 21 = .ok (.aload_n 0, 1) := by decide +kernel
theorem dX9_readPlates_22 : decode cX9_readPlates 22 = .ok (.getfield 10, 3) := by decide +kernel
theorem dX9_readPlates_25 : decode cX9_readPlates 25 = .ok (.getfield 96, 3) := by decide +kernel
theorem dX9_readPlates_28 : decode cX9_readPlates 28 = .ok (.if_icmp .gt 173, 3) := by decide +kernel
theorem dX9_readPlates_31 : decode cX9_readPlates 31 = .ok (.aload_n 0, 1) := by decide +kernel
theorem dX9_readPlates_32 : decode cX9_readPlates 32 = .ok (.getfield 10, 3) := by decide +kernel
theorem dX9_readPlates_35 : decode cX9_readPlates 35 = .ok (.iload_n 3, 1) := by decide +kernel
theorem dX9_readPlates_36 : decode cX9_readPlates 36 = .ok (.iconst 2, 1) := by decide +kernel
theorem dX9_readPlates_37 : decode cX9_readPlates 37 = .ok (.invokevirtual 120, 3) := by decide +kernel
theorem dX9_readPlates_40 : decode cX9_readPlates 40 = .ok (.istore 4, 2) := by decide +kernel
theorem dX9_readPlates_42 : decode cX9_readPlates 42 = .ok (.iload 4, 2) := by decide +kernel
theorem dX9_readPlates_44 : decode cX9_readPlates 44 = .ok (.iconst (-1), 1) := by decide +kernel
theorem dX9_readPlates_45 : decode cX9_readPlates 45 = .ok (.if_icmp .eq 8, 3) := by decide +kernel
theorem dX9_readPlates_48 : decode cX9_readPlates 48 = .ok (.iconst (-1), 1) := by decide +kernel
theorem dX9_readPlates_49 : decode cX9_readPlates 49 = .ok (.iload 4, 2) := by decide +kernel
theorem dX9_readPlates_51 : decode cX9_readPlates 51 = .ok (.isub, 1) := by decide +kernel
theorem dX9_readPlates_52 : decode cX9_readPlates 52 = .ok (.ireturn, 1) := by decide +kernel
theorem dX9_readPlates_53 : decode cX9_readPlates 53 = .ok (.aload_n 0, 1) := by decide +kernel
theorem dX9_readPlates_54 : decode cX9_readPlates 54 = .ok (.getfield 10, 3) := by decide +kernel
theorem dX9_readPlates_57 : decode cX9_readPlates 57 = .ok (.iload_n 3, 1) := by decide +kernel
theorem dX9_readPlates_58 : decode cX9_readPlates 58 = .ok (.iconst 2, 1) := by decide +kernel
theorem dX9_readPlates_59 : decode cX9_readPlates 59 = .ok (.invokevirtual 124, 3) := by decide +kernel
theorem dX9_readPlates_62 : decode cX9_readPlates 62 = .ok (.istore 5, 2) := by decide +kernel
theorem dX9_readPlates_64 : decode cX9_readPlates 64 = .ok (.iload 5, 2) := by decide +kernel
theorem dX9_readPlates_66 : decode cX9_readPlates 66 = .ok (.bipush 10, 2) := by decide +kernel
theorem dX9_readPlates_68 : decode cX9_readPlates 68 = .ok (.if_icmp .lt 16, 3) := by decide +kernel
theorem dX9_readPlates_71 : decode cX9_readPlates 71 = .ok (.iload 5, 2) := by decide +kernel
theorem dX9_readPlates_73 : decode cX9_readPlates 73 = .ok (.bipush 70, 2) := by decide +kernel
theorem dX9_readPlates_75 : decode cX9_readPlates 75 = .ok (.if_icmp .gt 9, 3) := by decide +kernel
theorem dX9_readPlates_78 : decode cX9_readPlates 78 = .ok (.iload 5, 2) := by decide +kernel
theorem dX9_readPlates_80 : decode cX9_readPlates 80 = .ok (.iload_n 2, 1) := by decide +kernel
theorem dX9_readPlates_81 : decode cX9_readPlates 81 = .ok (.if_icmp .gt 9, 3) := by decide +kernel
theorem dX9_readPlates_84 : decode cX9_readPlates 84 = .ok (.iconst (-1), 1) := by decide +kernel
theorem dX9_readPlates_85 : decode cX9_readPlates 85 = .ok (.iload_n 3, 1) := by decide +kernel
theorem dX9_readPlates_86 : decode cX9_readPlates 86 = .ok (.iconst 1, 1) := by decide +kernel
theorem dX9_readPlates_87 : decode cX9_readPlates 87 = .ok (.iadd, 1) := by decide +kernel
theorem dX9_readPlates_88 : decode cX9_readPlates 88 = .ok (.isub, 1) := by decide +kernel
theorem dX9_readPlates_89 : decode cX9_readPlates 89 = .ok (.ireturn, 1) := by decide +kernel
theorem dX9_readPlates_90 : decode cX9_readPlates 90 = .ok (.aload_n 0, 1) := by decide +kernel
theorem dX9_readPlates_91 : decode cX9_readPlates 91 = .ok (.getfield 82, 3) := by decide +kernel
theorem dX9_readPlates_94 : decode cX9_readPlates 94 = .ok (.iload 5, 2) := by decide +kernel
theorem dX9_readPlates_96 : decode cX9_readPlates 96 = .ok (.invokevirtual 127, 3) := by decide +kernel
theorem dX9_readPlates_99 : decode cX9_readPlates 99 = .ok (.iinc 1 1, 3) := by decide +kernel
theorem dX9_readPlates_102 : decode cX9_readPlates 102 = .ok (.iload 5, 2) := by decide +kernel
theorem dX9_readPlates_104 : decode cX9_readPlates 104 = .ok (.istore_n 2, 1) := by decide +kernel
theorem dX9_readPlates_105 : decode cX9_readPlates 105 = .ok (.iload_n 3, 1) := by decide +kernel
theorem dX9_readPlates_106 : decode cX9_readPlates 106 = .ok (.iconst 2, 1) := by decide +kernel
theorem dX9_readPlates_107 : decode cX9_readPlates 107 = .ok (.iadd, 1) := by decide +kernel
theorem dX9_readPlates_108 : decode cX9_readPlates 108 = .ok (.aload_n 0, 1) := by decide +kernel
theorem dX9_readPlates_109 : decode cX9_readPlates 109 = .ok (.getfield 10, 3) := by decide +kernel
theorem dX9_readPlates_112 : decode cX9_readPlates 112 = .ok (.getfield 96, 3) := by decide +kernel
theorem dX9_readPlates_115 : decode cX9_readPlates 115 = .ok (.if_icmp .ne 11, 3) := by decide +kernel
theorem dX9_readPlates_118 : decode cX9_readPlates 118 = .ok (.aload_n 0, 1) := by decide +kernel
theorem dX9_readPlates_119 : decode cX9_readPlates 119 = .ok (.getfield 82, 3) := by decide +kernel
theorem dX9_readPlates_122 : decode cX9_readPlates 122 = .ok (.getfield 131, 3) := by decide +kernel
theorem dX9_readPlates_125 : decode cX9_readPlates 125 = .ok (.ireturn, 1) := by decide +kernel
theorem dX9_readPlates_126 : decode cX9_readPlates 126 = .ok (.aload_n 0, 1) := by decide +kernel
theorem dX9_readPlates_127 : decode cX9_readPlates 127 = .ok (.getfield 10, 3) := by decide +kernel
theorem dX9_readPlates_130 : decode cX9_readPlates 130 = .ok (.iload_n 3, 1) := by decide +kernel
theorem dX9_readPlates_131 : decode cX9_readPlates 131 = .ok (.iconst 2, 1) := by decide +kernel
theorem dX9_readPlates_132 : decode cX9_readPlates 132 = .ok (.iadd, 1) := by decide +kernel
theorem dX9_readPlates_133 : decode cX9_readPlates 133 = .ok (.invokevirtual 134, 3) := by decide +kernel
theorem dX9_readPlates_136 : decode cX9_readPlates 136 = .ok (.istore 6, 2) := by decide +kernel
theorem dX9_readPlates_138 : decode cX9_readPlates 138 = .ok (.iload 6, 2) := by decide +kernel
theorem dX9_readPlates_140 : decode cX9_readPlates 140 = .ok (.bipush 59, 2) := by decide +kernel
theorem dX9_readPlates_142 : decode cX9_readPlates 142 = .ok (.if_icmp .ne 34, 3) := by decide +kernel
theorem dX9_readPlates_145 : decode cX9_readPlates 145 = .ok (.aload_n 0, 1) := by decide +kernel
theorem dX9_readPlates_146 : decode cX9_readPlates 146 = .ok (.getfield 82, 3) := by decide +kernel
theorem dX9_readPlates_149 : decode cX9_readPlates 149 = .ok (.getfield 137, 3) := by decide +kernel
theorem dX9_readPlates_152 : decode cX9_readPlates 152 = .ok (.iconst 3, 1) := by decide +kernel
theorem dX9_readPlates_153 : decode cX9_readPlates 153 = .ok (.if_icmp .ge 23, 3) := by decide +kernel
theorem dX9_readPlates_156 : decode cX9_readPlates 156 = .ok (.aload_n 0, 1) := by decide +kernel
theorem dX9_readPlates_157 : decode cX9_readPlates 157 = .ok (.getfield 82, 3) := by decide +kernel
theorem dX9_readPlates_160 : decode cX9_readPlates 160 = .ok (.dup, 1) := by decide +kernel
theorem dX9_readPlates_161 : decode cX9_readPlates 161 = .ok (.getfield 137, 3) := by decide +kernel
theorem dX9_readPlates_164 : decode cX9_readPlates 164 = .ok (.iconst 1, 1) := by decide +kernel
theorem dX9_readPlates_165 : decode cX9_readPlates 165 = .ok (.iadd, 1) := by decide +kernel
theorem dX9_readPlates_166 : decode cX9_readPlates 166 = .ok (.putfield 137, 3) := by decide +kernel
theorem dX9_readPlates_169 : decode cX9_readPlates 169 = .ok (.iconst 0, 1) := by decide +kernel
theorem dX9_readPlates_170 : decode cX9_readPlates 170 = .ok (.istore_n 1, 1) := by decide +kernel
theorem dX9_readPlates_171 : decode cX9_readPlates 171 = .ok (.iconst 0, 1) := by decide +kernel
theorem dX9_readPlates_172 : decode cX9_readPlates 172 = .ok (.istore_n 2, 1) := by decide +kernel
theorem dX9_readPlates_173 : decode cX9_readPlates 173 = .ok (.goto 22, 3) := by decide +kernel
theorem dX9_readPlates_176 : decode cX9_readPlates 176 = .ok (.iload 6, 2) := by decide +kernel
theorem dX9_readPlates_178 : decode cX9_readPlates 178 = .ok (.bipush 44, 2) := by decide +kernel
theorem dX9_readPlates_180 : decode cX9_readPlates 180 = .ok (.if_icmp .ne 9, 3) := by decide +kernel
theorem dX9_readPlates_183 : decode cX9_readPlates 183 = .ok (.iload_n 1, 1) := by decide +kernel
theorem dX9_readPlates_184 : decode cX9_readPlates 184 = .ok (.bipush 6, 2) := by decide +kernel
theorem dX9_readPlates_186 : decode cX9_readPlates 186 = .ok (.if_icmp .lt 9, 3) := by decide +kernel
theorem dX9_readPlates_189 : decode cX9_readPlates 189 = .ok (.iconst (-1), 1) := by decide +kernel
theorem dX9_readPlates_190 : decode cX9_readPlates 190 = .ok (.iload_n 3, 1) := by decide +kernel
theorem dX9_readPlates_191 : decode cX9_readPlates 191 = .ok (.iconst 2, 1) := by decide +kernel
theorem dX9_readPlates_192 : decode cX9_readPlates 192 = .ok (.iadd, 1) := by decide +kernel
theorem dX9_readPlates_193 : decode cX9_readPlates 193 = .ok (.isub, 1) := by decide +kernel
theorem dX9_readPlates_194 : decode cX9_readPlates 194 = .ok (.ireturn, 1) := by decide +kernel
theorem dX9_readPlates_195 : decode cX9_readPlates 195 = .ok (.iinc 3 3, 3) := by decide +kernel
theorem dX9_readPlates_198 : decode cX9_readPlates 198 = .ok (.goto (-178), 3) := by decide +kernel
theorem dX9_readPlates_201 : decode cX9_readPlates 201 = .ok (.iconst (-1), 1) := by decide +kernel
theorem dX9_readPlates_202 : decode cX9_readPlates 202 = .ok (.aload_n 0, 1) := by decide +kernel
theorem dX9_readPlates_203 : decode cX9_readPlates 203 = .ok (.getfield 10, 3) := by decide +kernel
theorem dX9_readPlates_206 : decode cX9_readPlates 206 = .ok (.getfield 96, 3) := by decide +kernel
theorem dX9_readPlates_209 : decode cX9_readPlates 209 = .ok (.isub, 1) := by decide +kernel
theorem dX9_readPlates_210 : decode cX9_readPlates 210 = .ok (.ireturn, 1) := by decide +kernel
set_option maxRecDepth 20000 in
set_option maxHeartbeats 2000000 in
theorem V_X9_readPlates_0 {X : Ctx} (C : C_X9_readPlates X) {k n : Nat} {Q : Pq} {h : Hp} {v0 : Nat}
    (hv : St9 h v0 ∧ nn h v0 13 ∧ St4 h (gp h v0 13) ∧ S_X4_atFirst (lX X) (dtX X) 0 0 [.ref (gp h v0 13)] (si (si h (gp h v0 13) 2 1) (gp h v0 13) 3 0) (QV fun h4 =>
    Wj X k n Q 20 [(0, .ref v0), (1, .int 0), (2, .int 0), (3, .int 0)] [] h4)) :
    Wj X k n Q 0 [(0, .ref v0)] [] h := by
  refine w_aload_n (pc := 0) C dX9_readPlates_0 rfl ?_
  obtain ⟨f1, hv⟩ := hv
  obtain ⟨f2, hv⟩ := hv
  refine w_getR (pc := 1) C fl_X9_82 rfl dX9_readPlates_1 (St9_k f1) f2 ?_
  obtain ⟨f3, hv⟩ := hv
  refine w_cV0_0 (pc := 4) C cl_X9_114 lv_X4_dropPlates (by decide) dX9_readPlates_4 (Nat.le_of_ble_eq_true rfl) (c := 4) rfl (St4_k f3) ((sf_X4_dropPlates (h := h) f3).mono (fun v h9 hp => ?_))
  obtain ⟨e1, e2⟩ := hp
  rw [e1, e2]
  refine w_aload_n (pc := 7) C dX9_readPlates_7 rfl ?_
  refine w_getR (pc := 8) C fl_X9_82 rfl dX9_readPlates_8 (St9_k f1) f2 ?_
  refine w_cV0_0 (pc := 11) C cl_X9_117 lv_X4_atFirst (by decide) dX9_readPlates_11 (Nat.le_of_ble_eq_true rfl) (c := 4) rfl (St4_k f3) (hv.mono (fun v h4 hp => ?_))
  obtain ⟨rfl, hv⟩ := hp
  refine w_iconst (pc := 14) C (v := 0) dX9_readPlates_14 (by decide) ?_
  refine w_istore_n (pc := 15) C dX9_readPlates_15 (by decide) ?_
  refine w_iconst (pc := 16) C (v := 0) dX9_readPlates_16 (by decide) ?_
  refine w_istore_n (pc := 17) C dX9_readPlates_17 (by decide) ?_
  refine w_iconst (pc := 18) C (v := 0) dX9_readPlates_18 (by decide) ?_
  refine w_istore_n (pc := 19) C dX9_readPlates_19 (by decide) ?_
  refine w_sub ?_ hv
  exact ⟨rfl, rfl, rfl, rfl, trivial⟩
set_option maxRecDepth 20000 in
set_option maxHeartbeats 2000000 in
theorem V_X9_readPlates_20 {X : Ctx} (C : C_X9_readPlates X) {k n : Nat} {Q : Pq} {h : Hp} {v0 : Nat} {v1 v2 v3 : Int32}
    (hv : St9 h v0 ∧ (((gi h (v0 + 1) 1) < v3 → Q (some (.int ((-1) - (gi h (v0 + 1) 1)))) h) ∧
    (¬ (gi h (v0 + 1) 1) < v3 → S_X7_firstNoDigit (lX X) (dtX X) 0 0 [.ref (v0 + 1), .int v3, .int 2] h (QI fun x3 h2 =>
    ((x3 = (-1) → St9 h2 v0 ∧ S_X7_number (lX X) (dtX X) 0 0 [.ref (v0 + 1), .int v3, .int 2] h2 (QI fun x6 h5 =>
    ((x6 < 10 → Q (some (.int ((-1) - (v3 + 1)))) h5) ∧
    (¬ x6 < 10 → ((70 < x6 → Q (some (.int ((-1) - (v3 + 1)))) h5) ∧
    (¬ 70 < x6 → ((v2 < x6 → St9 h5 v0 ∧ nn h5 v0 13 ∧ St4 h5 (gp h5 v0 13) ∧ S_X4_addCircle (lX X) (dtX X) 0 0 [.ref (gp h5 v0 13), .int x6] h5 (QV fun h10 =>
    St9 h10 v0 ∧ ((¬ (v3 + 2) = (gi h10 (v0 + 1) 1) → ((¬ (tAt h10 (v0 + 1) (v3 + 2)) = 59 → Wj X k n Q 176 [(0, .ref v0), (1, .int (v1 + Int32.ofInt 1)), (2, .int x6), (3, .int v3), (6, .int (tAt h10 (v0 + 1) (v3 + 2)))] [] h10) ∧
    ((tAt h10 (v0 + 1) (v3 + 2)) = 59 → nn h10 v0 13 ∧ St4 h10 (gp h10 v0 13) ∧ ((3 ≤ (gi h10 (gp h10 v0 13) 2) → Wj X k n Q 176 [(0, .ref v0), (1, .int (v1 + Int32.ofInt 1)), (2, .int x6), (3, .int v3), (6, .int (tAt h10 (v0 + 1) (v3 + 2)))] [] h10) ∧
    (¬ 3 ≤ (gi h10 (gp h10 v0 13) 2) → Wj X k n Q 20 [(0, .ref v0), (1, .int 0), (2, .int 0), (3, .int (v3 + Int32.ofInt 3))] [] (si h10 (gp h10 v0 13) 2 ((gi h10 (gp h10 v0 13) 2) + 1))))))) ∧
    ((v3 + 2) = (gi h10 (v0 + 1) 1) → nn h10 v0 13 ∧ St4 h10 (gp h10 v0 13) ∧ Q (some (.int (gi h10 (gp h10 v0 13) 3))) h10)))) ∧
    (¬ v2 < x6 → Q (some (.int ((-1) - (v3 + 1)))) h5)))))))) ∧
    (¬ x3 = (-1) → Q (some (.int ((-1) - x3))) h2)))))) :
    Wj X k n Q 20 [(0, .ref v0), (1, .int v1), (2, .int v2), (3, .int v3)] [] h := by
  refine w_iload_n (pc := 20) C dX9_readPlates_20 rfl ?_
  refine w_aload_n (pc := 21) C dX9_readPlates_21 rfl ?_
  obtain ⟨f1, hv⟩ := hv
  refine w_getR (pc := 22) C fl_X9_10 rfl dX9_readPlates_22 (St9_k f1) (St9_r0 f1) ?_
  refine w_getI (pc := 25) C fl_X9_96 rfl dX9_readPlates_25 (St7_k (St9_s0 f1)) ?_
  refine w_icmp_gt (pc := 28) C (tgt := 201) dX9_readPlates_28 (by decide) ?_
  obtain ⟨hv1, hv2⟩ := hv
  refine ⟨fun c23 => ?_, fun c23 => ?_⟩
  · have hv := hv1 c23
    refine w_iconst (pc := 201) C (v := (-1)) dX9_readPlates_201 (by decide) ?_
    refine w_aload_n (pc := 202) C dX9_readPlates_202 rfl ?_
    refine w_getR (pc := 203) C fl_X9_10 rfl dX9_readPlates_203 (St9_k f1) (St9_r0 f1) ?_
    refine w_getI (pc := 206) C fl_X9_96 rfl dX9_readPlates_206 (St7_k (St9_s0 f1)) ?_
    refine w_isub (pc := 209) C dX9_readPlates_209 ?_
    exact w_iret (pc := 210) C dX9_readPlates_210 hv
  · have hv := hv2 c23
    refine w_aload_n (pc := 31) C dX9_readPlates_31 rfl ?_
    refine w_getR (pc := 32) C fl_X9_10 rfl dX9_readPlates_32 (St9_k f1) (St9_r0 f1) ?_
    refine w_iload_n (pc := 35) C dX9_readPlates_35 rfl ?_
    refine w_iconst (pc := 36) C (v := 2) dX9_readPlates_36 (by decide) ?_
    refine w_cV0_2 (pc := 37) C cl_X9_120 lv_X7_firstNoDigit (by decide) dX9_readPlates_37 (Nat.le_of_ble_eq_true rfl) (c := 7) rfl (St7_k (St9_s0 f1)) (hv.mono (fun v h2 hp => ?_))
    obtain ⟨x3, rfl, hv⟩ := hp
    refine w_istore (pc := 40) C dX9_readPlates_40 (by decide) ?_
    refine w_iload (pc := 42) C dX9_readPlates_42 rfl ?_
    refine w_iconst (pc := 44) C (v := (-1)) dX9_readPlates_44 (by decide) ?_
    refine w_icmp_eq (pc := 45) C (tgt := 53) dX9_readPlates_45 (by decide) ?_
    obtain ⟨hv1, hv2⟩ := hv
    refine ⟨fun c22 => ?_, fun c22 => ?_⟩
    · have hv := hv1 c22
      refine w_aload_n (pc := 53) C dX9_readPlates_53 rfl ?_
      obtain ⟨f4, hv⟩ := hv
      refine w_getR (pc := 54) C fl_X9_10 rfl dX9_readPlates_54 (St9_k f4) (St9_r0 f4) ?_
      refine w_iload_n (pc := 57) C dX9_readPlates_57 rfl ?_
      refine w_iconst (pc := 58) C (v := 2) dX9_readPlates_58 (by decide) ?_
      refine w_cV0_2 (pc := 59) C cl_X9_124 lv_X7_number (by decide) dX9_readPlates_59 (Nat.le_of_ble_eq_true rfl) (c := 7) rfl (St7_k (St9_s0 f4)) (hv.mono (fun v h5 hp => ?_))
      obtain ⟨x6, rfl, hv⟩ := hp
      refine w_istore (pc := 62) C dX9_readPlates_62 (by decide) ?_
      refine w_iload (pc := 64) C dX9_readPlates_64 rfl ?_
      refine w_bipush (pc := 66) C (v := 10) dX9_readPlates_66 (by decide) ?_
      refine w_icmp_lt (pc := 68) C (tgt := 84) dX9_readPlates_68 (by decide) ?_
      obtain ⟨hv1, hv2⟩ := hv
      refine ⟨fun c21 => ?_, fun c21 => ?_⟩
      · have hv := hv1 c21
        refine w_iconst (pc := 84) C (v := (-1)) dX9_readPlates_84 (by decide) ?_
        refine w_iload_n (pc := 85) C dX9_readPlates_85 rfl ?_
        refine w_iconst (pc := 86) C (v := 1) dX9_readPlates_86 (by decide) ?_
        refine w_iadd (pc := 87) C dX9_readPlates_87 ?_
        refine w_isub (pc := 88) C dX9_readPlates_88 ?_
        exact w_iret (pc := 89) C dX9_readPlates_89 hv
      · have hv := hv2 c21
        refine w_iload (pc := 71) C dX9_readPlates_71 rfl ?_
        refine w_bipush (pc := 73) C (v := 70) dX9_readPlates_73 (by decide) ?_
        refine w_icmp_gt (pc := 75) C (tgt := 84) dX9_readPlates_75 (by decide) ?_
        obtain ⟨hv1, hv2⟩ := hv
        refine ⟨fun c20 => ?_, fun c20 => ?_⟩
        · have hv := hv1 c20
          refine w_iconst (pc := 84) C (v := (-1)) dX9_readPlates_84 (by decide) ?_
          refine w_iload_n (pc := 85) C dX9_readPlates_85 rfl ?_
          refine w_iconst (pc := 86) C (v := 1) dX9_readPlates_86 (by decide) ?_
          refine w_iadd (pc := 87) C dX9_readPlates_87 ?_
          refine w_isub (pc := 88) C dX9_readPlates_88 ?_
          exact w_iret (pc := 89) C dX9_readPlates_89 hv
        · have hv := hv2 c20
          refine w_iload (pc := 78) C dX9_readPlates_78 rfl ?_
          refine w_iload_n (pc := 80) C dX9_readPlates_80 rfl ?_
          refine w_icmp_gt (pc := 81) C (tgt := 90) dX9_readPlates_81 (by decide) ?_
          obtain ⟨hv1, hv2⟩ := hv
          refine ⟨fun c19 => ?_, fun c19 => ?_⟩
          · have hv := hv1 c19
            refine w_aload_n (pc := 90) C dX9_readPlates_90 rfl ?_
            obtain ⟨f7, hv⟩ := hv
            obtain ⟨f8, hv⟩ := hv
            refine w_getR (pc := 91) C fl_X9_82 rfl dX9_readPlates_91 (St9_k f7) f8 ?_
            refine w_iload (pc := 94) C dX9_readPlates_94 rfl ?_
            obtain ⟨f9, hv⟩ := hv
            refine w_cV0_1 (pc := 96) C cl_X9_127 lv_X4_addCircle (by decide) dX9_readPlates_96 (Nat.le_of_ble_eq_true rfl) (c := 4) rfl (St4_k f9) (hv.mono (fun v h10 hp => ?_))
            obtain ⟨rfl, hv⟩ := hp
            refine w_iinc (pc := 99) C dX9_readPlates_99 rfl (by decide) ?_
            refine w_iload (pc := 102) C dX9_readPlates_102 rfl ?_
            refine w_istore_n (pc := 104) C dX9_readPlates_104 (by decide) ?_
            refine w_iload_n (pc := 105) C dX9_readPlates_105 rfl ?_
            refine w_iconst (pc := 106) C (v := 2) dX9_readPlates_106 (by decide) ?_
            refine w_iadd (pc := 107) C dX9_readPlates_107 ?_
            refine w_aload_n (pc := 108) C dX9_readPlates_108 rfl ?_
            obtain ⟨f11, hv⟩ := hv
            refine w_getR (pc := 109) C fl_X9_10 rfl dX9_readPlates_109 (St9_k f11) (St9_r0 f11) ?_
            refine w_getI (pc := 112) C fl_X9_96 rfl dX9_readPlates_112 (St7_k (St9_s0 f11)) ?_
            refine w_icmp_ne (pc := 115) C (tgt := 126) dX9_readPlates_115 (by decide) ?_
            obtain ⟨hv1, hv2⟩ := hv
            refine ⟨fun c18 => ?_, fun c18 => ?_⟩
            · have hv := hv1 c18
              refine w_aload_n (pc := 126) C dX9_readPlates_126 rfl ?_
              refine w_getR (pc := 127) C fl_X9_10 rfl dX9_readPlates_127 (St9_k f11) (St9_r0 f11) ?_
              refine w_iload_n (pc := 130) C dX9_readPlates_130 rfl ?_
              refine w_iconst (pc := 131) C (v := 2) dX9_readPlates_131 (by decide) ?_
              refine w_iadd (pc := 132) C dX9_readPlates_132 ?_
              refine w_cV0_1 (pc := 133) C cl_X9_134 lv_X7_at (by decide) dX9_readPlates_133 (Nat.le_of_ble_eq_true rfl) (c := 7) rfl (St7_k (St9_s0 f11)) ((sf_X7_at (h := h10) (St9_s0 f11)).mono (fun v h9 hp => ?_))
              obtain ⟨e1, e2⟩ := hp
              rw [e1, e2]
              refine w_istore (pc := 136) C dX9_readPlates_136 (by decide) ?_
              refine w_iload (pc := 138) C dX9_readPlates_138 rfl ?_
              refine w_bipush (pc := 140) C (v := 59) dX9_readPlates_140 (by decide) ?_
              refine w_icmp_ne (pc := 142) C (tgt := 176) dX9_readPlates_142 (by decide) ?_
              obtain ⟨hv1, hv2⟩ := hv
              refine ⟨fun c15 => ?_, fun c15 => ?_⟩
              · have hv := hv1 c15
                refine w_sub ?_ hv
                exact ⟨rfl, rfl, rfl, rfl, rfl, trivial⟩
              · have hv := hv2 c15
                refine w_aload_n (pc := 145) C dX9_readPlates_145 rfl ?_
                obtain ⟨f12, hv⟩ := hv
                refine w_getR (pc := 146) C fl_X9_82 rfl dX9_readPlates_146 (St9_k f11) f12 ?_
                obtain ⟨f13, hv⟩ := hv
                refine w_getI (pc := 149) C fl_X9_137 rfl dX9_readPlates_149 (St4_k f13) ?_
                refine w_iconst (pc := 152) C (v := 3) dX9_readPlates_152 (by decide) ?_
                refine w_icmp_ge (pc := 153) C (tgt := 176) dX9_readPlates_153 (by decide) ?_
                obtain ⟨hv1, hv2⟩ := hv
                refine ⟨fun c14 => ?_, fun c14 => ?_⟩
                · have hv := hv1 c14
                  refine w_sub ?_ hv
                  exact ⟨rfl, rfl, rfl, rfl, rfl, trivial⟩
                · have hv := hv2 c14
                  refine w_aload_n (pc := 156) C dX9_readPlates_156 rfl ?_
                  refine w_getR (pc := 157) C fl_X9_82 rfl dX9_readPlates_157 (St9_k f11) f12 ?_
                  refine w_dup (pc := 160) C dX9_readPlates_160 rfl ?_
                  refine w_getI (pc := 161) C fl_X9_137 rfl dX9_readPlates_161 (St4_k f13) ?_
                  refine w_iconst (pc := 164) C (v := 1) dX9_readPlates_164 (by decide) ?_
                  refine w_iadd (pc := 165) C dX9_readPlates_165 ?_
                  refine w_putI (pc := 166) C fl_X9_137 rfl rfl dX9_readPlates_166 (St4_k f13) ?_
                  refine w_iconst (pc := 169) C (v := 0) dX9_readPlates_169 (by decide) ?_
                  refine w_istore_n (pc := 170) C dX9_readPlates_170 (by decide) ?_
                  refine w_iconst (pc := 171) C (v := 0) dX9_readPlates_171 (by decide) ?_
                  refine w_istore_n (pc := 172) C dX9_readPlates_172 (by decide) ?_
                  refine w_goto (pc := 173) C (tgt := 195) dX9_readPlates_173 (by decide) ?_
                  refine w_iinc (pc := 195) C dX9_readPlates_195 rfl (by decide) ?_
                  refine w_goto (pc := 198) C (tgt := 20) dX9_readPlates_198 (by decide) ?_
                  refine w_sub ?_ hv
                  exact ⟨rfl, rfl, rfl, rfl, trivial⟩
            · have hv := hv2 c18
              refine w_aload_n (pc := 118) C dX9_readPlates_118 rfl ?_
              obtain ⟨f16, hv⟩ := hv
              refine w_getR (pc := 119) C fl_X9_82 rfl dX9_readPlates_119 (St9_k f11) f16 ?_
              obtain ⟨f17, hv⟩ := hv
              refine w_getI (pc := 122) C fl_X9_131 rfl dX9_readPlates_122 (St4_k f17) ?_
              exact w_iret (pc := 125) C dX9_readPlates_125 hv
          · have hv := hv2 c19
            refine w_iconst (pc := 84) C (v := (-1)) dX9_readPlates_84 (by decide) ?_
            refine w_iload_n (pc := 85) C dX9_readPlates_85 rfl ?_
            refine w_iconst (pc := 86) C (v := 1) dX9_readPlates_86 (by decide) ?_
            refine w_iadd (pc := 87) C dX9_readPlates_87 ?_
            refine w_isub (pc := 88) C dX9_readPlates_88 ?_
            exact w_iret (pc := 89) C dX9_readPlates_89 hv
    · have hv := hv2 c22
      refine w_iconst (pc := 48) C (v := (-1)) dX9_readPlates_48 (by decide) ?_
      refine w_iload (pc := 49) C dX9_readPlates_49 rfl ?_
      refine w_isub (pc := 51) C dX9_readPlates_51 ?_
      exact w_iret (pc := 52) C dX9_readPlates_52 hv
set_option maxRecDepth 20000 in
set_option maxHeartbeats 2000000 in
theorem V_X9_readPlates_176 {X : Ctx} (C : C_X9_readPlates X) {k n : Nat} {Q : Pq} {h : Hp} {v0 : Nat} {v1 v3 v2 v6 : Int32}
    (hv : ((¬ v6 = 44 → Q (some (.int ((-1) - (v3 + 2)))) h) ∧
    (v6 = 44 → ((v1 < 6 → Wj X k n Q 20 [(0, .ref v0), (1, .int v1), (2, .int v2), (3, .int (v3 + Int32.ofInt 3))] [] h) ∧
    (¬ v1 < 6 → Q (some (.int ((-1) - (v3 + 2)))) h))))) :
    Wj X k n Q 176 [(0, .ref v0), (1, .int v1), (2, .int v2), (3, .int v3), (6, .int v6)] [] h := by
  refine w_iload (pc := 176) C dX9_readPlates_176 rfl ?_
  refine w_bipush (pc := 178) C (v := 44) dX9_readPlates_178 (by decide) ?_
  refine w_icmp_ne (pc := 180) C (tgt := 189) dX9_readPlates_180 (by decide) ?_
  obtain ⟨hv1, hv2⟩ := hv
  refine ⟨fun c2 => ?_, fun c2 => ?_⟩
  · have hv := hv1 c2
    refine w_iconst (pc := 189) C (v := (-1)) dX9_readPlates_189 (by decide) ?_
    refine w_iload_n (pc := 190) C dX9_readPlates_190 rfl ?_
    refine w_iconst (pc := 191) C (v := 2) dX9_readPlates_191 (by decide) ?_
    refine w_iadd (pc := 192) C dX9_readPlates_192 ?_
    refine w_isub (pc := 193) C dX9_readPlates_193 ?_
    exact w_iret (pc := 194) C dX9_readPlates_194 hv
  · have hv := hv2 c2
    refine w_iload_n (pc := 183) C dX9_readPlates_183 rfl ?_
    refine w_bipush (pc := 184) C (v := 6) dX9_readPlates_184 (by decide) ?_
    refine w_icmp_lt (pc := 186) C (tgt := 195) dX9_readPlates_186 (by decide) ?_
    obtain ⟨hv1, hv2⟩ := hv
    refine ⟨fun c1 => ?_, fun c1 => ?_⟩
    · have hv := hv1 c1
      refine w_iinc (pc := 195) C dX9_readPlates_195 rfl (by decide) ?_
      refine w_goto (pc := 198) C (tgt := 20) dX9_readPlates_198 (by decide) ?_
      refine w_sub ?_ hv
      exact ⟨rfl, rfl, rfl, rfl, trivial⟩
    · have hv := hv2 c1
      refine w_iconst (pc := 189) C (v := (-1)) dX9_readPlates_189 (by decide) ?_
      refine w_iload_n (pc := 190) C dX9_readPlates_190 rfl ?_
      refine w_iconst (pc := 191) C (v := 2) dX9_readPlates_191 (by decide) ?_
      refine w_iadd (pc := 192) C dX9_readPlates_192 ?_
      refine w_isub (pc := 193) C dX9_readPlates_193 ?_
      exact w_iret (pc := 194) C dX9_readPlates_194 hv
theorem dX9_plates_0 : decode cX9_plates 0 = .ok (.aload_n 0, 1) := by decide +kernel
theorem dX9_plates_1 : decode cX9_plates 1 = .ok (.getfield 82, 3) := by decide +kernel
theorem dX9_plates_4 : decode cX9_plates 4 = .ok (.aload_n 0, 1) := by decide +kernel
theorem dX9_plates_5 : decode cX9_plates 5 = .ok (.getfield 78, 3) := by decide +kernel
theorem dX9_plates_8 : decode cX9_plates 8 = .ok (.invokevirtual 99, 3) := by decide +kernel
theorem dX9_plates_11 : decode cX9_plates 11 = .ok (.aload_n 0, 1) := by decide +kernel
theorem dX9_plates_12 : decode cX9_plates 12 = .ok (.invokevirtual 103, 3) := by decide +kernel
theorem dX9_plates_15 : decode cX9_plates 15 = .ok (.istore_n 1, 1) := by decide +kernel
theorem dX9_plates_16 : decode cX9_plates 16 = .ok (.aload_n 0, 1) := by decide +kernel
theorem dX9_plates_17 : decode cX9_plates 17 = .ok (.getfield 10, 3) := by decide +kernel
theorem dX9_plates_20 : decode cX9_plates 20 = .ok (.iconst 0, 1) := by decide +kernel
theorem dX9_plates_21 : decode cX9_plates 21 = .ok (.putfield 96, 3) := by decide +kernel
theorem dX9_plates_24 : decode cX9_plates 24 = .ok (.aload_n 0, 1) := by decide +kernel
theorem dX9_plates_25 : decode cX9_plates 25 = .ok (.iload_n 1, 1) := by decide +kernel
theorem dX9_plates_26 : decode cX9_plates 26 = .ok (.invokevirtual 107, 3) := by decide +kernel
theorem dX9_plates_29 : decode cX9_plates 29 = .ok (.ireturn, 1) := by decide +kernel
set_option maxRecDepth 20000 in
set_option maxHeartbeats 2000000 in
theorem V_X9_plates_0 {X : Ctx} (C : C_X9_plates X) {k n : Nat} {Q : Pq} {h : Hp} {v0 : Nat}
    (hv : St9 h v0 ∧ nn h v0 13 ∧ nn h v0 12 ∧ St4 h (gp h v0 13) ∧ S_X4_copyFrom (lX X) (dtX X) 0 0 [.ref (gp h v0 13), .ref (gp h v0 12)] h (QV fun h5 =>
    St9 h5 v0 ∧ S_X9_readPlates (lX X) (dtX X) 0 0 [.ref v0] h5 (QI fun x8 h7 =>
    St9 h7 v0 ∧ (∃ k11 n12, k + k11 ≤ mcX X ∧ n + n12 ≤ msX X ∧ S_X9_adopt (lX X) (dtX X) k11 n12 [.ref v0, .int x8] (si h7 (v0 + 1) 1 0) (QI fun x13 h10 =>
    Q (some (.int x13)) h10))))) :
    Wj X k n Q 0 [(0, .ref v0)] [] h := by
  refine w_aload_n (pc := 0) C dX9_plates_0 rfl ?_
  obtain ⟨f1, hv⟩ := hv
  obtain ⟨f2, hv⟩ := hv
  refine w_getR (pc := 1) C fl_X9_82 rfl dX9_plates_1 (St9_k f1) f2 ?_
  refine w_aload_n (pc := 4) C dX9_plates_4 rfl ?_
  obtain ⟨f3, hv⟩ := hv
  refine w_getR (pc := 5) C fl_X9_78 rfl dX9_plates_5 (St9_k f1) f3 ?_
  obtain ⟨f4, hv⟩ := hv
  refine w_cV0_1 (pc := 8) C cl_X9_99 lv_X4_copyFrom (by decide) dX9_plates_8 (Nat.le_of_ble_eq_true rfl) (c := 4) rfl (St4_k f4) (hv.mono (fun v h5 hp => ?_))
  obtain ⟨rfl, hv⟩ := hp
  refine w_aload_n (pc := 11) C dX9_plates_11 rfl ?_
  obtain ⟨f6, hv⟩ := hv
  refine w_cV0_0 (pc := 12) C cl_X9_103 lv_X9_readPlates (by decide) dX9_plates_12 (Nat.le_of_ble_eq_true rfl) (c := 9) rfl (St9_k f6) (hv.mono (fun v h7 hp => ?_))
  obtain ⟨x8, rfl, hv⟩ := hp
  refine w_istore_n (pc := 15) C dX9_plates_15 (by decide) ?_
  refine w_aload_n (pc := 16) C dX9_plates_16 rfl ?_
  obtain ⟨f9, hv⟩ := hv
  refine w_getR (pc := 17) C fl_X9_10 rfl dX9_plates_17 (St9_k f9) (St9_r0 f9) ?_
  refine w_iconst (pc := 20) C (v := 0) dX9_plates_20 (by decide) ?_
  refine w_putI (pc := 21) C fl_X9_96 rfl rfl dX9_plates_21 (St7_k (St9_s0 f9)) ?_
  refine w_aload_n (pc := 24) C dX9_plates_24 rfl ?_
  refine w_iload_n (pc := 25) C dX9_plates_25 rfl ?_
  obtain ⟨k11, n12, hm1, hm2, hv⟩ := hv
  refine w_cV1_1 (pc := 26) C cl_X9_107 lv_X9_adopt (by decide) dX9_plates_26 (Nat.le_of_ble_eq_true rfl) (c := 9) rfl hm1 hm2 (St9_k f9) (hv.mono (fun v h10 hp => ?_))
  obtain ⟨x13, rfl, hv⟩ := hp
  exact w_iret (pc := 29) C dX9_plates_29 hv
theorem dX9_readGears_0 : decode cX9_readGears 0 = .ok (.aload_n 0, 1) := by decide +kernel
theorem dX9_readGears_1 : decode cX9_readGears 1 = .ok (.getfield 82, 3) := by decide +kernel
theorem dX9_readGears_4 : decode cX9_readGears 4 = .ok (.iconst 0, 1) := by decide +kernel
theorem dX9_readGears_5 : decode cX9_readGears 5 = .ok (.putfield 140, 3) := by decide +kernel
theorem dX9_readGears_8 : decode cX9_readGears 8 = .ok (.aload_n 0, 1) := by decide +kernel
theorem dX9_readGears_9 : decode cX9_readGears 9 = .ok (.getfield 82, 3) := by decide +kernel
theorem dX9_readGears_12 : decode cX9_readGears 12 = .ok (.invokevirtual 117, 3) := by decide +kernel
theorem dX9_readGears_15 : decode cX9_readGears 15 = .ok (.aload_n 0, 1) := by decide +kernel
theorem dX9_readGears_16 : decode cX9_readGears 16 = .ok (.getfield 10, 3) := by decide +kernel
theorem dX9_readGears_19 : decode cX9_readGears 19 = .ok (.getfield 96, 3) := by decide +kernel
theorem dX9_readGears_22 : decode cX9_readGears 22 = .ok (.ifCond .ne 5, 3) := by decide +kernel
theorem dX9_readGears_25 : decode cX9_readGears 25 = .ok (.iconst 0, 1) := by decide +kernel
theorem dX9_readGears_26 : decode cX9_readGears 26 = .ok (.ireturn, 1) := by decide +kernel
theorem dX9_readGears_27 : decode cX9_readGears 27 = .ok (.iconst 0, 1) := by decide +kernel
theorem dX9_readGears_28 : decode cX9_readGears 28 = .ok (.istore_n 1, 1) := by decide +kernel
theorem dX9_readGears_29 : decode cX9_readGears 29 = .ok (.iconst 0, 1) := by decide +kernel
theorem dX9_readGears_30 : decode cX9_readGears 30 = .ok (.istore_n 2, 1) := by decide +kernel
theorem dX9_readGears_31 : decode cX9_readGears 31 = .ok (.iload_n 2, 1) := by decide +kernel
theorem dX9_readGears_32 : decode cX9_readGears 32 = .ok (.bipush 12, 2) := by decide +kernel
theorem dX9_readGears_34 : decode cX9_readGears 34 = .ok (.if_icmp .ge 148, 3) := by decide +kernel
theorem dX9_readGears_37 : decode cX9_readGears 37 = .ok (.aload_n 0, 1) := by decide +kernel
theorem dX9_readGears_38 : decode cX9_readGears 38 = .ok (.getfield 10, 3) := by decide +kernel
theorem dX9_readGears_41 : decode cX9_readGears 41 = .ok (.iload_n 1, 1) := by decide +kernel
theorem dX9_readGears_42 : decode cX9_readGears 42 = .ok (.iconst 2, 1) := by decide +kernel
theorem dX9_readGears_43 : decode cX9_readGears 43 = .ok (.invokevirtual 120, 3) := by decide +kernel
theorem dX9_readGears_46 : decode cX9_readGears 46 = .ok (.istore_n 3, 1) := by decide +kernel
theorem dX9_readGears_47 : decode cX9_readGears 47 = .ok (.iload_n 3, 1) := by decide +kernel
theorem dX9_readGears_48 : decode cX9_readGears 48 = .ok (.iconst (-1), 1) := by decide +kernel
theorem dX9_readGears_49 : decode cX9_readGears 49 = .ok (.if_icmp .eq 7, 3) := by decide +kernel
theorem dX9_readGears_52 : decode cX9_readGears 52 = .ok (.iconst (-1), 1) := by decide +kernel
theorem dX9_readGears_53 : decode cX9_readGears 53 = .ok (.iload_n 3, 1) := by decide +kernel
theorem dX9_readGears_54 : decode cX9_readGears 54 = .ok (.isub, 1) := by decide +kernel
theorem dX9_readGears_55 : decode cX9_readGears 55 = .ok (.ireturn, 1) := by decide +kernel
theorem dX9_readGears_56 : decode cX9_readGears 56 = .ok (.aload_n 0, 1) := by decide +kernel
theorem dX9_readGears_57 : decode cX9_readGears 57 = .ok (.getfield 10, 3) := by decide +kernel
theorem dX9_readGears_60 : decode cX9_readGears 60 = .ok (.iload_n 1, 1) := by decide +kernel
theorem dX9_readGears_61 : decode cX9_readGears 61 = .ok (.iconst 2, 1) := by decide +kernel
theorem dX9_readGears_62 : decode cX9_readGears 62 = .ok (.iadd, 1) := by decide +kernel
theorem dX9_readGears_63 : decode cX9_readGears 63 = .ok (.invokevirtual 143, 3) := by decide +kernel
theorem dX9_readGears_66 : decode cX9_readGears 66 = .ok (.ifCond .eq 7, 3) := by decide +kernel
theorem dX9_readGears_69 : decode cX9_readGears 69 = .ok (.iconst 3, 1) := by decide +kernel
theorem dX9_readGears_70 : decode cX9_readGears 70 = .ok (.goto 4, 3) := by decide +kernel
theorem dX9_readGears_73 : decode cX9_readGears 73 = .ok (.iconst 2, 1) := by decide +kernel
theorem dX9_readGears_74 : decode cX9_readGears 74 = .ok (.istore 4, 2) := by decide +kernel
theorem dX9_readGears_76 : decode cX9_readGears 76 = .ok (.aload_n 0, 1) := by decide +kernel
theorem dX9_readGears_77 : decode cX9_readGears 77 = .ok (.getfield 10, 3) := by decide +kernel
theorem dX9_readGears_80 : decode cX9_readGears 80 = .ok (.iload_n 1, 1) := by decide +kernel
theorem dX9_readGears_81 : decode cX9_readGears 81 = .ok (.iload 4, 2) := by decide +kernel
theorem dX9_readGears_83 : decode cX9_readGears 83 = .ok (.invokevirtual 124, 3) := by decide +kernel
theorem dX9_readGears_86 : decode cX9_readGears 86 = .ok (.istore 5, 2) := by decide +kernel
theorem dX9_readGears_88 : decode cX9_readGears 88 = .ok (.iload 5, 2) := by decide +kernel
theorem dX9_readGears_90 : decode cX9_readGears 90 = .ok (.bipush 20, 2) := by decide +kernel
theorem dX9_readGears_92 : decode cX9_readGears 92 = .ok (.if_icmp .lt 10, 3) := by decide +kernel
theorem dX9_readGears_95 : decode cX9_readGears 95 = .ok (.iload 5, 2) := by decide +kernel
theorem dX9_readGears_97 : decode cX9_readGears 97 = .ok (.bipush 100, 2) := by decide +kernel
theorem dX9_readGears_99 : decode cX9_readGears 99 = .ok (.if_icmp .le 12, 3) := by decide +kernel
theorem dX9_readGears_102 : decode cX9_readGears 102 = .ok (.iconst (-1), 1) := by decide +kernel
theorem dX9_readGears_103 : decode cX9_readGears 103 = .ok (.iload_n 1, 1) := by decide +kernel
theorem dX9_readGears_104 : decode cX9_readGears 104 = .ok (.iload 4, 2) := by decide +kernel
theorem dX9_readGears_106 : decode cX9_readGears 106 = .ok (.iadd, 1) := by decide +kernel
theorem dX9_readGears_107 : decode cX9_readGears 107 = .ok (.iconst 1, 1) := by decide +kernel
theorem dX9_readGears_108 : decode cX9_readGears 108 = .ok (.isub, 1) := by decide +kernel
theorem dX9_readGears_109 : decode cX9_readGears 109 = .ok (.isub, 1) := by decide +kernel
theorem dX9_readGears_110 : decode cX9_readGears 110 = .ok (.ireturn, 1) := by decide +kernel
theorem dX9_readGears_111 : decode cX9_readGears 111 = .ok (.aload_n 0, 1) := by decide +kernel
theorem dX9_readGears_112 : decode cX9_readGears 112 = .ok (.getfield 82, 3) := by decide +kernel
theorem dX9_readGears_115 : decode cX9_readGears 115 = .ok (.iload 5, 2) := by decide +kernel
theorem dX9_readGears_117 : decode cX9_readGears 117 = .ok (.invokevirtual 146, 3) := by decide +kernel
theorem dX9_readGears_120 : decode cX9_readGears 120 = .ok (.iload_n 1, 1) := by decide +kernel
theorem dX9_readGears_121 : decode cX9_readGears 121 = .ok (.iload 4, 2) := by decide +kernel
theorem dX9_readGears_123 : decode cX9_readGears 123 = .ok (.iadd, 1) := by decide +kernel
theorem dX9_readGears_124 : decode cX9_readGears 124 = .ok (.istore_n 1, 1) := by decide +kernel
theorem dX9_readGears_125 : decode cX9_readGears 125 = .ok (.iload_n 1, 1) := by decide +kernel
theorem dX9_readGears_126 : decode cX9_readGears 126 = .ok (.aload_n 0, 1) := by decide +kernel
theorem dX9_readGears_127 : decode cX9_readGears 127 = .ok (.getfield 10, 3) := by decide +kernel
theorem dX9_readGears_130 : decode cX9_readGears 130 = .ok (.getfield 96, 3) := by decide +kernel
theorem dX9_readGears_133 : decode cX9_readGears 133 = .ok (.if_icmp .ne 11, 3) := by decide +kernel
theorem dX9_readGears_136 : decode cX9_readGears 136 = .ok (.aload_n 0, 1) := by decide +kernel
theorem dX9_readGears_137 : decode cX9_readGears 137 = .ok (.getfield 82, 3) := by decide +kernel
theorem dX9_readGears_140 : decode cX9_readGears 140 = .ok (.getfield 140, 3) := by decide +kernel
theorem dX9_readGears_143 : decode cX9_readGears 143 = .ok (.ireturn, 1) := by decide +kernel
theorem dX9_readGears_144 : decode cX9_readGears 144 = .ok (.aload_n 0, 1) := by decide +kernel
theorem dX9_readGears_145 : decode cX9_readGears 145 = .ok (.getfield 10, 3) := by decide +kernel
theorem dX9_readGears_148 : decode cX9_readGears 148 = .ok (.iload_n 1, 1) := by decide +kernel
theorem dX9_readGears_149 : decode cX9_readGears 149 = .ok (.invokevirtual 134, 3) := by decide +kernel
theorem dX9_readGears_152 : decode cX9_readGears 152 = .ok (.bipush 44, 2) := by decide +kernel
theorem dX9_readGears_154 : decode cX9_readGears 154 = .ok (.if_icmp .ne 15, 3) := by decide +kernel
theorem dX9_readGears_157 : decode cX9_readGears 157 = .ok (.aload_n 0, 1) := by decide +kernel
theorem dX9_readGears_158 : decode cX9_readGears 158 = .ok (.getfield 82, 3) := by decide +kernel
theorem dX9_readGears_161 : decode cX9_readGears 161 = .ok (.getfield 140, 3) := by decide +kernel
theorem dX9_readGears_164 : decode cX9_readGears 164 = .ok (.bipush 12, 2) := by decide +kernel
theorem dX9_readGears_166 : decode cX9_readGears 166 = .ok (.if_icmp .lt 7, 3) := by decide +kernel
theorem dX9_readGears_169 : decode cX9_readGears 169 = .ok (.iconst (-1), 1) := by decide +kernel
theorem dX9_readGears_170 : decode cX9_readGears 170 = .ok (.iload_n 1, 1) := by decide +kernel
theorem dX9_readGears_171 : decode cX9_readGears 171 = .ok (.isub, 1) := by decide +kernel
theorem dX9_readGears_172 : decode cX9_readGears 172 = .ok (.ireturn, 1) := by decide +kernel
theorem dX9_readGears_173 : decode cX9_readGears 173 = .ok (.iinc 1 1, 3) := by decide +kernel
theorem dX9_readGears_176 : decode cX9_readGears 176 = .ok (.iinc 2 1, 3) := by decide +kernel
theorem dX9_readGears_179 : decode cX9_readGears 179 = .ok (.goto (-148), 3) := by decide +kernel
theorem dX9_readGears_182 : decode cX9_readGears 182 = .ok (.iconst (-1), 1) := by decide +kernel
theorem dX9_readGears_183 : decode cX9_readGears 183 = .ok (.iload_n 1, 1) := by decide +kernel
theorem dX9_readGears_184 : decode cX9_readGears 184 = .ok (.isub, 1) := by decide +kernel
theorem dX9_readGears_185 : decode cX9_readGears 185 = .ok (.ireturn, 1) := by decide +kernel
set_option maxRecDepth 20000 in
set_option maxHeartbeats 2000000 in
theorem V_X9_readGears_0 {X : Ctx} (C : C_X9_readGears X) {k n : Nat} {Q : Pq} {h : Hp} {v0 : Nat}
    (hv : St9 h v0 ∧ nn h v0 13 ∧ St4 h (gp h v0 13) ∧ S_X4_atFirst (lX X) (dtX X) 0 0 [.ref (gp h v0 13)] (si h (gp h v0 13) 4 0) (QV fun h4 =>
    St9 h4 v0 ∧ ((¬ (gi h4 (v0 + 1) 1) = 0 → Wj X k n Q 31 [(0, .ref v0), (1, .int 0), (2, .int 0)] [] h4) ∧
    ((gi h4 (v0 + 1) 1) = 0 → Q (some (.int 0)) h4)))) :
    Wj X k n Q 0 [(0, .ref v0)] [] h := by
  refine w_aload_n (pc := 0) C dX9_readGears_0 rfl ?_
  obtain ⟨f1, hv⟩ := hv
  obtain ⟨f2, hv⟩ := hv
  refine w_getR (pc := 1) C fl_X9_82 rfl dX9_readGears_1 (St9_k f1) f2 ?_
  refine w_iconst (pc := 4) C (v := 0) dX9_readGears_4 (by decide) ?_
  obtain ⟨f3, hv⟩ := hv
  refine w_putI (pc := 5) C fl_X9_140 rfl rfl dX9_readGears_5 (St4_k f3) ?_
  refine w_aload_n (pc := 8) C dX9_readGears_8 rfl ?_
  refine w_getR (pc := 9) C fl_X9_82 rfl dX9_readGears_9 (St9_k f1) f2 ?_
  refine w_cV0_0 (pc := 12) C cl_X9_117 lv_X4_atFirst (by decide) dX9_readGears_12 (Nat.le_of_ble_eq_true rfl) (c := 4) rfl (St4_k f3) (hv.mono (fun v h4 hp => ?_))
  obtain ⟨rfl, hv⟩ := hp
  refine w_aload_n (pc := 15) C dX9_readGears_15 rfl ?_
  obtain ⟨f5, hv⟩ := hv
  refine w_getR (pc := 16) C fl_X9_10 rfl dX9_readGears_16 (St9_k f5) (St9_r0 f5) ?_
  refine w_getI (pc := 19) C fl_X9_96 rfl dX9_readGears_19 (St7_k (St9_s0 f5)) ?_
  refine w_if_ne (pc := 22) C (tgt := 27) dX9_readGears_22 (by decide) ?_
  obtain ⟨hv1, hv2⟩ := hv
  refine ⟨fun c6 => ?_, fun c6 => ?_⟩
  · have hv := hv1 c6
    refine w_iconst (pc := 27) C (v := 0) dX9_readGears_27 (by decide) ?_
    refine w_istore_n (pc := 28) C dX9_readGears_28 (by decide) ?_
    refine w_iconst (pc := 29) C (v := 0) dX9_readGears_29 (by decide) ?_
    refine w_istore_n (pc := 30) C dX9_readGears_30 (by decide) ?_
    refine w_sub ?_ hv
    exact ⟨rfl, rfl, rfl, trivial⟩
  · have hv := hv2 c6
    refine w_iconst (pc := 25) C (v := 0) dX9_readGears_25 (by decide) ?_
    exact w_iret (pc := 26) C dX9_readGears_26 hv
set_option maxRecDepth 20000 in
set_option maxHeartbeats 2000000 in
theorem V_X9_readGears_31 {X : Ctx} (C : C_X9_readGears X) {k n : Nat} {Q : Pq} {h : Hp} {v0 : Nat} {v1 v2 : Int32}
    (hv : ((12 ≤ v2 → Q (some (.int ((-1) - v1))) h) ∧
    (¬ 12 ≤ v2 → St9 h v0 ∧ S_X7_firstNoDigit (lX X) (dtX X) 0 0 [.ref (v0 + 1), .int v1, .int 2] h (QI fun x3 h2 =>
    ((x3 = (-1) → St9 h2 v0 ∧ (((tDg h2 (v0 + 1) (v1 + 2)) = 0 → Wj X k n Q 74 [(0, .ref v0), (1, .int v1), (2, .int v2)] [.int 2] h2) ∧
    (¬ (tDg h2 (v0 + 1) (v1 + 2)) = 0 → Wj X k n Q 74 [(0, .ref v0), (1, .int v1), (2, .int v2)] [.int 3] h2))) ∧
    (¬ x3 = (-1) → Q (some (.int ((-1) - x3))) h2)))))) :
    Wj X k n Q 31 [(0, .ref v0), (1, .int v1), (2, .int v2)] [] h := by
  refine w_iload_n (pc := 31) C dX9_readGears_31 rfl ?_
  refine w_bipush (pc := 32) C (v := 12) dX9_readGears_32 (by decide) ?_
  refine w_icmp_ge (pc := 34) C (tgt := 182) dX9_readGears_34 (by decide) ?_
  obtain ⟨hv1, hv2⟩ := hv
  refine ⟨fun c7 => ?_, fun c7 => ?_⟩
  · have hv := hv1 c7
    refine w_iconst (pc := 182) C (v := (-1)) dX9_readGears_182 (by decide) ?_
    refine w_iload_n (pc := 183) C dX9_readGears_183 rfl ?_
    refine w_isub (pc := 184) C dX9_readGears_184 ?_
    exact w_iret (pc := 185) C dX9_readGears_185 hv
  · have hv := hv2 c7
    refine w_aload_n (pc := 37) C dX9_readGears_37 rfl ?_
    obtain ⟨f1, hv⟩ := hv
    refine w_getR (pc := 38) C fl_X9_10 rfl dX9_readGears_38 (St9_k f1) (St9_r0 f1) ?_
    refine w_iload_n (pc := 41) C dX9_readGears_41 rfl ?_
    refine w_iconst (pc := 42) C (v := 2) dX9_readGears_42 (by decide) ?_
    refine w_cV0_2 (pc := 43) C cl_X9_120 lv_X7_firstNoDigit (by decide) dX9_readGears_43 (Nat.le_of_ble_eq_true rfl) (c := 7) rfl (St7_k (St9_s0 f1)) (hv.mono (fun v h2 hp => ?_))
    obtain ⟨x3, rfl, hv⟩ := hp
    refine w_istore_n (pc := 46) C dX9_readGears_46 (by decide) ?_
    refine w_iload_n (pc := 47) C dX9_readGears_47 rfl ?_
    refine w_iconst (pc := 48) C (v := (-1)) dX9_readGears_48 (by decide) ?_
    refine w_icmp_eq (pc := 49) C (tgt := 56) dX9_readGears_49 (by decide) ?_
    obtain ⟨hv1, hv2⟩ := hv
    refine ⟨fun c6 => ?_, fun c6 => ?_⟩
    · have hv := hv1 c6
      refine w_aload_n (pc := 56) C dX9_readGears_56 rfl ?_
      obtain ⟨f4, hv⟩ := hv
      refine w_getR (pc := 57) C fl_X9_10 rfl dX9_readGears_57 (St9_k f4) (St9_r0 f4) ?_
      refine w_iload_n (pc := 60) C dX9_readGears_60 rfl ?_
      refine w_iconst (pc := 61) C (v := 2) dX9_readGears_61 (by decide) ?_
      refine w_iadd (pc := 62) C dX9_readGears_62 ?_
      refine w_cV0_1 (pc := 63) C cl_X9_143 lv_X7_isDigit (by decide) dX9_readGears_63 (Nat.le_of_ble_eq_true rfl) (c := 7) rfl (St7_k (St9_s0 f4)) ((sf_X7_isDigit (h := h2) (St9_s0 f4)).mono (fun v h9 hp => ?_))
      obtain ⟨e1, e2⟩ := hp
      rw [e1, e2]
      refine w_if_eq (pc := 66) C (tgt := 73) dX9_readGears_66 (by decide) ?_
      obtain ⟨hv1, hv2⟩ := hv
      refine ⟨fun c5 => ?_, fun c5 => ?_⟩
      · have hv := hv1 c5
        refine w_iconst (pc := 73) C (v := 2) dX9_readGears_73 (by decide) ?_
        refine w_sub ?_ hv
        exact ⟨rfl, rfl, rfl, trivial⟩
      · have hv := hv2 c5
        refine w_iconst (pc := 69) C (v := 3) dX9_readGears_69 (by decide) ?_
        refine w_goto (pc := 70) C (tgt := 74) dX9_readGears_70 (by decide) ?_
        refine w_sub ?_ hv
        exact ⟨rfl, rfl, rfl, trivial⟩
    · have hv := hv2 c6
      refine w_iconst (pc := 52) C (v := (-1)) dX9_readGears_52 (by decide) ?_
      refine w_iload_n (pc := 53) C dX9_readGears_53 rfl ?_
      refine w_isub (pc := 54) C dX9_readGears_54 ?_
      exact w_iret (pc := 55) C dX9_readGears_55 hv
set_option maxRecDepth 20000 in
set_option maxHeartbeats 2000000 in
theorem V_X9_readGears_74 {X : Ctx} (C : C_X9_readGears X) {k n : Nat} {Q : Pq} {h : Hp} {v0 : Nat} {v1 v2 s0 : Int32}
    (hv : St9 h v0 ∧ S_X7_number (lX X) (dtX X) 0 0 [.ref (v0 + 1), .int v1, .int s0] h (QI fun x3 h2 =>
    ((x3 < 20 → Wj X k n Q 102 [(1, .int v1), (4, .int s0)] [] h2) ∧
    (¬ x3 < 20 → ((x3 ≤ 100 → St9 h2 v0 ∧ nn h2 v0 13 ∧ St4 h2 (gp h2 v0 13) ∧ S_X4_addGear (lX X) (dtX X) 0 0 [.ref (gp h2 v0 13), .int x3] h2 (QV fun h7 =>
    St9 h7 v0 ∧ ((¬ (v1 + s0) = (gi h7 (v0 + 1) 1) → ((¬ (tAt h7 (v0 + 1) (v1 + s0)) = 44 → Q (some (.int ((-1) - (v1 + s0)))) h7) ∧
    ((tAt h7 (v0 + 1) (v1 + s0)) = 44 → nn h7 v0 13 ∧ St4 h7 (gp h7 v0 13) ∧ (((gi h7 (gp h7 v0 13) 4) < 12 → Wj X k n Q 31 [(0, .ref v0), (1, .int ((v1 + s0) + Int32.ofInt 1)), (2, .int (v2 + Int32.ofInt 1))] [] h7) ∧
    (¬ (gi h7 (gp h7 v0 13) 4) < 12 → Q (some (.int ((-1) - (v1 + s0)))) h7))))) ∧
    ((v1 + s0) = (gi h7 (v0 + 1) 1) → nn h7 v0 13 ∧ St4 h7 (gp h7 v0 13) ∧ Q (some (.int (gi h7 (gp h7 v0 13) 4))) h7)))) ∧
    (¬ x3 ≤ 100 → Wj X k n Q 102 [(1, .int v1), (4, .int s0)] [] h2)))))) :
    Wj X k n Q 74 [(0, .ref v0), (1, .int v1), (2, .int v2)] [.int s0] h := by
  refine w_istore (pc := 74) C dX9_readGears_74 (by decide) ?_
  refine w_aload_n (pc := 76) C dX9_readGears_76 rfl ?_
  obtain ⟨f1, hv⟩ := hv
  refine w_getR (pc := 77) C fl_X9_10 rfl dX9_readGears_77 (St9_k f1) (St9_r0 f1) ?_
  refine w_iload_n (pc := 80) C dX9_readGears_80 rfl ?_
  refine w_iload (pc := 81) C dX9_readGears_81 rfl ?_
  refine w_cV0_2 (pc := 83) C cl_X9_124 lv_X7_number (by decide) dX9_readGears_83 (Nat.le_of_ble_eq_true rfl) (c := 7) rfl (St7_k (St9_s0 f1)) (hv.mono (fun v h2 hp => ?_))
  obtain ⟨x3, rfl, hv⟩ := hp
  refine w_istore (pc := 86) C dX9_readGears_86 (by decide) ?_
  refine w_iload (pc := 88) C dX9_readGears_88 rfl ?_
  refine w_bipush (pc := 90) C (v := 20) dX9_readGears_90 (by decide) ?_
  refine w_icmp_lt (pc := 92) C (tgt := 102) dX9_readGears_92 (by decide) ?_
  obtain ⟨hv1, hv2⟩ := hv
  refine ⟨fun c17 => ?_, fun c17 => ?_⟩
  · have hv := hv1 c17
    refine w_sub ?_ hv
    exact ⟨rfl, rfl, trivial⟩
  · have hv := hv2 c17
    refine w_iload (pc := 95) C dX9_readGears_95 rfl ?_
    refine w_bipush (pc := 97) C (v := 100) dX9_readGears_97 (by decide) ?_
    refine w_icmp_le (pc := 99) C (tgt := 111) dX9_readGears_99 (by decide) ?_
    obtain ⟨hv1, hv2⟩ := hv
    refine ⟨fun c16 => ?_, fun c16 => ?_⟩
    · have hv := hv1 c16
      refine w_aload_n (pc := 111) C dX9_readGears_111 rfl ?_
      obtain ⟨f4, hv⟩ := hv
      obtain ⟨f5, hv⟩ := hv
      refine w_getR (pc := 112) C fl_X9_82 rfl dX9_readGears_112 (St9_k f4) f5 ?_
      refine w_iload (pc := 115) C dX9_readGears_115 rfl ?_
      obtain ⟨f6, hv⟩ := hv
      refine w_cV0_1 (pc := 117) C cl_X9_146 lv_X4_addGear (by decide) dX9_readGears_117 (Nat.le_of_ble_eq_true rfl) (c := 4) rfl (St4_k f6) (hv.mono (fun v h7 hp => ?_))
      obtain ⟨rfl, hv⟩ := hp
      refine w_iload_n (pc := 120) C dX9_readGears_120 rfl ?_
      refine w_iload (pc := 121) C dX9_readGears_121 rfl ?_
      refine w_iadd (pc := 123) C dX9_readGears_123 ?_
      refine w_istore_n (pc := 124) C dX9_readGears_124 (by decide) ?_
      refine w_iload_n (pc := 125) C dX9_readGears_125 rfl ?_
      refine w_aload_n (pc := 126) C dX9_readGears_126 rfl ?_
      obtain ⟨f8, hv⟩ := hv
      refine w_getR (pc := 127) C fl_X9_10 rfl dX9_readGears_127 (St9_k f8) (St9_r0 f8) ?_
      refine w_getI (pc := 130) C fl_X9_96 rfl dX9_readGears_130 (St7_k (St9_s0 f8)) ?_
      refine w_icmp_ne (pc := 133) C (tgt := 144) dX9_readGears_133 (by decide) ?_
      obtain ⟨hv1, hv2⟩ := hv
      refine ⟨fun c15 => ?_, fun c15 => ?_⟩
      · have hv := hv1 c15
        refine w_aload_n (pc := 144) C dX9_readGears_144 rfl ?_
        refine w_getR (pc := 145) C fl_X9_10 rfl dX9_readGears_145 (St9_k f8) (St9_r0 f8) ?_
        refine w_iload_n (pc := 148) C dX9_readGears_148 rfl ?_
        refine w_cV0_1 (pc := 149) C cl_X9_134 lv_X7_at (by decide) dX9_readGears_149 (Nat.le_of_ble_eq_true rfl) (c := 7) rfl (St7_k (St9_s0 f8)) ((sf_X7_at (h := h7) (St9_s0 f8)).mono (fun v h9 hp => ?_))
        obtain ⟨e1, e2⟩ := hp
        rw [e1, e2]
        refine w_bipush (pc := 152) C (v := 44) dX9_readGears_152 (by decide) ?_
        refine w_icmp_ne (pc := 154) C (tgt := 169) dX9_readGears_154 (by decide) ?_
        obtain ⟨hv1, hv2⟩ := hv
        refine ⟨fun c12 => ?_, fun c12 => ?_⟩
        · have hv := hv1 c12
          refine w_iconst (pc := 169) C (v := (-1)) dX9_readGears_169 (by decide) ?_
          refine w_iload_n (pc := 170) C dX9_readGears_170 rfl ?_
          refine w_isub (pc := 171) C dX9_readGears_171 ?_
          exact w_iret (pc := 172) C dX9_readGears_172 hv
        · have hv := hv2 c12
          refine w_aload_n (pc := 157) C dX9_readGears_157 rfl ?_
          obtain ⟨f9, hv⟩ := hv
          refine w_getR (pc := 158) C fl_X9_82 rfl dX9_readGears_158 (St9_k f8) f9 ?_
          obtain ⟨f10, hv⟩ := hv
          refine w_getI (pc := 161) C fl_X9_140 rfl dX9_readGears_161 (St4_k f10) ?_
          refine w_bipush (pc := 164) C (v := 12) dX9_readGears_164 (by decide) ?_
          refine w_icmp_lt (pc := 166) C (tgt := 173) dX9_readGears_166 (by decide) ?_
          obtain ⟨hv1, hv2⟩ := hv
          refine ⟨fun c11 => ?_, fun c11 => ?_⟩
          · have hv := hv1 c11
            refine w_iinc (pc := 173) C dX9_readGears_173 rfl (by decide) ?_
            refine w_iinc (pc := 176) C dX9_readGears_176 rfl (by decide) ?_
            refine w_goto (pc := 179) C (tgt := 31) dX9_readGears_179 (by decide) ?_
            refine w_sub ?_ hv
            exact ⟨rfl, rfl, rfl, trivial⟩
          · have hv := hv2 c11
            refine w_iconst (pc := 169) C (v := (-1)) dX9_readGears_169 (by decide) ?_
            refine w_iload_n (pc := 170) C dX9_readGears_170 rfl ?_
            refine w_isub (pc := 171) C dX9_readGears_171 ?_
            exact w_iret (pc := 172) C dX9_readGears_172 hv
      · have hv := hv2 c15
        refine w_aload_n (pc := 136) C dX9_readGears_136 rfl ?_
        obtain ⟨f13, hv⟩ := hv
        refine w_getR (pc := 137) C fl_X9_82 rfl dX9_readGears_137 (St9_k f8) f13 ?_
        obtain ⟨f14, hv⟩ := hv
        refine w_getI (pc := 140) C fl_X9_140 rfl dX9_readGears_140 (St4_k f14) ?_
        exact w_iret (pc := 143) C dX9_readGears_143 hv
    · have hv := hv2 c16
      refine w_sub ?_ hv
      exact ⟨rfl, rfl, trivial⟩
set_option maxRecDepth 20000 in
set_option maxHeartbeats 2000000 in
theorem V_X9_readGears_102 {X : Ctx} (C : C_X9_readGears X) {k n : Nat} {Q : Pq} {h : Hp} {v1 v4 : Int32}
    (hv : Q (some (.int ((-1) - ((v1 + v4) - 1)))) h) :
    Wj X k n Q 102 [(1, .int v1), (4, .int v4)] [] h := by
  refine w_iconst (pc := 102) C (v := (-1)) dX9_readGears_102 (by decide) ?_
  refine w_iload_n (pc := 103) C dX9_readGears_103 rfl ?_
  refine w_iload (pc := 104) C dX9_readGears_104 rfl ?_
  refine w_iadd (pc := 106) C dX9_readGears_106 ?_
  refine w_iconst (pc := 107) C (v := 1) dX9_readGears_107 (by decide) ?_
  refine w_isub (pc := 108) C dX9_readGears_108 ?_
  refine w_isub (pc := 109) C dX9_readGears_109 ?_
  exact w_iret (pc := 110) C dX9_readGears_110 hv
theorem dX9_gears_0 : decode cX9_gears 0 = .ok (.aload_n 0, 1) := by decide +kernel
theorem dX9_gears_1 : decode cX9_gears 1 = .ok (.getfield 82, 3) := by decide +kernel
theorem dX9_gears_4 : decode cX9_gears 4 = .ok (.aload_n 0, 1) := by decide +kernel
theorem dX9_gears_5 : decode cX9_gears 5 = .ok (.getfield 78, 3) := by decide +kernel
theorem dX9_gears_8 : decode cX9_gears 8 = .ok (.invokevirtual 99, 3) := by decide +kernel
theorem dX9_gears_11 : decode cX9_gears 11 = .ok (.aload_n 0, 1) := by decide +kernel
theorem dX9_gears_12 : decode cX9_gears 12 = .ok (.invokevirtual 111, 3) := by decide +kernel
theorem dX9_gears_15 : decode cX9_gears 15 = .ok (.istore_n 1, 1) := by decide +kernel
theorem dX9_gears_16 : decode cX9_gears 16 = .ok (.aload_n 0, 1) := by decide +kernel
theorem dX9_gears_17 : decode cX9_gears 17 = .ok (.getfield 10, 3) := by decide +kernel
theorem dX9_gears_20 : decode cX9_gears 20 = .ok (.iconst 0, 1) := by decide +kernel
theorem dX9_gears_21 : decode cX9_gears 21 = .ok (.putfield 96, 3) := by decide +kernel
theorem dX9_gears_24 : decode cX9_gears 24 = .ok (.aload_n 0, 1) := by decide +kernel
theorem dX9_gears_25 : decode cX9_gears 25 = .ok (.iload_n 1, 1) := by decide +kernel
theorem dX9_gears_26 : decode cX9_gears 26 = .ok (.invokevirtual 107, 3) := by decide +kernel
theorem dX9_gears_29 : decode cX9_gears 29 = .ok (.ireturn, 1) := by decide +kernel
set_option maxRecDepth 20000 in
set_option maxHeartbeats 2000000 in
theorem V_X9_gears_0 {X : Ctx} (C : C_X9_gears X) {k n : Nat} {Q : Pq} {h : Hp} {v0 : Nat}
    (hv : St9 h v0 ∧ nn h v0 13 ∧ nn h v0 12 ∧ St4 h (gp h v0 13) ∧ S_X4_copyFrom (lX X) (dtX X) 0 0 [.ref (gp h v0 13), .ref (gp h v0 12)] h (QV fun h5 =>
    St9 h5 v0 ∧ S_X9_readGears (lX X) (dtX X) 0 0 [.ref v0] h5 (QI fun x8 h7 =>
    St9 h7 v0 ∧ (∃ k11 n12, k + k11 ≤ mcX X ∧ n + n12 ≤ msX X ∧ S_X9_adopt (lX X) (dtX X) k11 n12 [.ref v0, .int x8] (si h7 (v0 + 1) 1 0) (QI fun x13 h10 =>
    Q (some (.int x13)) h10))))) :
    Wj X k n Q 0 [(0, .ref v0)] [] h := by
  refine w_aload_n (pc := 0) C dX9_gears_0 rfl ?_
  obtain ⟨f1, hv⟩ := hv
  obtain ⟨f2, hv⟩ := hv
  refine w_getR (pc := 1) C fl_X9_82 rfl dX9_gears_1 (St9_k f1) f2 ?_
  refine w_aload_n (pc := 4) C dX9_gears_4 rfl ?_
  obtain ⟨f3, hv⟩ := hv
  refine w_getR (pc := 5) C fl_X9_78 rfl dX9_gears_5 (St9_k f1) f3 ?_
  obtain ⟨f4, hv⟩ := hv
  refine w_cV0_1 (pc := 8) C cl_X9_99 lv_X4_copyFrom (by decide) dX9_gears_8 (Nat.le_of_ble_eq_true rfl) (c := 4) rfl (St4_k f4) (hv.mono (fun v h5 hp => ?_))
  obtain ⟨rfl, hv⟩ := hp
  refine w_aload_n (pc := 11) C dX9_gears_11 rfl ?_
  obtain ⟨f6, hv⟩ := hv
  refine w_cV0_0 (pc := 12) C cl_X9_111 lv_X9_readGears (by decide) dX9_gears_12 (Nat.le_of_ble_eq_true rfl) (c := 9) rfl (St9_k f6) (hv.mono (fun v h7 hp => ?_))
  obtain ⟨x8, rfl, hv⟩ := hp
  refine w_istore_n (pc := 15) C dX9_gears_15 (by decide) ?_
  refine w_aload_n (pc := 16) C dX9_gears_16 rfl ?_
  obtain ⟨f9, hv⟩ := hv
  refine w_getR (pc := 17) C fl_X9_10 rfl dX9_gears_17 (St9_k f9) (St9_r0 f9) ?_
  refine w_iconst (pc := 20) C (v := 0) dX9_gears_20 (by decide) ?_
  refine w_putI (pc := 21) C fl_X9_96 rfl rfl dX9_gears_21 (St7_k (St9_s0 f9)) ?_
  refine w_aload_n (pc := 24) C dX9_gears_24 rfl ?_
  refine w_iload_n (pc := 25) C dX9_gears_25 rfl ?_
  obtain ⟨k11, n12, hm1, hm2, hv⟩ := hv
  refine w_cV1_1 (pc := 26) C cl_X9_107 lv_X9_adopt (by decide) dX9_gears_26 (Nat.le_of_ble_eq_true rfl) (c := 9) rfl hm1 hm2 (St9_k f9) (hv.mono (fun v h10 hp => ?_))
  obtain ⟨x13, rfl, hv⟩ := hp
  exact w_iret (pc := 29) C dX9_gears_29 hv
theorem dX9_firstWrongOfDay_0 : decode cX9_firstWrongOfDay 0 = .ok (.iconst 0, 1) := by decide +kernel
theorem dX9_firstWrongOfDay_1 : decode cX9_firstWrongOfDay 1 = .ok (.istore_n 1, 1) := by decide +kernel
theorem dX9_firstWrongOfDay_2 : decode cX9_firstWrongOfDay 2 = .ok (.iconst 0, 1) := by decide +kernel
theorem dX9_firstWrongOfDay_3 : decode cX9_firstWrongOfDay 3 = .ok (.istore_n 2, 1) := by decide +kernel
theorem dX9_firstWrongOfDay_4 : decode cX9_firstWrongOfDay 4 = .ok (.iload_n 2, 1) := by decide +kernel
theorem dX9_firstWrongOfDay_5 : decode cX9_firstWrongOfDay 5 = .ok (.bipush 80, 2) := by decide +kernel
theorem dX9_firstWrongOfDay_7 : decode cX9_firstWrongOfDay 7 = .ok (.if_icmp .ge 126, 3) := by decide +kernel
theorem dX9_firstWrongOfDay_10 : decode cX9_firstWrongOfDay 10 = .ok (.iload_n 1, 1) := by decide +kernel
theorem dX9_firstWrongOfDay_11 : decode cX9_firstWrongOfDay 11 = .ok (.aload_n 0, 1) := by decide +kernel
theorem dX9_firstWrongOfDay_12 : decode cX9_firstWrongOfDay 12 = .ok (.getfield 10, 3) := by decide +kernel
theorem dX9_firstWrongOfDay_15 : decode cX9_firstWrongOfDay 15 = .ok (.getfield 96, 3) := by decide +kernel
theorem dX9_firstWrongOfDay_18 : decode cX9_firstWrongOfDay 18 = .ok (.if_icmp .ge 115, 3) := by decide +kernel
theorem dX9_firstWrongOfDay_21 : decode cX9_firstWrongOfDay 21 = .ok (.aload_n 0, 1) := by decide +kernel
theorem dX9_firstWrongOfDay_22 : decode cX9_firstWrongOfDay 22 = .ok (.getfield 10, 3) := by decide +kernel
theorem dX9_firstWrongOfDay_25 : decode cX9_firstWrongOfDay 25 = .ok (.iload_n 1, 1) := by decide +kernel
theorem dX9_firstWrongOfDay_26 : decode cX9_firstWrongOfDay 26 = .ok (.invokevirtual 134, 3) := by decide +kernel
theorem dX9_firstWrongOfDay_29 : decode cX9_firstWrongOfDay 29 = .ok (.istore_n 3, 1) := by decide +kernel
theorem dX9_firstWrongOfDay_30 : decode cX9_firstWrongOfDay 30 = .ok (.iload_n 3, 1) := by decide +kernel
theorem dX9_firstWrongOfDay_31 : decode cX9_firstWrongOfDay 31 = .ok (.invokestatic 404, 3) := by decide +kernel
theorem dX9_firstWrongOfDay_34 : decode cX9_firstWrongOfDay 34 = .ok (.istore 4, 2) := by decide +kernel
theorem dX9_firstWrongOfDay_36 : decode cX9_firstWrongOfDay 36 = .ok (.iload 4, 2) := by decide +kernel
theorem dX9_firstWrongOfDay_38 : decode cX9_firstWrongOfDay 38 = .ok (.ifCond .ne 5, 3) := by decide +kernel
theorem dX9_firstWrongOfDay_41 : decode cX9_firstWrongOfDay 41 = .ok (.iload_n 1, 1) := by decide +kernel
theorem dX9_firstWrongOfDay_42 : decode cX9_firstWrongOfDay 42 = .ok (.ireturn, 1) := by decide +kernel
theorem dX9_firstWrongOfDay_43 : decode cX9_firstWrongOfDay 43 = .ok (.iload_n 3, 1) := by decide +kernel
theorem dX9_firstWrongOfDay_44 : decode cX9_firstWrongOfDay 44 = .ok (.bipush 103, 2) := by decide +kernel
theorem dX9_firstWrongOfDay_46 : decode cX9_firstWrongOfDay 46 = .ok (.if_icmp .ne 7, 3) := by decide +kernel
theorem dX9_firstWrongOfDay_49 : decode cX9_firstWrongOfDay 49 = .ok (.iconst 4, 1) := by decide +kernel
theorem dX9_firstWrongOfDay_50 : decode cX9_firstWrongOfDay 50 = .ok (.goto 7, 3) := by decide +kernel
theorem dX9_firstWrongOfDay_53 : decode cX9_firstWrongOfDay 53 = .ok (.iload 4, 2) := by decide +kernel
theorem dX9_firstWrongOfDay_55 : decode cX9_firstWrongOfDay 55 = .ok (.iconst 1, 1) := by decide +kernel
theorem dX9_firstWrongOfDay_56 : decode cX9_firstWrongOfDay 56 = .ok (.isub, 1) := by decide +kernel
theorem dX9_firstWrongOfDay_57 : decode cX9_firstWrongOfDay 57 = .ok (.istore 5, 2) := by decide +kernel
theorem dX9_firstWrongOfDay_59 : decode cX9_firstWrongOfDay 59 = .ok (.aload_n 0, 1) := by decide +kernel
theorem dX9_firstWrongOfDay_60 : decode cX9_firstWrongOfDay 60 = .ok (.getfield 10, 3) := by decide +kernel
theorem dX9_firstWrongOfDay_63 : decode cX9_firstWrongOfDay 63 = .ok (.iload_n 1, 1) := by decide +kernel
theorem dX9_firstWrongOfDay_64 : decode cX9_firstWrongOfDay 64 = .ok (.iconst 1, 1) := by decide +kernel
theorem dX9_firstWrongOfDay_65 : decode cX9_firstWrongOfDay 65 = .ok (.iadd, 1) := by decide +kernel
theorem dX9_firstWrongOfDay_66 : decode cX9_firstWrongOfDay 66 = .ok (.iload 5, 2) := by decide +kernel
theorem dX9_firstWrongOfDay_68 : decode cX9_firstWrongOfDay 68 = .ok (.invokevirtual 120, 3) := by decide +kernel
theorem dX9_firstWrongOfDay_71 : decode cX9_firstWrongOfDay 71 = .ok (.istore 6, 2) := by decide +kernel
theorem dX9_firstWrongOfDay_73 : decode cX9_firstWrongOfDay 73 = .ok (.iload 6, 2) := by decide +kernel
theorem dX9_firstWrongOfDay_75 : decode cX9_firstWrongOfDay 75 = .ok (.iconst (-1), 1) := by decide +kernel
theorem dX9_firstWrongOfDay_76 : decode cX9_firstWrongOfDay 76 = .ok (.if_icmp .eq 6, 3) := by decide +kernel
theorem dX9_firstWrongOfDay_79 : decode cX9_firstWrongOfDay 79 = .ok (.iload 6, 2) := by decide +kernel
theorem dX9_firstWrongOfDay_81 : decode cX9_firstWrongOfDay 81 = .ok (.ireturn, 1) := by decide +kernel
theorem dX9_firstWrongOfDay_82 : decode cX9_firstWrongOfDay 82 = .ok (.iload_n 3, 1) := by decide +kernel
theorem dX9_firstWrongOfDay_83 : decode cX9_firstWrongOfDay 83 = .ok (.bipush 103, 2) := by decide +kernel
theorem dX9_firstWrongOfDay_85 : decode cX9_firstWrongOfDay 85 = .ok (.if_icmp .ne 37, 3) := by decide +kernel
theorem dX9_firstWrongOfDay_88 : decode cX9_firstWrongOfDay 88 = .ok (.aload_n 0, 1) := by decide +kernel
theorem dX9_firstWrongOfDay_89 : decode cX9_firstWrongOfDay 89 = .ok (.getfield 10, 3) := by decide +kernel
theorem dX9_firstWrongOfDay_92 : decode cX9_firstWrongOfDay 92 = .ok (.iload_n 1, 1) := by decide +kernel
theorem dX9_firstWrongOfDay_93 : decode cX9_firstWrongOfDay 93 = .ok (.iconst 5, 1) := by decide +kernel
theorem dX9_firstWrongOfDay_94 : decode cX9_firstWrongOfDay 94 = .ok (.iadd, 1) := by decide +kernel
theorem dX9_firstWrongOfDay_95 : decode cX9_firstWrongOfDay 95 = .ok (.invokevirtual 134, 3) := by decide +kernel
theorem dX9_firstWrongOfDay_98 : decode cX9_firstWrongOfDay 98 = .ok (.bipush 43, 2) := by decide +kernel
theorem dX9_firstWrongOfDay_100 : decode cX9_firstWrongOfDay 100 = .ok (.if_icmp .eq 22, 3) := by decide +kernel
theorem dX9_firstWrongOfDay_103 : decode cX9_firstWrongOfDay 103 = .ok (.aload_n 0, 1) := by decide +kernel
theorem dX9_firstWrongOfDay_104 : decode cX9_firstWrongOfDay 104 = .ok (.getfield 10, 3) := by decide +kernel
theorem dX9_firstWrongOfDay_107 : decode cX9_firstWrongOfDay 107 = .ok (.iload_n 1, 1) := by decide +kernel
theorem dX9_firstWrongOfDay_108 : decode cX9_firstWrongOfDay 108 = .ok (.iconst 5, 1) := by decide +kernel
theorem dX9_firstWrongOfDay_109 : decode cX9_firstWrongOfDay 109 = .ok (.iadd, 1) := by decide +kernel
theorem dX9_firstWrongOfDay_110 : decode cX9_firstWrongOfDay 110 = .ok (.invokevirtual 134, 3) := by decide +kernel
theorem dX9_firstWrongOfDay_113 : decode cX9_firstWrongOfDay 113 = .ok (.bipush 45, 2) := by decide +kernel
theorem dX9_firstWrongOfDay_115 : decode cX9_firstWrongOfDay 115 = .ok (.if_icmp .eq 7, 3) := by decide +kernel
theorem dX9_firstWrongOfDay_118 : decode cX9_firstWrongOfDay 118 = .ok (.iload_n 1, 1) := by decide +kernel
theorem dX9_firstWrongOfDay_119 : decode cX9_firstWrongOfDay 119 = .ok (.iconst 5, 1) := by decide +kernel
theorem dX9_firstWrongOfDay_120 : decode cX9_firstWrongOfDay 120 = .ok (.iadd, 1) := by decide +kernel
theorem dX9_firstWrongOfDay_121 : decode cX9_firstWrongOfDay 121 = .ok (.ireturn, 1) := by decide +kernel
theorem dX9_firstWrongOfDay_122 : decode cX9_firstWrongOfDay 122 = .ok (.iload_n 1, 1) := by decide +kernel
theorem dX9_firstWrongOfDay_123 : decode cX9_firstWrongOfDay 123 = .ok (.iload 4, 2) := by decide +kernel
theorem dX9_firstWrongOfDay_125 : decode cX9_firstWrongOfDay 125 = .ok (.iadd, 1) := by decide +kernel
theorem dX9_firstWrongOfDay_126 : decode cX9_firstWrongOfDay 126 = .ok (.istore_n 1, 1) := by decide +kernel
theorem dX9_firstWrongOfDay_127 : decode cX9_firstWrongOfDay 127 = .ok (.iinc 2 1, 3) := by decide +kernel
theorem dX9_firstWrongOfDay_130 : decode cX9_firstWrongOfDay 130 = .ok (.goto (-126), 3) := by decide +kernel
theorem dX9_firstWrongOfDay_133 : decode cX9_firstWrongOfDay 133 = .ok (.iconst (-1), 1) := by decide +kernel
theorem dX9_firstWrongOfDay_134 : decode cX9_firstWrongOfDay 134 = .ok (.ireturn, 1) := by decide +kernel
set_option maxRecDepth 20000 in
set_option maxHeartbeats 2000000 in
theorem V_X9_firstWrongOfDay_0 {X : Ctx} (C : C_X9_firstWrongOfDay X) {k n : Nat} {Q : Pq} {h : Hp} {v0 : Nat}
    (hv : Wj X k n Q 4 [(0, .ref v0), (1, .int 0), (2, .int 0)] [] h) :
    Wj X k n Q 0 [(0, .ref v0)] [] h := by
  refine w_iconst (pc := 0) C (v := 0) dX9_firstWrongOfDay_0 (by decide) ?_
  refine w_istore_n (pc := 1) C dX9_firstWrongOfDay_1 (by decide) ?_
  refine w_iconst (pc := 2) C (v := 0) dX9_firstWrongOfDay_2 (by decide) ?_
  refine w_istore_n (pc := 3) C dX9_firstWrongOfDay_3 (by decide) ?_
  refine w_sub ?_ hv
  exact ⟨rfl, rfl, rfl, trivial⟩
set_option maxRecDepth 20000 in
set_option maxHeartbeats 2000000 in
theorem V_X9_firstWrongOfDay_4 {X : Ctx} (C : C_X9_firstWrongOfDay X) {k n : Nat} {Q : Pq} {h : Hp} {v0 : Nat} {v1 v2 : Int32}
    (hv : ((80 ≤ v2 → Q (some (.int (-1))) h) ∧
    (¬ 80 ≤ v2 → St9 h v0 ∧ (((gi h (v0 + 1) 1) ≤ v1 → Q (some (.int (-1))) h) ∧
    (¬ (gi h (v0 + 1) 1) ≤ v1 → S_X9_lengthOfAct (lX X) (dtX X) 0 0 [.int (tAt h (v0 + 1) v1)] h (QI fun x3 h2 =>
    ((¬ x3 = 0 → ((¬ (tAt h (v0 + 1) v1) = 103 → Wj X k n Q 57 [(0, .ref v0), (1, .int v1), (2, .int v2), (3, .int (tAt h (v0 + 1) v1)), (4, .int x3)] [.int (x3 - 1)] h2) ∧
    ((tAt h (v0 + 1) v1) = 103 → Wj X k n Q 57 [(0, .ref v0), (1, .int v1), (2, .int v2), (3, .int (tAt h (v0 + 1) v1)), (4, .int x3)] [.int 4] h2))) ∧
    (x3 = 0 → Q (some (.int v1)) h2)))))))) :
    Wj X k n Q 4 [(0, .ref v0), (1, .int v1), (2, .int v2)] [] h := by
  refine w_iload_n (pc := 4) C dX9_firstWrongOfDay_4 rfl ?_
  refine w_bipush (pc := 5) C (v := 80) dX9_firstWrongOfDay_5 (by decide) ?_
  refine w_icmp_ge (pc := 7) C (tgt := 133) dX9_firstWrongOfDay_7 (by decide) ?_
  obtain ⟨hv1, hv2⟩ := hv
  refine ⟨fun c7 => ?_, fun c7 => ?_⟩
  · have hv := hv1 c7
    refine w_iconst (pc := 133) C (v := (-1)) dX9_firstWrongOfDay_133 (by decide) ?_
    exact w_iret (pc := 134) C dX9_firstWrongOfDay_134 hv
  · have hv := hv2 c7
    refine w_iload_n (pc := 10) C dX9_firstWrongOfDay_10 rfl ?_
    refine w_aload_n (pc := 11) C dX9_firstWrongOfDay_11 rfl ?_
    obtain ⟨f1, hv⟩ := hv
    refine w_getR (pc := 12) C fl_X9_10 rfl dX9_firstWrongOfDay_12 (St9_k f1) (St9_r0 f1) ?_
    refine w_getI (pc := 15) C fl_X9_96 rfl dX9_firstWrongOfDay_15 (St7_k (St9_s0 f1)) ?_
    refine w_icmp_ge (pc := 18) C (tgt := 133) dX9_firstWrongOfDay_18 (by decide) ?_
    obtain ⟨hv1, hv2⟩ := hv
    refine ⟨fun c6 => ?_, fun c6 => ?_⟩
    · have hv := hv1 c6
      refine w_iconst (pc := 133) C (v := (-1)) dX9_firstWrongOfDay_133 (by decide) ?_
      exact w_iret (pc := 134) C dX9_firstWrongOfDay_134 hv
    · have hv := hv2 c6
      refine w_aload_n (pc := 21) C dX9_firstWrongOfDay_21 rfl ?_
      refine w_getR (pc := 22) C fl_X9_10 rfl dX9_firstWrongOfDay_22 (St9_k f1) (St9_r0 f1) ?_
      refine w_iload_n (pc := 25) C dX9_firstWrongOfDay_25 rfl ?_
      refine w_cV0_1 (pc := 26) C cl_X9_134 lv_X7_at (by decide) dX9_firstWrongOfDay_26 (Nat.le_of_ble_eq_true rfl) (c := 7) rfl (St7_k (St9_s0 f1)) ((sf_X7_at (h := h) (St9_s0 f1)).mono (fun v h9 hp => ?_))
      obtain ⟨e1, e2⟩ := hp
      rw [e1, e2]
      refine w_istore_n (pc := 29) C dX9_firstWrongOfDay_29 (by decide) ?_
      refine w_iload_n (pc := 30) C dX9_firstWrongOfDay_30 rfl ?_
      refine w_cS0_1 (pc := 31) C cl_X9_404 ls_X9_lengthOfAct (by decide) dX9_firstWrongOfDay_31 (Nat.le_of_ble_eq_true rfl) (hv.mono (fun v h2 hp => ?_))
      obtain ⟨x3, rfl, hv⟩ := hp
      refine w_istore (pc := 34) C dX9_firstWrongOfDay_34 (by decide) ?_
      refine w_iload (pc := 36) C dX9_firstWrongOfDay_36 rfl ?_
      refine w_if_ne (pc := 38) C (tgt := 43) dX9_firstWrongOfDay_38 (by decide) ?_
      obtain ⟨hv1, hv2⟩ := hv
      refine ⟨fun c5 => ?_, fun c5 => ?_⟩
      · have hv := hv1 c5
        refine w_iload_n (pc := 43) C dX9_firstWrongOfDay_43 rfl ?_
        refine w_bipush (pc := 44) C (v := 103) dX9_firstWrongOfDay_44 (by decide) ?_
        refine w_icmp_ne (pc := 46) C (tgt := 53) dX9_firstWrongOfDay_46 (by decide) ?_
        obtain ⟨hv1, hv2⟩ := hv
        refine ⟨fun c4 => ?_, fun c4 => ?_⟩
        · have hv := hv1 c4
          refine w_iload (pc := 53) C dX9_firstWrongOfDay_53 rfl ?_
          refine w_iconst (pc := 55) C (v := 1) dX9_firstWrongOfDay_55 (by decide) ?_
          refine w_isub (pc := 56) C dX9_firstWrongOfDay_56 ?_
          refine w_sub ?_ hv
          exact ⟨rfl, rfl, rfl, rfl, rfl, trivial⟩
        · have hv := hv2 c4
          refine w_iconst (pc := 49) C (v := 4) dX9_firstWrongOfDay_49 (by decide) ?_
          refine w_goto (pc := 50) C (tgt := 57) dX9_firstWrongOfDay_50 (by decide) ?_
          refine w_sub ?_ hv
          exact ⟨rfl, rfl, rfl, rfl, rfl, trivial⟩
      · have hv := hv2 c5
        refine w_iload_n (pc := 41) C dX9_firstWrongOfDay_41 rfl ?_
        exact w_iret (pc := 42) C dX9_firstWrongOfDay_42 hv
set_option maxRecDepth 20000 in
set_option maxHeartbeats 2000000 in
theorem V_X9_firstWrongOfDay_57 {X : Ctx} (C : C_X9_firstWrongOfDay X) {k n : Nat} {Q : Pq} {h : Hp} {v0 : Nat} {v1 v2 v3 v4 s0 : Int32}
    (hv : St9 h v0 ∧ S_X7_firstNoDigit (lX X) (dtX X) 0 0 [.ref (v0 + 1), .int (v1 + 1), .int s0] h (QI fun x3 h2 =>
    ((x3 = (-1) → ((¬ v3 = 103 → Wj X k n Q 4 [(0, .ref v0), (1, .int (v1 + v4)), (2, .int (v2 + Int32.ofInt 1))] [] h2) ∧
    (v3 = 103 → St9 h2 v0 ∧ (((tAt h2 (v0 + 1) (v1 + 5)) = 43 → Wj X k n Q 4 [(0, .ref v0), (1, .int (v1 + v4)), (2, .int (v2 + Int32.ofInt 1))] [] h2) ∧
    (¬ (tAt h2 (v0 + 1) (v1 + 5)) = 43 → (((tAt h2 (v0 + 1) (v1 + 5)) = 45 → Wj X k n Q 4 [(0, .ref v0), (1, .int (v1 + v4)), (2, .int (v2 + Int32.ofInt 1))] [] h2) ∧
    (¬ (tAt h2 (v0 + 1) (v1 + 5)) = 45 → Q (some (.int (v1 + 5))) h2))))))) ∧
    (¬ x3 = (-1) → Q (some (.int x3)) h2)))) :
    Wj X k n Q 57 [(0, .ref v0), (1, .int v1), (2, .int v2), (3, .int v3), (4, .int v4)] [.int s0] h := by
  refine w_istore (pc := 57) C dX9_firstWrongOfDay_57 (by decide) ?_
  refine w_aload_n (pc := 59) C dX9_firstWrongOfDay_59 rfl ?_
  obtain ⟨f1, hv⟩ := hv
  refine w_getR (pc := 60) C fl_X9_10 rfl dX9_firstWrongOfDay_60 (St9_k f1) (St9_r0 f1) ?_
  refine w_iload_n (pc := 63) C dX9_firstWrongOfDay_63 rfl ?_
  refine w_iconst (pc := 64) C (v := 1) dX9_firstWrongOfDay_64 (by decide) ?_
  refine w_iadd (pc := 65) C dX9_firstWrongOfDay_65 ?_
  refine w_iload (pc := 66) C dX9_firstWrongOfDay_66 rfl ?_
  refine w_cV0_2 (pc := 68) C cl_X9_120 lv_X7_firstNoDigit (by decide) dX9_firstWrongOfDay_68 (Nat.le_of_ble_eq_true rfl) (c := 7) rfl (St7_k (St9_s0 f1)) (hv.mono (fun v h2 hp => ?_))
  obtain ⟨x3, rfl, hv⟩ := hp
  refine w_istore (pc := 71) C dX9_firstWrongOfDay_71 (by decide) ?_
  refine w_iload (pc := 73) C dX9_firstWrongOfDay_73 rfl ?_
  refine w_iconst (pc := 75) C (v := (-1)) dX9_firstWrongOfDay_75 (by decide) ?_
  refine w_icmp_eq (pc := 76) C (tgt := 82) dX9_firstWrongOfDay_76 (by decide) ?_
  obtain ⟨hv1, hv2⟩ := hv
  refine ⟨fun c8 => ?_, fun c8 => ?_⟩
  · have hv := hv1 c8
    refine w_iload_n (pc := 82) C dX9_firstWrongOfDay_82 rfl ?_
    refine w_bipush (pc := 83) C (v := 103) dX9_firstWrongOfDay_83 (by decide) ?_
    refine w_icmp_ne (pc := 85) C (tgt := 122) dX9_firstWrongOfDay_85 (by decide) ?_
    obtain ⟨hv1, hv2⟩ := hv
    refine ⟨fun c7 => ?_, fun c7 => ?_⟩
    · have hv := hv1 c7
      refine w_iload_n (pc := 122) C dX9_firstWrongOfDay_122 rfl ?_
      refine w_iload (pc := 123) C dX9_firstWrongOfDay_123 rfl ?_
      refine w_iadd (pc := 125) C dX9_firstWrongOfDay_125 ?_
      refine w_istore_n (pc := 126) C dX9_firstWrongOfDay_126 (by decide) ?_
      refine w_iinc (pc := 127) C dX9_firstWrongOfDay_127 rfl (by decide) ?_
      refine w_goto (pc := 130) C (tgt := 4) dX9_firstWrongOfDay_130 (by decide) ?_
      refine w_sub ?_ hv
      exact ⟨rfl, rfl, rfl, trivial⟩
    · have hv := hv2 c7
      refine w_aload_n (pc := 88) C dX9_firstWrongOfDay_88 rfl ?_
      obtain ⟨f4, hv⟩ := hv
      refine w_getR (pc := 89) C fl_X9_10 rfl dX9_firstWrongOfDay_89 (St9_k f4) (St9_r0 f4) ?_
      refine w_iload_n (pc := 92) C dX9_firstWrongOfDay_92 rfl ?_
      refine w_iconst (pc := 93) C (v := 5) dX9_firstWrongOfDay_93 (by decide) ?_
      refine w_iadd (pc := 94) C dX9_firstWrongOfDay_94 ?_
      refine w_cV0_1 (pc := 95) C cl_X9_134 lv_X7_at (by decide) dX9_firstWrongOfDay_95 (Nat.le_of_ble_eq_true rfl) (c := 7) rfl (St7_k (St9_s0 f4)) ((sf_X7_at (h := h2) (St9_s0 f4)).mono (fun v h9 hp => ?_))
      obtain ⟨e1, e2⟩ := hp
      rw [e1, e2]
      refine w_bipush (pc := 98) C (v := 43) dX9_firstWrongOfDay_98 (by decide) ?_
      refine w_icmp_eq (pc := 100) C (tgt := 122) dX9_firstWrongOfDay_100 (by decide) ?_
      obtain ⟨hv1, hv2⟩ := hv
      refine ⟨fun c6 => ?_, fun c6 => ?_⟩
      · have hv := hv1 c6
        refine w_iload_n (pc := 122) C dX9_firstWrongOfDay_122 rfl ?_
        refine w_iload (pc := 123) C dX9_firstWrongOfDay_123 rfl ?_
        refine w_iadd (pc := 125) C dX9_firstWrongOfDay_125 ?_
        refine w_istore_n (pc := 126) C dX9_firstWrongOfDay_126 (by decide) ?_
        refine w_iinc (pc := 127) C dX9_firstWrongOfDay_127 rfl (by decide) ?_
        refine w_goto (pc := 130) C (tgt := 4) dX9_firstWrongOfDay_130 (by decide) ?_
        refine w_sub ?_ hv
        exact ⟨rfl, rfl, rfl, trivial⟩
      · have hv := hv2 c6
        refine w_aload_n (pc := 103) C dX9_firstWrongOfDay_103 rfl ?_
        refine w_getR (pc := 104) C fl_X9_10 rfl dX9_firstWrongOfDay_104 (St9_k f4) (St9_r0 f4) ?_
        refine w_iload_n (pc := 107) C dX9_firstWrongOfDay_107 rfl ?_
        refine w_iconst (pc := 108) C (v := 5) dX9_firstWrongOfDay_108 (by decide) ?_
        refine w_iadd (pc := 109) C dX9_firstWrongOfDay_109 ?_
        refine w_cV0_1 (pc := 110) C cl_X9_134 lv_X7_at (by decide) dX9_firstWrongOfDay_110 (Nat.le_of_ble_eq_true rfl) (c := 7) rfl (St7_k (St9_s0 f4)) ((sf_X7_at (h := h2) (St9_s0 f4)).mono (fun v h9 hp => ?_))
        obtain ⟨e1, e2⟩ := hp
        rw [e1, e2]
        refine w_bipush (pc := 113) C (v := 45) dX9_firstWrongOfDay_113 (by decide) ?_
        refine w_icmp_eq (pc := 115) C (tgt := 122) dX9_firstWrongOfDay_115 (by decide) ?_
        obtain ⟨hv1, hv2⟩ := hv
        refine ⟨fun c5 => ?_, fun c5 => ?_⟩
        · have hv := hv1 c5
          refine w_iload_n (pc := 122) C dX9_firstWrongOfDay_122 rfl ?_
          refine w_iload (pc := 123) C dX9_firstWrongOfDay_123 rfl ?_
          refine w_iadd (pc := 125) C dX9_firstWrongOfDay_125 ?_
          refine w_istore_n (pc := 126) C dX9_firstWrongOfDay_126 (by decide) ?_
          refine w_iinc (pc := 127) C dX9_firstWrongOfDay_127 rfl (by decide) ?_
          refine w_goto (pc := 130) C (tgt := 4) dX9_firstWrongOfDay_130 (by decide) ?_
          refine w_sub ?_ hv
          exact ⟨rfl, rfl, rfl, trivial⟩
        · have hv := hv2 c5
          refine w_iload_n (pc := 118) C dX9_firstWrongOfDay_118 rfl ?_
          refine w_iconst (pc := 119) C (v := 5) dX9_firstWrongOfDay_119 (by decide) ?_
          refine w_iadd (pc := 120) C dX9_firstWrongOfDay_120 ?_
          exact w_iret (pc := 121) C dX9_firstWrongOfDay_121 hv
  · have hv := hv2 c8
    refine w_iload (pc := 79) C dX9_firstWrongOfDay_79 rfl ?_
    exact w_iret (pc := 81) C dX9_firstWrongOfDay_81 hv
theorem dX9_doAct_0 : decode cX9_doAct 0 = .ok (.aload_n 0, 1) := by decide +kernel
theorem dX9_doAct_1 : decode cX9_doAct 1 = .ok (.getfield 10, 3) := by decide +kernel
theorem dX9_doAct_4 : decode cX9_doAct 4 = .ok (.iload_n 1, 1) := by decide +kernel
theorem dX9_doAct_5 : decode cX9_doAct 5 = .ok (.invokevirtual 134, 3) := by decide +kernel
theorem dX9_doAct_8 : decode cX9_doAct 8 = .ok (.tableswitch 261 98 119 #[154, 185, 261, 261, 261, 201, 261, 261, 261, 261, 261, 261, 261, 253, 261, 261, 261, 261, 123, 104, 261, 193], 104) := by decide +kernel
theorem dX9_doAct_112 : decode cX9_doAct 112 = .ok (.aload_n 0, 1) := by decide +kernel
theorem dX9_doAct_113 : decode cX9_doAct 113 = .ok (.getfield 82, 3) := by decide +kernel
theorem dX9_doAct_116 : decode cX9_doAct 116 = .ok (.aload_n 0, 1) := by decide +kernel
theorem dX9_doAct_117 : decode cX9_doAct 117 = .ok (.getfield 10, 3) := by decide +kernel
theorem dX9_doAct_120 : decode cX9_doAct 120 = .ok (.iload_n 1, 1) := by decide +kernel
theorem dX9_doAct_121 : decode cX9_doAct 121 = .ok (.iconst 1, 1) := by decide +kernel
theorem dX9_doAct_122 : decode cX9_doAct 122 = .ok (.iadd, 1) := by decide +kernel
theorem dX9_doAct_123 : decode cX9_doAct 123 = .ok (.iconst 2, 1) := by decide +kernel
theorem dX9_doAct_124 : decode cX9_doAct 124 = .ok (.invokevirtual 124, 3) := by decide +kernel
theorem dX9_doAct_127 : decode cX9_doAct 127 = .ok (.invokevirtual 326, 3) := by decide +kernel
theorem dX9_doAct_130 : decode cX9_doAct 130 = .ok (.ireturn, 1) := by decide +kernel
theorem dX9_doAct_131 : decode cX9_doAct 131 = .ok (.aload_n 0, 1) := by decide +kernel
theorem dX9_doAct_132 : decode cX9_doAct 132 = .ok (.getfield 82, 3) := by decide +kernel
theorem dX9_doAct_135 : decode cX9_doAct 135 = .ok (.aload_n 0, 1) := by decide +kernel
theorem dX9_doAct_136 : decode cX9_doAct 136 = .ok (.getfield 10, 3) := by decide +kernel
theorem dX9_doAct_139 : decode cX9_doAct 139 = .ok (.iload_n 1, 1) := by decide +kernel
theorem dX9_doAct_140 : decode cX9_doAct 140 = .ok (.iconst 1, 1) := by decide +kernel
theorem dX9_doAct_141 : decode cX9_doAct 141 = .ok (.iadd, 1) := by decide +kernel
theorem dX9_doAct_142 : decode cX9_doAct 142 = .ok (.iconst 2, 1) := by decide +kernel
theorem dX9_doAct_143 : decode cX9_doAct 143 = .ok (.invokevirtual 124, 3) := by decide +kernel
theorem dX9_doAct_146 : decode cX9_doAct 146 = .ok (.aload_n 0, 1) := by decide +kernel
theorem dX9_doAct_147 : decode cX9_doAct 147 = .ok (.getfield 10, 3) := by decide +kernel
theorem dX9_doAct_150 : decode cX9_doAct 150 = .ok (.iload_n 1, 1) := by decide +kernel
theorem dX9_doAct_151 : decode cX9_doAct 151 = .ok (.iconst 3, 1) := by decide +kernel
theorem dX9_doAct_152 : decode cX9_doAct 152 = .ok (.iadd, 1) := by decide +kernel
theorem dX9_doAct_153 : decode cX9_doAct 153 = .ok (.iconst 2, 1) := by decide +kernel
theorem dX9_doAct_154 : decode cX9_doAct 154 = .ok (.invokevirtual 124, 3) := by decide +kernel
theorem dX9_doAct_157 : decode cX9_doAct 157 = .ok (.iconst 0, 1) := by decide +kernel
theorem dX9_doAct_158 : decode cX9_doAct 158 = .ok (.invokevirtual 339, 3) := by decide +kernel
theorem dX9_doAct_161 : decode cX9_doAct 161 = .ok (.ireturn, 1) := by decide +kernel
theorem dX9_doAct_162 : decode cX9_doAct 162 = .ok (.aload_n 0, 1) := by decide +kernel
theorem dX9_doAct_163 : decode cX9_doAct 163 = .ok (.getfield 82, 3) := by decide +kernel
theorem dX9_doAct_166 : decode cX9_doAct 166 = .ok (.aload_n 0, 1) := by decide +kernel
theorem dX9_doAct_167 : decode cX9_doAct 167 = .ok (.getfield 10, 3) := by decide +kernel
theorem dX9_doAct_170 : decode cX9_doAct 170 = .ok (.iload_n 1, 1) := by decide +kernel
theorem dX9_doAct_171 : decode cX9_doAct 171 = .ok (.iconst 1, 1) := by decide +kernel
theorem dX9_doAct_172 : decode cX9_doAct 172 = .ok (.iadd, 1) := by decide +kernel
theorem dX9_doAct_173 : decode cX9_doAct 173 = .ok (.iconst 2, 1) := by decide +kernel
theorem dX9_doAct_174 : decode cX9_doAct 174 = .ok (.invokevirtual 124, 3) := by decide +kernel
theorem dX9_doAct_177 : decode cX9_doAct 177 = .ok (.aload_n 0, 1) := by decide +kernel
theorem dX9_doAct_178 : decode cX9_doAct 178 = .ok (.getfield 10, 3) := by decide +kernel
theorem dX9_doAct_181 : decode cX9_doAct 181 = .ok (.iload_n 1, 1) := by decide +kernel
theorem dX9_doAct_182 : decode cX9_doAct 182 = .ok (.iconst 3, 1) := by decide +kernel
theorem dX9_doAct_183 : decode cX9_doAct 183 = .ok (.iadd, 1) := by decide +kernel
theorem dX9_doAct_184 : decode cX9_doAct 184 = .ok (.iconst 2, 1) := by decide +kernel
theorem dX9_doAct_185 : decode cX9_doAct 185 = .ok (.invokevirtual 124, 3) := by decide +kernel
theorem dX9_doAct_188 : decode cX9_doAct 188 = .ok (.iconst 1, 1) := by decide +kernel
theorem dX9_doAct_189 : decode cX9_doAct 189 = .ok (.invokevirtual 339, 3) := by decide +kernel
theorem dX9_doAct_192 : decode cX9_doAct 192 = .ok (.ireturn, 1) := by decide +kernel
theorem dX9_doAct_193 : decode cX9_doAct 193 = .ok (.aload_n 0, 1) := by decide +kernel
theorem dX9_doAct_194 : decode cX9_doAct 194 = .ok (.getfield 82, 3) := by decide +kernel
theorem dX9_doAct_197 : decode cX9_doAct 197 = .ok (.invokevirtual 346, 3) := by decide +kernel
theorem dX9_doAct_200 : decode cX9_doAct 200 = .ok (.ireturn, 1) := by decide +kernel
theorem dX9_doAct_201 : decode cX9_doAct 201 = .ok (.aload_n 0, 1) := by decide +kernel
theorem dX9_doAct_202 : decode cX9_doAct 202 = .ok (.getfield 82, 3) := by decide +kernel
theorem dX9_doAct_205 : decode cX9_doAct 205 = .ok (.invokevirtual 349, 3) := by decide +kernel
theorem dX9_doAct_208 : decode cX9_doAct 208 = .ok (.ireturn, 1) := by decide +kernel
theorem dX9_doAct_209 : decode cX9_doAct 209 = .ok (.aload_n 0, 1) := by decide +kernel
theorem dX9_doAct_210 : decode cX9_doAct 210 = .ok (.getfield 82, 3) := by decide +kernel
theorem dX9_doAct_213 : decode cX9_doAct 213 = .ok (.aload_n 0, 1) := by decide +kernel
theorem dX9_doAct_214 : decode cX9_doAct 214 = .ok (.getfield 10, 3) := by decide +kernel
theorem dX9_doAct_217 : decode cX9_doAct 217 = .ok (.iload_n 1, 1) := by decide +kernel
theorem dX9_doAct_218 : decode cX9_doAct 218 = .ok (.iconst 1, 1) := by decide +kernel
theorem dX9_doAct_219 : decode cX9_doAct 219 = .ok (.iadd, 1) := by decide +kernel
theorem dX9_doAct_220 : decode cX9_doAct 220 = .ok (.iconst 2, 1) := by decide +kernel
theorem dX9_doAct_221 : decode cX9_doAct 221 = .ok (.invokevirtual 124, 3) := by decide +kernel
theorem dX9_doAct_224 : decode cX9_doAct 224 = .ok (.aload_n 0, 1) := by decide +kernel
theorem dX9_doAct_225 : decode cX9_doAct 225 = .ok (.getfield 10, 3) := by decide +kernel
theorem dX9_doAct_228 : decode cX9_doAct 228 = .ok (.iload_n 1, 1) := by decide +kernel
theorem dX9_doAct_229 : decode cX9_doAct 229 = .ok (.iconst 3, 1) := by decide +kernel
theorem dX9_doAct_230 : decode cX9_doAct 230 = .ok (.iadd, 1) := by decide +kernel
theorem dX9_doAct_231 : decode cX9_doAct 231 = .ok (.iconst 2, 1) := by decide +kernel
theorem dX9_doAct_232 : decode cX9_doAct 232 = .ok (.invokevirtual 124, 3) := by decide +kernel
theorem dX9_doAct_235 : decode cX9_doAct 235 = .ok (.iconst (-1), 1) := by decide +kernel
theorem dX9_doAct_236 : decode cX9_doAct 236 = .ok (.iconst (-1), 1) := by decide +kernel
theorem dX9_doAct_237 : decode cX9_doAct 237 = .ok (.aload_n 0, 1) := by decide +kernel
theorem dX9_doAct_238 : decode cX9_doAct 238 = .ok (.getfield 10, 3) := by decide +kernel
theorem dX9_doAct_241 : decode cX9_doAct 241 = .ok (.iload_n 1, 1) := by decide +kernel
theorem dX9_doAct_242 : decode cX9_doAct 242 = .ok (.iconst 5, 1) := by decide +kernel
theorem dX9_doAct_243 : decode cX9_doAct 243 = .ok (.iadd, 1) := by decide +kernel
theorem dX9_doAct_244 : decode cX9_doAct 244 = .ok (.invokevirtual 134, 3) := by decide +kernel
theorem dX9_doAct_247 : decode cX9_doAct 247 = .ok (.bipush 43, 2) := by decide +kernel
theorem dX9_doAct_249 : decode cX9_doAct 249 = .ok (.if_icmp .ne 7, 3) := by decide +kernel
theorem dX9_doAct_252 : decode cX9_doAct 252 = .ok (.iconst 1, 1) := by decide +kernel
theorem dX9_doAct_253 : decode cX9_doAct 253 = .ok (.goto 4, 3) := by decide +kernel
theorem dX9_doAct_256 : decode cX9_doAct 256 = .ok (.iconst (-1), 1) := by decide +kernel
theorem dX9_doAct_257 : decode cX9_doAct 257 = .ok (.invokevirtual 329, 3) := by decide +kernel
theorem dX9_doAct_260 : decode cX9_doAct 260 = .ok (.ireturn, 1) := by decide +kernel
theorem dX9_doAct_261 : decode cX9_doAct 261 = .ok (.aload_n 0, 1) := by decide +kernel
theorem dX9_doAct_262 : decode cX9_doAct 262 = .ok (.getfield 82, 3) := by decide +kernel
theorem dX9_doAct_265 : decode cX9_doAct 265 = .ok (.invokevirtual 336, 3) := by decide +kernel
theorem dX9_doAct_268 : decode cX9_doAct 268 = .ok (.ireturn, 1) := by decide +kernel
theorem dX9_doAct_269 : decode cX9_doAct 269 = .ok (.iconst (-1), 1) := by decide +kernel
theorem dX9_doAct_270 : decode cX9_doAct 270 = .ok (.ireturn, 1) := by decide +kernel
set_option maxRecDepth 20000 in
set_option maxHeartbeats 2000000 in
theorem V_X9_doAct_0 {X : Ctx} (C : C_X9_doAct X) {k n : Nat} {Q : Pq} {h : Hp} {v0 : Nat} {v1 : Int32}
    (hv : St9 h v0 ∧ 
    (((tAt h (v0 + 1) v1) = 98 → nn h v0 13 ∧ S_X7_number (lX X) (dtX X) 0 0 [.ref (v0 + 1), .int (v1 + 1), .int 2] h (QI fun x26 h25 =>
    St9 h25 v0 ∧ S_X7_number (lX X) (dtX X) 0 0 [.ref (v0 + 1), .int (v1 + 3), .int 2] h25 (QI fun x29 h28 =>
    St4 h28 (gp h v0 13) ∧ S_X4_wind (lX X) (dtX X) 0 0 [.ref (gp h v0 13), .int x26, .int x29, .int 1] h28 (QI fun x32 h31 =>
    Q (some (.int x32)) h31)))) ∧
     ((tAt h (v0 + 1) v1) = 99 → nn h v0 13 ∧ St4 h (gp h v0 13) ∧ S_X4_scribe (lX X) (dtX X) 0 0 [.ref (gp h v0 13)] h (QI fun x36 h35 =>
    Q (some (.int x36)) h35)) ∧
     ((tAt h (v0 + 1) v1) = 100 → Q (some (.int (-1))) h) ∧
     ((tAt h (v0 + 1) v1) = 101 → Q (some (.int (-1))) h) ∧
     ((tAt h (v0 + 1) v1) = 102 → Q (some (.int (-1))) h) ∧
     ((tAt h (v0 + 1) v1) = 103 → nn h v0 13 ∧ S_X7_number (lX X) (dtX X) 0 0 [.ref (v0 + 1), .int (v1 + 1), .int 2] h (QI fun x39 h38 =>
    St9 h38 v0 ∧ S_X7_number (lX X) (dtX X) 0 0 [.ref (v0 + 1), .int (v1 + 3), .int 2] h38 (QI fun x42 h41 =>
    St9 h41 v0 ∧ ((¬ (tAt h41 (v0 + 1) (v1 + 5)) = 43 → St4 h41 (gp h v0 13) ∧ S_X4_putIn (lX X) (dtX X) 0 0 [.ref (gp h v0 13), .int x39, .int x42, .int (-1), .int (-1), .int (-1)] h41 (QI fun x46 h45 =>
    Q (some (.int x46)) h45)) ∧
    ((tAt h41 (v0 + 1) (v1 + 5)) = 43 → St4 h41 (gp h v0 13) ∧ S_X4_putIn (lX X) (dtX X) 0 0 [.ref (gp h v0 13), .int x39, .int x42, .int (-1), .int (-1), .int 1] h41 (QI fun x49 h48 =>
    Q (some (.int x49)) h48)))))) ∧
     ((tAt h (v0 + 1) v1) = 104 → Q (some (.int (-1))) h) ∧
     ((tAt h (v0 + 1) v1) = 105 → Q (some (.int (-1))) h) ∧
     ((tAt h (v0 + 1) v1) = 106 → Q (some (.int (-1))) h) ∧
     ((tAt h (v0 + 1) v1) = 107 → Q (some (.int (-1))) h) ∧
     ((tAt h (v0 + 1) v1) = 108 → Q (some (.int (-1))) h) ∧
     ((tAt h (v0 + 1) v1) = 109 → Q (some (.int (-1))) h) ∧
     ((tAt h (v0 + 1) v1) = 110 → Q (some (.int (-1))) h) ∧
     ((tAt h (v0 + 1) v1) = 111 → nn h v0 13 ∧ St4 h (gp h v0 13) ∧ S_X4_takeOut (lX X) (dtX X) 0 0 [.ref (gp h v0 13)] h (QI fun x54 h53 =>
    Q (some (.int x54)) h53)) ∧
     ((tAt h (v0 + 1) v1) = 112 → Q (some (.int (-1))) h) ∧
     ((tAt h (v0 + 1) v1) = 113 → Q (some (.int (-1))) h) ∧
     ((tAt h (v0 + 1) v1) = 114 → Q (some (.int (-1))) h) ∧
     ((tAt h (v0 + 1) v1) = 115 → Q (some (.int (-1))) h) ∧
     ((tAt h (v0 + 1) v1) = 116 → nn h v0 13 ∧ S_X7_number (lX X) (dtX X) 0 0 [.ref (v0 + 1), .int (v1 + 1), .int 2] h (QI fun x57 h56 =>
    St9 h56 v0 ∧ S_X7_number (lX X) (dtX X) 0 0 [.ref (v0 + 1), .int (v1 + 3), .int 2] h56 (QI fun x60 h59 =>
    St4 h59 (gp h v0 13) ∧ S_X4_wind (lX X) (dtX X) 0 0 [.ref (gp h v0 13), .int x57, .int x60, .int 0] h59 (QI fun x63 h62 =>
    Q (some (.int x63)) h62)))) ∧
     ((tAt h (v0 + 1) v1) = 117 → nn h v0 13 ∧ S_X7_number (lX X) (dtX X) 0 0 [.ref (v0 + 1), .int (v1 + 1), .int 2] h (QI fun x66 h65 =>
    St4 h65 (gp h v0 13) ∧ S_X4_choose (lX X) (dtX X) 0 0 [.ref (gp h v0 13), .int x66] h65 (QI fun x69 h68 =>
    Q (some (.int x69)) h68))) ∧
     ((tAt h (v0 + 1) v1) = 118 → Q (some (.int (-1))) h) ∧
     ((tAt h (v0 + 1) v1) = 119 → nn h v0 13 ∧ St4 h (gp h v0 13) ∧ S_X4_wipeAll (lX X) (dtX X) 0 0 [.ref (gp h v0 13)] h (QI fun x73 h72 =>
    Q (some (.int x73)) h72)) ∧
     (¬ (tAt h (v0 + 1) v1) = 98 → ¬ (tAt h (v0 + 1) v1) = 99 → ¬ (tAt h (v0 + 1) v1) = 100 → ¬ (tAt h (v0 + 1) v1) = 101 → ¬ (tAt h (v0 + 1) v1) = 102 → ¬ (tAt h (v0 + 1) v1) = 103 → ¬ (tAt h (v0 + 1) v1) = 104 → ¬ (tAt h (v0 + 1) v1) = 105 → ¬ (tAt h (v0 + 1) v1) = 106 → ¬ (tAt h (v0 + 1) v1) = 107 → ¬ (tAt h (v0 + 1) v1) = 108 → ¬ (tAt h (v0 + 1) v1) = 109 → ¬ (tAt h (v0 + 1) v1) = 110 → ¬ (tAt h (v0 + 1) v1) = 111 → ¬ (tAt h (v0 + 1) v1) = 112 → ¬ (tAt h (v0 + 1) v1) = 113 → ¬ (tAt h (v0 + 1) v1) = 114 → ¬ (tAt h (v0 + 1) v1) = 115 → ¬ (tAt h (v0 + 1) v1) = 116 → ¬ (tAt h (v0 + 1) v1) = 117 → ¬ (tAt h (v0 + 1) v1) = 118 → ¬ (tAt h (v0 + 1) v1) = 119 → Q (some (.int (-1))) h))) :
    Wj X k n Q 0 [(0, .ref v0), (1, .int v1)] [] h := by
  refine w_aload_n (pc := 0) C dX9_doAct_0 rfl ?_
  obtain ⟨f1, hv⟩ := hv
  refine w_getR (pc := 1) C fl_X9_10 rfl dX9_doAct_1 (St9_k f1) (St9_r0 f1) ?_
  refine w_iload_n (pc := 4) C dX9_doAct_4 rfl ?_
  refine w_cV0_1 (pc := 5) C cl_X9_134 lv_X7_at (by decide) dX9_doAct_5 (Nat.le_of_ble_eq_true rfl) (c := 7) rfl (St7_k (St9_s0 f1)) ((sf_X7_at (h := h) (St9_s0 f1)).mono (fun v h9 hp => ?_))
  obtain ⟨e1, e2⟩ := hp
  rw [e1, e2]
  by_cases c2 : (tAt h (v0 + 1) v1) = 98
  · obtain ⟨hv, -⟩ := hv
    have hv := hv c2
    refine w_tswIn (pc := 8) (tgt := 162) (off := 154) C dX9_doAct_8 (by rw [c2]; decide) (by rw [c2]; decide) (by rw [c2]; decide) (by decide) ?_
    refine w_aload_n (pc := 162) C dX9_doAct_162 rfl ?_
    obtain ⟨f24, hv⟩ := hv
    refine w_getR (pc := 163) C fl_X9_82 rfl dX9_doAct_163 (St9_k f1) f24 ?_
    refine w_aload_n (pc := 166) C dX9_doAct_166 rfl ?_
    refine w_getR (pc := 167) C fl_X9_10 rfl dX9_doAct_167 (St9_k f1) (St9_r0 f1) ?_
    refine w_iload_n (pc := 170) C dX9_doAct_170 rfl ?_
    refine w_iconst (pc := 171) C (v := 1) dX9_doAct_171 (by decide) ?_
    refine w_iadd (pc := 172) C dX9_doAct_172 ?_
    refine w_iconst (pc := 173) C (v := 2) dX9_doAct_173 (by decide) ?_
    refine w_cV0_2 (pc := 174) C cl_X9_124 lv_X7_number (by decide) dX9_doAct_174 (Nat.le_of_ble_eq_true rfl) (c := 7) rfl (St7_k (St9_s0 f1)) (hv.mono (fun v h25 hp => ?_))
    obtain ⟨x26, rfl, hv⟩ := hp
    refine w_aload_n (pc := 177) C dX9_doAct_177 rfl ?_
    obtain ⟨f27, hv⟩ := hv
    refine w_getR (pc := 178) C fl_X9_10 rfl dX9_doAct_178 (St9_k f27) (St9_r0 f27) ?_
    refine w_iload_n (pc := 181) C dX9_doAct_181 rfl ?_
    refine w_iconst (pc := 182) C (v := 3) dX9_doAct_182 (by decide) ?_
    refine w_iadd (pc := 183) C dX9_doAct_183 ?_
    refine w_iconst (pc := 184) C (v := 2) dX9_doAct_184 (by decide) ?_
    refine w_cV0_2 (pc := 185) C cl_X9_124 lv_X7_number (by decide) dX9_doAct_185 (Nat.le_of_ble_eq_true rfl) (c := 7) rfl (St7_k (St9_s0 f27)) (hv.mono (fun v h28 hp => ?_))
    obtain ⟨x29, rfl, hv⟩ := hp
    refine w_iconst (pc := 188) C (v := 1) dX9_doAct_188 (by decide) ?_
    obtain ⟨f30, hv⟩ := hv
    refine w_cV0_3 (pc := 189) C cl_X9_339 lv_X4_wind (by decide) dX9_doAct_189 (Nat.le_of_ble_eq_true rfl) (c := 4) rfl (St4_k f30) (hv.mono (fun v h31 hp => ?_))
    obtain ⟨x32, rfl, hv⟩ := hp
    exact w_iret (pc := 192) C dX9_doAct_192 hv
  obtain ⟨-, hv⟩ := hv
  by_cases c3 : (tAt h (v0 + 1) v1) = 99
  · obtain ⟨hv, -⟩ := hv
    have hv := hv c3
    refine w_tswIn (pc := 8) (tgt := 193) (off := 185) C dX9_doAct_8 (by rw [c3]; decide) (by rw [c3]; decide) (by rw [c3]; decide) (by decide) ?_
    refine w_aload_n (pc := 193) C dX9_doAct_193 rfl ?_
    obtain ⟨f33, hv⟩ := hv
    refine w_getR (pc := 194) C fl_X9_82 rfl dX9_doAct_194 (St9_k f1) f33 ?_
    obtain ⟨f34, hv⟩ := hv
    refine w_cV0_0 (pc := 197) C cl_X9_346 lv_X4_scribe (by decide) dX9_doAct_197 (Nat.le_of_ble_eq_true rfl) (c := 4) rfl (St4_k f34) (hv.mono (fun v h35 hp => ?_))
    obtain ⟨x36, rfl, hv⟩ := hp
    exact w_iret (pc := 200) C dX9_doAct_200 hv
  obtain ⟨-, hv⟩ := hv
  by_cases c4 : (tAt h (v0 + 1) v1) = 100
  · obtain ⟨hv, -⟩ := hv
    have hv := hv c4
    refine w_tswIn (pc := 8) (tgt := 269) (off := 261) C dX9_doAct_8 (by rw [c4]; decide) (by rw [c4]; decide) (by rw [c4]; decide) (by decide) ?_
    refine w_iconst (pc := 269) C (v := (-1)) dX9_doAct_269 (by decide) ?_
    exact w_iret (pc := 270) C dX9_doAct_270 hv
  obtain ⟨-, hv⟩ := hv
  by_cases c5 : (tAt h (v0 + 1) v1) = 101
  · obtain ⟨hv, -⟩ := hv
    have hv := hv c5
    refine w_tswIn (pc := 8) (tgt := 269) (off := 261) C dX9_doAct_8 (by rw [c5]; decide) (by rw [c5]; decide) (by rw [c5]; decide) (by decide) ?_
    refine w_iconst (pc := 269) C (v := (-1)) dX9_doAct_269 (by decide) ?_
    exact w_iret (pc := 270) C dX9_doAct_270 hv
  obtain ⟨-, hv⟩ := hv
  by_cases c6 : (tAt h (v0 + 1) v1) = 102
  · obtain ⟨hv, -⟩ := hv
    have hv := hv c6
    refine w_tswIn (pc := 8) (tgt := 269) (off := 261) C dX9_doAct_8 (by rw [c6]; decide) (by rw [c6]; decide) (by rw [c6]; decide) (by decide) ?_
    refine w_iconst (pc := 269) C (v := (-1)) dX9_doAct_269 (by decide) ?_
    exact w_iret (pc := 270) C dX9_doAct_270 hv
  obtain ⟨-, hv⟩ := hv
  by_cases c7 : (tAt h (v0 + 1) v1) = 103
  · obtain ⟨hv, -⟩ := hv
    have hv := hv c7
    refine w_tswIn (pc := 8) (tgt := 209) (off := 201) C dX9_doAct_8 (by rw [c7]; decide) (by rw [c7]; decide) (by rw [c7]; decide) (by decide) ?_
    refine w_aload_n (pc := 209) C dX9_doAct_209 rfl ?_
    obtain ⟨f37, hv⟩ := hv
    refine w_getR (pc := 210) C fl_X9_82 rfl dX9_doAct_210 (St9_k f1) f37 ?_
    refine w_aload_n (pc := 213) C dX9_doAct_213 rfl ?_
    refine w_getR (pc := 214) C fl_X9_10 rfl dX9_doAct_214 (St9_k f1) (St9_r0 f1) ?_
    refine w_iload_n (pc := 217) C dX9_doAct_217 rfl ?_
    refine w_iconst (pc := 218) C (v := 1) dX9_doAct_218 (by decide) ?_
    refine w_iadd (pc := 219) C dX9_doAct_219 ?_
    refine w_iconst (pc := 220) C (v := 2) dX9_doAct_220 (by decide) ?_
    refine w_cV0_2 (pc := 221) C cl_X9_124 lv_X7_number (by decide) dX9_doAct_221 (Nat.le_of_ble_eq_true rfl) (c := 7) rfl (St7_k (St9_s0 f1)) (hv.mono (fun v h38 hp => ?_))
    obtain ⟨x39, rfl, hv⟩ := hp
    refine w_aload_n (pc := 224) C dX9_doAct_224 rfl ?_
    obtain ⟨f40, hv⟩ := hv
    refine w_getR (pc := 225) C fl_X9_10 rfl dX9_doAct_225 (St9_k f40) (St9_r0 f40) ?_
    refine w_iload_n (pc := 228) C dX9_doAct_228 rfl ?_
    refine w_iconst (pc := 229) C (v := 3) dX9_doAct_229 (by decide) ?_
    refine w_iadd (pc := 230) C dX9_doAct_230 ?_
    refine w_iconst (pc := 231) C (v := 2) dX9_doAct_231 (by decide) ?_
    refine w_cV0_2 (pc := 232) C cl_X9_124 lv_X7_number (by decide) dX9_doAct_232 (Nat.le_of_ble_eq_true rfl) (c := 7) rfl (St7_k (St9_s0 f40)) (hv.mono (fun v h41 hp => ?_))
    obtain ⟨x42, rfl, hv⟩ := hp
    refine w_iconst (pc := 235) C (v := (-1)) dX9_doAct_235 (by decide) ?_
    refine w_iconst (pc := 236) C (v := (-1)) dX9_doAct_236 (by decide) ?_
    refine w_aload_n (pc := 237) C dX9_doAct_237 rfl ?_
    obtain ⟨f43, hv⟩ := hv
    refine w_getR (pc := 238) C fl_X9_10 rfl dX9_doAct_238 (St9_k f43) (St9_r0 f43) ?_
    refine w_iload_n (pc := 241) C dX9_doAct_241 rfl ?_
    refine w_iconst (pc := 242) C (v := 5) dX9_doAct_242 (by decide) ?_
    refine w_iadd (pc := 243) C dX9_doAct_243 ?_
    refine w_cV0_1 (pc := 244) C cl_X9_134 lv_X7_at (by decide) dX9_doAct_244 (Nat.le_of_ble_eq_true rfl) (c := 7) rfl (St7_k (St9_s0 f43)) ((sf_X7_at (h := h41) (St9_s0 f43)).mono (fun v h9 hp => ?_))
    obtain ⟨e1, e2⟩ := hp
    rw [e1, e2]
    refine w_bipush (pc := 247) C (v := 43) dX9_doAct_247 (by decide) ?_
    refine w_icmp_ne (pc := 249) C (tgt := 256) dX9_doAct_249 (by decide) ?_
    obtain ⟨hv1, hv2⟩ := hv
    refine ⟨fun c50 => ?_, fun c50 => ?_⟩
    · have hv := hv1 c50
      refine w_iconst (pc := 256) C (v := (-1)) dX9_doAct_256 (by decide) ?_
      obtain ⟨f44, hv⟩ := hv
      refine w_cV0_5 (pc := 257) C cl_X9_329 lv_X4_putIn (by decide) dX9_doAct_257 (Nat.le_of_ble_eq_true rfl) (c := 4) rfl (St4_k f44) (hv.mono (fun v h45 hp => ?_))
      obtain ⟨x46, rfl, hv⟩ := hp
      exact w_iret (pc := 260) C dX9_doAct_260 hv
    · have hv := hv2 c50
      refine w_iconst (pc := 252) C (v := 1) dX9_doAct_252 (by decide) ?_
      refine w_goto (pc := 253) C (tgt := 257) dX9_doAct_253 (by decide) ?_
      obtain ⟨f47, hv⟩ := hv
      refine w_cV0_5 (pc := 257) C cl_X9_329 lv_X4_putIn (by decide) dX9_doAct_257 (Nat.le_of_ble_eq_true rfl) (c := 4) rfl (St4_k f47) (hv.mono (fun v h48 hp => ?_))
      obtain ⟨x49, rfl, hv⟩ := hp
      exact w_iret (pc := 260) C dX9_doAct_260 hv
  obtain ⟨-, hv⟩ := hv
  by_cases c8 : (tAt h (v0 + 1) v1) = 104
  · obtain ⟨hv, -⟩ := hv
    have hv := hv c8
    refine w_tswIn (pc := 8) (tgt := 269) (off := 261) C dX9_doAct_8 (by rw [c8]; decide) (by rw [c8]; decide) (by rw [c8]; decide) (by decide) ?_
    refine w_iconst (pc := 269) C (v := (-1)) dX9_doAct_269 (by decide) ?_
    exact w_iret (pc := 270) C dX9_doAct_270 hv
  obtain ⟨-, hv⟩ := hv
  by_cases c9 : (tAt h (v0 + 1) v1) = 105
  · obtain ⟨hv, -⟩ := hv
    have hv := hv c9
    refine w_tswIn (pc := 8) (tgt := 269) (off := 261) C dX9_doAct_8 (by rw [c9]; decide) (by rw [c9]; decide) (by rw [c9]; decide) (by decide) ?_
    refine w_iconst (pc := 269) C (v := (-1)) dX9_doAct_269 (by decide) ?_
    exact w_iret (pc := 270) C dX9_doAct_270 hv
  obtain ⟨-, hv⟩ := hv
  by_cases c10 : (tAt h (v0 + 1) v1) = 106
  · obtain ⟨hv, -⟩ := hv
    have hv := hv c10
    refine w_tswIn (pc := 8) (tgt := 269) (off := 261) C dX9_doAct_8 (by rw [c10]; decide) (by rw [c10]; decide) (by rw [c10]; decide) (by decide) ?_
    refine w_iconst (pc := 269) C (v := (-1)) dX9_doAct_269 (by decide) ?_
    exact w_iret (pc := 270) C dX9_doAct_270 hv
  obtain ⟨-, hv⟩ := hv
  by_cases c11 : (tAt h (v0 + 1) v1) = 107
  · obtain ⟨hv, -⟩ := hv
    have hv := hv c11
    refine w_tswIn (pc := 8) (tgt := 269) (off := 261) C dX9_doAct_8 (by rw [c11]; decide) (by rw [c11]; decide) (by rw [c11]; decide) (by decide) ?_
    refine w_iconst (pc := 269) C (v := (-1)) dX9_doAct_269 (by decide) ?_
    exact w_iret (pc := 270) C dX9_doAct_270 hv
  obtain ⟨-, hv⟩ := hv
  by_cases c12 : (tAt h (v0 + 1) v1) = 108
  · obtain ⟨hv, -⟩ := hv
    have hv := hv c12
    refine w_tswIn (pc := 8) (tgt := 269) (off := 261) C dX9_doAct_8 (by rw [c12]; decide) (by rw [c12]; decide) (by rw [c12]; decide) (by decide) ?_
    refine w_iconst (pc := 269) C (v := (-1)) dX9_doAct_269 (by decide) ?_
    exact w_iret (pc := 270) C dX9_doAct_270 hv
  obtain ⟨-, hv⟩ := hv
  by_cases c13 : (tAt h (v0 + 1) v1) = 109
  · obtain ⟨hv, -⟩ := hv
    have hv := hv c13
    refine w_tswIn (pc := 8) (tgt := 269) (off := 261) C dX9_doAct_8 (by rw [c13]; decide) (by rw [c13]; decide) (by rw [c13]; decide) (by decide) ?_
    refine w_iconst (pc := 269) C (v := (-1)) dX9_doAct_269 (by decide) ?_
    exact w_iret (pc := 270) C dX9_doAct_270 hv
  obtain ⟨-, hv⟩ := hv
  by_cases c14 : (tAt h (v0 + 1) v1) = 110
  · obtain ⟨hv, -⟩ := hv
    have hv := hv c14
    refine w_tswIn (pc := 8) (tgt := 269) (off := 261) C dX9_doAct_8 (by rw [c14]; decide) (by rw [c14]; decide) (by rw [c14]; decide) (by decide) ?_
    refine w_iconst (pc := 269) C (v := (-1)) dX9_doAct_269 (by decide) ?_
    exact w_iret (pc := 270) C dX9_doAct_270 hv
  obtain ⟨-, hv⟩ := hv
  by_cases c15 : (tAt h (v0 + 1) v1) = 111
  · obtain ⟨hv, -⟩ := hv
    have hv := hv c15
    refine w_tswIn (pc := 8) (tgt := 261) (off := 253) C dX9_doAct_8 (by rw [c15]; decide) (by rw [c15]; decide) (by rw [c15]; decide) (by decide) ?_
    refine w_aload_n (pc := 261) C dX9_doAct_261 rfl ?_
    obtain ⟨f51, hv⟩ := hv
    refine w_getR (pc := 262) C fl_X9_82 rfl dX9_doAct_262 (St9_k f1) f51 ?_
    obtain ⟨f52, hv⟩ := hv
    refine w_cV0_0 (pc := 265) C cl_X9_336 lv_X4_takeOut (by decide) dX9_doAct_265 (Nat.le_of_ble_eq_true rfl) (c := 4) rfl (St4_k f52) (hv.mono (fun v h53 hp => ?_))
    obtain ⟨x54, rfl, hv⟩ := hp
    exact w_iret (pc := 268) C dX9_doAct_268 hv
  obtain ⟨-, hv⟩ := hv
  by_cases c16 : (tAt h (v0 + 1) v1) = 112
  · obtain ⟨hv, -⟩ := hv
    have hv := hv c16
    refine w_tswIn (pc := 8) (tgt := 269) (off := 261) C dX9_doAct_8 (by rw [c16]; decide) (by rw [c16]; decide) (by rw [c16]; decide) (by decide) ?_
    refine w_iconst (pc := 269) C (v := (-1)) dX9_doAct_269 (by decide) ?_
    exact w_iret (pc := 270) C dX9_doAct_270 hv
  obtain ⟨-, hv⟩ := hv
  by_cases c17 : (tAt h (v0 + 1) v1) = 113
  · obtain ⟨hv, -⟩ := hv
    have hv := hv c17
    refine w_tswIn (pc := 8) (tgt := 269) (off := 261) C dX9_doAct_8 (by rw [c17]; decide) (by rw [c17]; decide) (by rw [c17]; decide) (by decide) ?_
    refine w_iconst (pc := 269) C (v := (-1)) dX9_doAct_269 (by decide) ?_
    exact w_iret (pc := 270) C dX9_doAct_270 hv
  obtain ⟨-, hv⟩ := hv
  by_cases c18 : (tAt h (v0 + 1) v1) = 114
  · obtain ⟨hv, -⟩ := hv
    have hv := hv c18
    refine w_tswIn (pc := 8) (tgt := 269) (off := 261) C dX9_doAct_8 (by rw [c18]; decide) (by rw [c18]; decide) (by rw [c18]; decide) (by decide) ?_
    refine w_iconst (pc := 269) C (v := (-1)) dX9_doAct_269 (by decide) ?_
    exact w_iret (pc := 270) C dX9_doAct_270 hv
  obtain ⟨-, hv⟩ := hv
  by_cases c19 : (tAt h (v0 + 1) v1) = 115
  · obtain ⟨hv, -⟩ := hv
    have hv := hv c19
    refine w_tswIn (pc := 8) (tgt := 269) (off := 261) C dX9_doAct_8 (by rw [c19]; decide) (by rw [c19]; decide) (by rw [c19]; decide) (by decide) ?_
    refine w_iconst (pc := 269) C (v := (-1)) dX9_doAct_269 (by decide) ?_
    exact w_iret (pc := 270) C dX9_doAct_270 hv
  obtain ⟨-, hv⟩ := hv
  by_cases c20 : (tAt h (v0 + 1) v1) = 116
  · obtain ⟨hv, -⟩ := hv
    have hv := hv c20
    refine w_tswIn (pc := 8) (tgt := 131) (off := 123) C dX9_doAct_8 (by rw [c20]; decide) (by rw [c20]; decide) (by rw [c20]; decide) (by decide) ?_
    refine w_aload_n (pc := 131) C dX9_doAct_131 rfl ?_
    obtain ⟨f55, hv⟩ := hv
    refine w_getR (pc := 132) C fl_X9_82 rfl dX9_doAct_132 (St9_k f1) f55 ?_
    refine w_aload_n (pc := 135) C dX9_doAct_135 rfl ?_
    refine w_getR (pc := 136) C fl_X9_10 rfl dX9_doAct_136 (St9_k f1) (St9_r0 f1) ?_
    refine w_iload_n (pc := 139) C dX9_doAct_139 rfl ?_
    refine w_iconst (pc := 140) C (v := 1) dX9_doAct_140 (by decide) ?_
    refine w_iadd (pc := 141) C dX9_doAct_141 ?_
    refine w_iconst (pc := 142) C (v := 2) dX9_doAct_142 (by decide) ?_
    refine w_cV0_2 (pc := 143) C cl_X9_124 lv_X7_number (by decide) dX9_doAct_143 (Nat.le_of_ble_eq_true rfl) (c := 7) rfl (St7_k (St9_s0 f1)) (hv.mono (fun v h56 hp => ?_))
    obtain ⟨x57, rfl, hv⟩ := hp
    refine w_aload_n (pc := 146) C dX9_doAct_146 rfl ?_
    obtain ⟨f58, hv⟩ := hv
    refine w_getR (pc := 147) C fl_X9_10 rfl dX9_doAct_147 (St9_k f58) (St9_r0 f58) ?_
    refine w_iload_n (pc := 150) C dX9_doAct_150 rfl ?_
    refine w_iconst (pc := 151) C (v := 3) dX9_doAct_151 (by decide) ?_
    refine w_iadd (pc := 152) C dX9_doAct_152 ?_
    refine w_iconst (pc := 153) C (v := 2) dX9_doAct_153 (by decide) ?_
    refine w_cV0_2 (pc := 154) C cl_X9_124 lv_X7_number (by decide) dX9_doAct_154 (Nat.le_of_ble_eq_true rfl) (c := 7) rfl (St7_k (St9_s0 f58)) (hv.mono (fun v h59 hp => ?_))
    obtain ⟨x60, rfl, hv⟩ := hp
    refine w_iconst (pc := 157) C (v := 0) dX9_doAct_157 (by decide) ?_
    obtain ⟨f61, hv⟩ := hv
    refine w_cV0_3 (pc := 158) C cl_X9_339 lv_X4_wind (by decide) dX9_doAct_158 (Nat.le_of_ble_eq_true rfl) (c := 4) rfl (St4_k f61) (hv.mono (fun v h62 hp => ?_))
    obtain ⟨x63, rfl, hv⟩ := hp
    exact w_iret (pc := 161) C dX9_doAct_161 hv
  obtain ⟨-, hv⟩ := hv
  by_cases c21 : (tAt h (v0 + 1) v1) = 117
  · obtain ⟨hv, -⟩ := hv
    have hv := hv c21
    refine w_tswIn (pc := 8) (tgt := 112) (off := 104) C dX9_doAct_8 (by rw [c21]; decide) (by rw [c21]; decide) (by rw [c21]; decide) (by decide) ?_
    refine w_aload_n (pc := 112) C dX9_doAct_112 rfl ?_
    obtain ⟨f64, hv⟩ := hv
    refine w_getR (pc := 113) C fl_X9_82 rfl dX9_doAct_113 (St9_k f1) f64 ?_
    refine w_aload_n (pc := 116) C dX9_doAct_116 rfl ?_
    refine w_getR (pc := 117) C fl_X9_10 rfl dX9_doAct_117 (St9_k f1) (St9_r0 f1) ?_
    refine w_iload_n (pc := 120) C dX9_doAct_120 rfl ?_
    refine w_iconst (pc := 121) C (v := 1) dX9_doAct_121 (by decide) ?_
    refine w_iadd (pc := 122) C dX9_doAct_122 ?_
    refine w_iconst (pc := 123) C (v := 2) dX9_doAct_123 (by decide) ?_
    refine w_cV0_2 (pc := 124) C cl_X9_124 lv_X7_number (by decide) dX9_doAct_124 (Nat.le_of_ble_eq_true rfl) (c := 7) rfl (St7_k (St9_s0 f1)) (hv.mono (fun v h65 hp => ?_))
    obtain ⟨x66, rfl, hv⟩ := hp
    obtain ⟨f67, hv⟩ := hv
    refine w_cV0_1 (pc := 127) C cl_X9_326 lv_X4_choose (by decide) dX9_doAct_127 (Nat.le_of_ble_eq_true rfl) (c := 4) rfl (St4_k f67) (hv.mono (fun v h68 hp => ?_))
    obtain ⟨x69, rfl, hv⟩ := hp
    exact w_iret (pc := 130) C dX9_doAct_130 hv
  obtain ⟨-, hv⟩ := hv
  by_cases c22 : (tAt h (v0 + 1) v1) = 118
  · obtain ⟨hv, -⟩ := hv
    have hv := hv c22
    refine w_tswIn (pc := 8) (tgt := 269) (off := 261) C dX9_doAct_8 (by rw [c22]; decide) (by rw [c22]; decide) (by rw [c22]; decide) (by decide) ?_
    refine w_iconst (pc := 269) C (v := (-1)) dX9_doAct_269 (by decide) ?_
    exact w_iret (pc := 270) C dX9_doAct_270 hv
  obtain ⟨-, hv⟩ := hv
  by_cases c23 : (tAt h (v0 + 1) v1) = 119
  · obtain ⟨hv, -⟩ := hv
    have hv := hv c23
    refine w_tswIn (pc := 8) (tgt := 201) (off := 193) C dX9_doAct_8 (by rw [c23]; decide) (by rw [c23]; decide) (by rw [c23]; decide) (by decide) ?_
    refine w_aload_n (pc := 201) C dX9_doAct_201 rfl ?_
    obtain ⟨f70, hv⟩ := hv
    refine w_getR (pc := 202) C fl_X9_82 rfl dX9_doAct_202 (St9_k f1) f70 ?_
    obtain ⟨f71, hv⟩ := hv
    refine w_cV0_0 (pc := 205) C cl_X9_349 lv_X4_wipeAll (by decide) dX9_doAct_205 (Nat.le_of_ble_eq_true rfl) (c := 4) rfl (St4_k f71) (hv.mono (fun v h72 hp => ?_))
    obtain ⟨x73, rfl, hv⟩ := hp
    exact w_iret (pc := 208) C dX9_doAct_208 hv
  obtain ⟨-, hv⟩ := hv
  have hv := hv c2 c3 c4 c5 c6 c7 c8 c9 c10 c11 c12 c13 c14 c15 c16 c17 c18 c19 c20 c21 c22 c23
  refine w_tswOut (pc := 8) (tgt := 269) C dX9_doAct_8 ?_ (by decide) ?_
  · have e0 := lv_neT (a := 98) c2 rfl; have e1 := lv_neT (a := 99) c3 rfl; have e2 := lv_neT (a := 100) c4 rfl; have e3 := lv_neT (a := 101) c5 rfl; have e4 := lv_neT (a := 102) c6 rfl; have e5 := lv_neT (a := 103) c7 rfl; have e6 := lv_neT (a := 104) c8 rfl; have e7 := lv_neT (a := 105) c9 rfl; have e8 := lv_neT (a := 106) c10 rfl; have e9 := lv_neT (a := 107) c11 rfl; have e10 := lv_neT (a := 108) c12 rfl; have e11 := lv_neT (a := 109) c13 rfl; have e12 := lv_neT (a := 110) c14 rfl; have e13 := lv_neT (a := 111) c15 rfl; have e14 := lv_neT (a := 112) c16 rfl; have e15 := lv_neT (a := 113) c17 rfl; have e16 := lv_neT (a := 114) c18 rfl; have e17 := lv_neT (a := 115) c19 rfl; have e18 := lv_neT (a := 116) c20 rfl; have e19 := lv_neT (a := 117) c21 rfl; have e20 := lv_neT (a := 118) c22 rfl; have e21 := lv_neT (a := 119) c23 rfl; omega
  refine w_iconst (pc := 269) C (v := (-1)) dX9_doAct_269 (by decide) ?_
  exact w_iret (pc := 270) C dX9_doAct_270 hv
theorem dX9_day_0 : decode cX9_day 0 = .ok (.aload_n 0, 1) := by decide +kernel
theorem dX9_day_1 : decode cX9_day 1 = .ok (.invokevirtual 398, 3) := by decide +kernel
theorem dX9_day_4 : decode cX9_day 4 = .ok (.istore_n 1, 1) := by decide +kernel
theorem dX9_day_5 : decode cX9_day 5 = .ok (.iload_n 1, 1) := by decide +kernel
theorem dX9_day_6 : decode cX9_day 6 = .ok (.iconst (-1), 1) := by decide +kernel
theorem dX9_day_7 : decode cX9_day 7 = .ok (.if_icmp .eq 15, 3) := by decide +kernel
theorem dX9_day_10 : decode cX9_day 10 = .ok (.aload_n 0, 1) := by decide +kernel
theorem dX9_day_11 : decode cX9_day 11 = .ok (.getfield 10, 3) := by decide +kernel
theorem dX9_day_14 : decode cX9_day 14 = .ok (.iconst 0, 1) := by decide +kernel
theorem dX9_day_15 : decode cX9_day 15 = .ok (.putfield 96, 3) := by decide +kernel
theorem dX9_day_18 : decode cX9_day 18 = .ok (.iconst (-1), 1) := by decide +kernel
theorem dX9_day_19 : decode cX9_day 19 = .ok (.iload_n 1, 1) := by decide +kernel
theorem dX9_day_20 : decode cX9_day 20 = .ok (.isub, 1) := by decide +kernel
theorem dX9_day_21 : decode cX9_day 21 = .ok (.ireturn, 1) := by decide +kernel
theorem dX9_day_22 : decode cX9_day 22 = .ok (.aload_n 0, 1) := by decide +kernel
theorem dX9_day_23 : decode cX9_day 23 = .ok (.getfield 82, 3) := by decide +kernel
theorem dX9_day_26 : decode cX9_day 26 = .ok (.aload_n 0, 1) := by decide +kernel
theorem dX9_day_27 : decode cX9_day 27 = .ok (.getfield 78, 3) := by decide +kernel
theorem dX9_day_30 : decode cX9_day 30 = .ok (.invokevirtual 99, 3) := by decide +kernel
theorem dX9_day_33 : decode cX9_day 33 = .ok (.iconst 0, 1) := by decide +kernel
theorem dX9_day_34 : decode cX9_day 34 = .ok (.istore_n 2, 1) := by decide +kernel
theorem dX9_day_35 : decode cX9_day 35 = .ok (.iconst 0, 1) := by decide +kernel
theorem dX9_day_36 : decode cX9_day 36 = .ok (.istore_n 3, 1) := by decide +kernel
theorem dX9_day_37 : decode cX9_day 37 = .ok (.iconst 0, 1) := by decide +kernel
theorem dX9_day_38 : decode cX9_day 38 = .ok (.istore 4, 2) := by decide +kernel
theorem dX9_day_40 : decode cX9_day 40 = .ok (.iconst 0, 1) := by decide +kernel
theorem dX9_day_41 : decode cX9_day 41 = .ok (.istore 5, 2) := by decide +kernel
theorem dX9_day_43 : decode cX9_day 43 = .ok (.iload 5, 2) := by decide +kernel
theorem dX9_day_45 : decode cX9_day 45 = .ok (.bipush 80, 2) := by decide +kernel
theorem dX9_day_47 : decode cX9_day 47 = .ok (.if_icmp .ge 59, 3) := by decide +kernel
theorem dX9_day_50 : decode cX9_day 50 = .ok (.iload 4, 2) := by decide +kernel
theorem dX9_day_52 : decode cX9_day 52 = .ok (.aload_n 0, 1) := by decide +kernel
theorem dX9_day_53 : decode cX9_day 53 = .ok (.getfield 10, 3) := by decide +kernel
theorem dX9_day_56 : decode cX9_day 56 = .ok (.getfield 96, 3) := by decide +kernel
theorem dX9_day_59 : decode cX9_day 59 = .ok (.if_icmp .ge 47, 3) := by decide +kernel
theorem dX9_day_62 : decode cX9_day 62 = .ok (.iload_n 3, 1) := by decide +kernel
theorem dX9_day_63 : decode cX9_day 63 = .ok (.ifCond .ne 43, 3) := by decide +kernel
theorem dX9_day_66 : decode cX9_day 66 = .ok (.aload_n 0, 1) := by decide +kernel
theorem dX9_day_67 : decode cX9_day 67 = .ok (.iload 4, 2) := by decide +kernel
theorem dX9_day_69 : decode cX9_day 69 = .ok (.invokevirtual 401, 3) := by decide +kernel
theorem dX9_day_72 : decode cX9_day 72 = .ok (.ifCond .ge 8, 3) := by decide +kernel
theorem dX9_day_75 : decode cX9_day 75 = .ok (.iconst 1, 1) := by decide +kernel
theorem dX9_day_76 : decode cX9_day 76 = .ok (.istore_n 3, 1) := by decide +kernel
theorem dX9_day_77 : decode cX9_day 77 = .ok (.goto 23, 3) := by decide +kernel
theorem dX9_day_80 : decode cX9_day 80 = .ok (.iinc 2 1, 3) := by decide +kernel
theorem dX9_day_83 : decode cX9_day 83 = .ok (.iload 4, 2) := by decide +kernel
theorem dX9_day_85 : decode cX9_day 85 = .ok (.aload_n 0, 1) := by decide +kernel
theorem dX9_day_86 : decode cX9_day 86 = .ok (.getfield 10, 3) := by decide +kernel
theorem dX9_day_89 : decode cX9_day 89 = .ok (.iload 4, 2) := by decide +kernel
theorem dX9_day_91 : decode cX9_day 91 = .ok (.invokevirtual 134, 3) := by decide +kernel
theorem dX9_day_94 : decode cX9_day 94 = .ok (.invokestatic 404, 3) := by decide +kernel
theorem dX9_day_97 : decode cX9_day 97 = .ok (.iadd, 1) := by decide +kernel
theorem dX9_day_98 : decode cX9_day 98 = .ok (.istore 4, 2) := by decide +kernel
theorem dX9_day_100 : decode cX9_day 100 = .ok (.iinc 5 1, 3) := by decide +kernel
theorem dX9_day_103 : decode cX9_day 103 = .ok (.goto (-60), 3) := by decide +kernel
theorem dX9_day_106 : decode cX9_day 106 = .ok (.aload_n 0, 1) := by decide +kernel
theorem dX9_day_107 : decode cX9_day 107 = .ok (.getfield 10, 3) := by decide +kernel
theorem dX9_day_110 : decode cX9_day 110 = .ok (.iconst 0, 1) := by decide +kernel
theorem dX9_day_111 : decode cX9_day 111 = .ok (.putfield 96, 3) := by decide +kernel
theorem dX9_day_114 : decode cX9_day 114 = .ok (.iload_n 2, 1) := by decide +kernel
theorem dX9_day_115 : decode cX9_day 115 = .ok (.ifCond .le 9, 3) := by decide +kernel
theorem dX9_day_118 : decode cX9_day 118 = .ok (.aload_n 0, 1) := by decide +kernel
theorem dX9_day_119 : decode cX9_day 119 = .ok (.iload_n 2, 1) := by decide +kernel
theorem dX9_day_120 : decode cX9_day 120 = .ok (.invokevirtual 107, 3) := by decide +kernel
theorem dX9_day_123 : decode cX9_day 123 = .ok (.pop, 1) := by decide +kernel
theorem dX9_day_124 : decode cX9_day 124 = .ok (.aload_n 0, 1) := by decide +kernel
theorem dX9_day_125 : decode cX9_day 125 = .ok (.getfield 19, 3) := by decide +kernel
theorem dX9_day_128 : decode cX9_day 128 = .ok (.invokevirtual 158, 3) := by decide +kernel
theorem dX9_day_131 : decode cX9_day 131 = .ok (.aload_n 0, 1) := by decide +kernel
theorem dX9_day_132 : decode cX9_day 132 = .ok (.getfield 19, 3) := by decide +kernel
theorem dX9_day_135 : decode cX9_day 135 = .ok (.iload_n 3, 1) := by decide +kernel
theorem dX9_day_136 : decode cX9_day 136 = .ok (.i2l, 1) := by decide +kernel
theorem dX9_day_137 : decode cX9_day 137 = .ok (.invokevirtual 164, 3) := by decide +kernel
theorem dX9_day_140 : decode cX9_day 140 = .ok (.aload_n 0, 1) := by decide +kernel
theorem dX9_day_141 : decode cX9_day 141 = .ok (.getfield 19, 3) := by decide +kernel
theorem dX9_day_144 : decode cX9_day 144 = .ok (.aload_n 0, 1) := by decide +kernel
theorem dX9_day_145 : decode cX9_day 145 = .ok (.getfield 78, 3) := by decide +kernel
theorem dX9_day_148 : decode cX9_day 148 = .ok (.getfield 363, 3) := by decide +kernel
theorem dX9_day_151 : decode cX9_day 151 = .ok (.i2l, 1) := by decide +kernel
theorem dX9_day_152 : decode cX9_day 152 = .ok (.invokevirtual 164, 3) := by decide +kernel
theorem dX9_day_155 : decode cX9_day 155 = .ok (.iload_n 2, 1) := by decide +kernel
theorem dX9_day_156 : decode cX9_day 156 = .ok (.ireturn, 1) := by decide +kernel
set_option maxRecDepth 20000 in
set_option maxHeartbeats 2000000 in
theorem V_X9_day_0 {X : Ctx} (C : C_X9_day X) {k n : Nat} {Q : Pq} {h : Hp} {v0 : Nat}
    (hv : St9 h v0 ∧ S_X9_firstWrongOfDay (lX X) (dtX X) 0 0 [.ref v0] h (QI fun x3 h2 =>
    ((x3 = (-1) → St9 h2 v0 ∧ nn h2 v0 13 ∧ nn h2 v0 12 ∧ St4 h2 (gp h2 v0 13) ∧ S_X4_copyFrom (lX X) (dtX X) 0 0 [.ref (gp h2 v0 13), .ref (gp h2 v0 12)] h2 (QV fun h8 =>
    Wj X k n Q 43 [(0, .ref v0), (2, .int 0), (3, .int 0), (4, .int 0), (5, .int 0)] [] h8)) ∧
    (¬ x3 = (-1) → St9 h2 v0 ∧ Q (some (.int ((-1) - x3))) (si h2 (v0 + 1) 1 0))))) :
    Wj X k n Q 0 [(0, .ref v0)] [] h := by
  refine w_aload_n (pc := 0) C dX9_day_0 rfl ?_
  obtain ⟨f1, hv⟩ := hv
  refine w_cV0_0 (pc := 1) C cl_X9_398 lv_X9_firstWrongOfDay (by decide) dX9_day_1 (Nat.le_of_ble_eq_true rfl) (c := 9) rfl (St9_k f1) (hv.mono (fun v h2 hp => ?_))
  obtain ⟨x3, rfl, hv⟩ := hp
  refine w_istore_n (pc := 4) C dX9_day_4 (by decide) ?_
  refine w_iload_n (pc := 5) C dX9_day_5 rfl ?_
  refine w_iconst (pc := 6) C (v := (-1)) dX9_day_6 (by decide) ?_
  refine w_icmp_eq (pc := 7) C (tgt := 22) dX9_day_7 (by decide) ?_
  obtain ⟨hv1, hv2⟩ := hv
  refine ⟨fun c10 => ?_, fun c10 => ?_⟩
  · have hv := hv1 c10
    refine w_aload_n (pc := 22) C dX9_day_22 rfl ?_
    obtain ⟨f4, hv⟩ := hv
    obtain ⟨f5, hv⟩ := hv
    refine w_getR (pc := 23) C fl_X9_82 rfl dX9_day_23 (St9_k f4) f5 ?_
    refine w_aload_n (pc := 26) C dX9_day_26 rfl ?_
    obtain ⟨f6, hv⟩ := hv
    refine w_getR (pc := 27) C fl_X9_78 rfl dX9_day_27 (St9_k f4) f6 ?_
    obtain ⟨f7, hv⟩ := hv
    refine w_cV0_1 (pc := 30) C cl_X9_99 lv_X4_copyFrom (by decide) dX9_day_30 (Nat.le_of_ble_eq_true rfl) (c := 4) rfl (St4_k f7) (hv.mono (fun v h8 hp => ?_))
    obtain ⟨rfl, hv⟩ := hp
    refine w_iconst (pc := 33) C (v := 0) dX9_day_33 (by decide) ?_
    refine w_istore_n (pc := 34) C dX9_day_34 (by decide) ?_
    refine w_iconst (pc := 35) C (v := 0) dX9_day_35 (by decide) ?_
    refine w_istore_n (pc := 36) C dX9_day_36 (by decide) ?_
    refine w_iconst (pc := 37) C (v := 0) dX9_day_37 (by decide) ?_
    refine w_istore (pc := 38) C dX9_day_38 (by decide) ?_
    refine w_iconst (pc := 40) C (v := 0) dX9_day_40 (by decide) ?_
    refine w_istore (pc := 41) C dX9_day_41 (by decide) ?_
    refine w_sub ?_ hv
    exact ⟨rfl, rfl, rfl, rfl, rfl, trivial⟩
  · have hv := hv2 c10
    refine w_aload_n (pc := 10) C dX9_day_10 rfl ?_
    obtain ⟨f9, hv⟩ := hv
    refine w_getR (pc := 11) C fl_X9_10 rfl dX9_day_11 (St9_k f9) (St9_r0 f9) ?_
    refine w_iconst (pc := 14) C (v := 0) dX9_day_14 (by decide) ?_
    refine w_putI (pc := 15) C fl_X9_96 rfl rfl dX9_day_15 (St7_k (St9_s0 f9)) ?_
    refine w_iconst (pc := 18) C (v := (-1)) dX9_day_18 (by decide) ?_
    refine w_iload_n (pc := 19) C dX9_day_19 rfl ?_
    refine w_isub (pc := 20) C dX9_day_20 ?_
    exact w_iret (pc := 21) C dX9_day_21 hv
set_option maxRecDepth 20000 in
set_option maxHeartbeats 2000000 in
theorem V_X9_day_43 {X : Ctx} (C : C_X9_day X) {k n : Nat} {Q : Pq} {h : Hp} {v0 : Nat} {v2 v3 v4 v5 : Int32}
    (hv : ((80 ≤ v5 → Wj X k n Q 106 [(0, .ref v0), (2, .int v2), (3, .int v3)] [] h) ∧
    (¬ 80 ≤ v5 → St9 h v0 ∧ (((gi h (v0 + 1) 1) ≤ v4 → Wj X k n Q 106 [(0, .ref v0), (2, .int v2), (3, .int v3)] [] h) ∧
    (¬ (gi h (v0 + 1) 1) ≤ v4 → ((¬ v3 = 0 → Wj X k n Q 106 [(0, .ref v0), (2, .int v2), (3, .int v3)] [] h) ∧
    (v3 = 0 → S_X9_doAct (lX X) (dtX X) 0 0 [.ref v0, .int v4] h (QI fun x3 h2 =>
    ((0 ≤ x3 → St9 h2 v0 ∧ S_X9_lengthOfAct (lX X) (dtX X) 0 0 [.int (tAt h2 (v0 + 1) v4)] h2 (QI fun x6 h5 =>
    Wj X k n Q 43 [(0, .ref v0), (2, .int (v2 + Int32.ofInt 1)), (3, .int v3), (4, .int (v4 + x6)), (5, .int (v5 + Int32.ofInt 1))] [] h5)) ∧
    (¬ 0 ≤ x3 → Wj X k n Q 43 [(0, .ref v0), (2, .int v2), (3, .int 1), (4, .int v4), (5, .int (v5 + Int32.ofInt 1))] [] h2)))))))))) :
    Wj X k n Q 43 [(0, .ref v0), (2, .int v2), (3, .int v3), (4, .int v4), (5, .int v5)] [] h := by
  refine w_iload (pc := 43) C dX9_day_43 rfl ?_
  refine w_bipush (pc := 45) C (v := 80) dX9_day_45 (by decide) ?_
  refine w_icmp_ge (pc := 47) C (tgt := 106) dX9_day_47 (by decide) ?_
  obtain ⟨hv1, hv2⟩ := hv
  refine ⟨fun c10 => ?_, fun c10 => ?_⟩
  · have hv := hv1 c10
    refine w_sub ?_ hv
    exact ⟨rfl, rfl, rfl, trivial⟩
  · have hv := hv2 c10
    refine w_iload (pc := 50) C dX9_day_50 rfl ?_
    refine w_aload_n (pc := 52) C dX9_day_52 rfl ?_
    obtain ⟨f1, hv⟩ := hv
    refine w_getR (pc := 53) C fl_X9_10 rfl dX9_day_53 (St9_k f1) (St9_r0 f1) ?_
    refine w_getI (pc := 56) C fl_X9_96 rfl dX9_day_56 (St7_k (St9_s0 f1)) ?_
    refine w_icmp_ge (pc := 59) C (tgt := 106) dX9_day_59 (by decide) ?_
    obtain ⟨hv1, hv2⟩ := hv
    refine ⟨fun c9 => ?_, fun c9 => ?_⟩
    · have hv := hv1 c9
      refine w_sub ?_ hv
      exact ⟨rfl, rfl, rfl, trivial⟩
    · have hv := hv2 c9
      refine w_iload_n (pc := 62) C dX9_day_62 rfl ?_
      refine w_if_ne (pc := 63) C (tgt := 106) dX9_day_63 (by decide) ?_
      obtain ⟨hv1, hv2⟩ := hv
      refine ⟨fun c8 => ?_, fun c8 => ?_⟩
      · have hv := hv1 c8
        refine w_sub ?_ hv
        exact ⟨rfl, rfl, rfl, trivial⟩
      · have hv := hv2 c8
        refine w_aload_n (pc := 66) C dX9_day_66 rfl ?_
        refine w_iload (pc := 67) C dX9_day_67 rfl ?_
        refine w_cV0_1 (pc := 69) C cl_X9_401 lv_X9_doAct (by decide) dX9_day_69 (Nat.le_of_ble_eq_true rfl) (c := 9) rfl (St9_k f1) (hv.mono (fun v h2 hp => ?_))
        obtain ⟨x3, rfl, hv⟩ := hp
        refine w_if_ge (pc := 72) C (tgt := 80) dX9_day_72 (by decide) ?_
        obtain ⟨hv1, hv2⟩ := hv
        refine ⟨fun c7 => ?_, fun c7 => ?_⟩
        · have hv := hv1 c7
          refine w_iinc (pc := 80) C dX9_day_80 rfl (by decide) ?_
          refine w_iload (pc := 83) C dX9_day_83 rfl ?_
          refine w_aload_n (pc := 85) C dX9_day_85 rfl ?_
          obtain ⟨f4, hv⟩ := hv
          refine w_getR (pc := 86) C fl_X9_10 rfl dX9_day_86 (St9_k f4) (St9_r0 f4) ?_
          refine w_iload (pc := 89) C dX9_day_89 rfl ?_
          refine w_cV0_1 (pc := 91) C cl_X9_134 lv_X7_at (by decide) dX9_day_91 (Nat.le_of_ble_eq_true rfl) (c := 7) rfl (St7_k (St9_s0 f4)) ((sf_X7_at (h := h2) (St9_s0 f4)).mono (fun v h9 hp => ?_))
          obtain ⟨e1, e2⟩ := hp
          rw [e1, e2]
          refine w_cS0_1 (pc := 94) C cl_X9_404 ls_X9_lengthOfAct (by decide) dX9_day_94 (Nat.le_of_ble_eq_true rfl) (hv.mono (fun v h5 hp => ?_))
          obtain ⟨x6, rfl, hv⟩ := hp
          refine w_iadd (pc := 97) C dX9_day_97 ?_
          refine w_istore (pc := 98) C dX9_day_98 (by decide) ?_
          refine w_iinc (pc := 100) C dX9_day_100 rfl (by decide) ?_
          refine w_goto (pc := 103) C (tgt := 43) dX9_day_103 (by decide) ?_
          refine w_sub ?_ hv
          exact ⟨rfl, rfl, rfl, rfl, rfl, trivial⟩
        · have hv := hv2 c7
          refine w_iconst (pc := 75) C (v := 1) dX9_day_75 (by decide) ?_
          refine w_istore_n (pc := 76) C dX9_day_76 (by decide) ?_
          refine w_goto (pc := 77) C (tgt := 100) dX9_day_77 (by decide) ?_
          refine w_iinc (pc := 100) C dX9_day_100 rfl (by decide) ?_
          refine w_goto (pc := 103) C (tgt := 43) dX9_day_103 (by decide) ?_
          refine w_sub ?_ hv
          exact ⟨rfl, rfl, rfl, rfl, rfl, trivial⟩
set_option maxRecDepth 20000 in
set_option maxHeartbeats 2000000 in
theorem V_X9_day_106 {X : Ctx} (C : C_X9_day X) {k n : Nat} {Q : Pq} {h : Hp} {v0 : Nat} {v2 v3 : Int32}
    (hv : St9 h v0 ∧ ((v2 ≤ 0 → Wj X k n Q 124 [(0, .ref v0), (2, .int v2), (3, .int v3)] [] (si h (v0 + 1) 1 0)) ∧
    (¬ v2 ≤ 0 → (∃ k3 n4, k + k3 ≤ mcX X ∧ n + n4 ≤ msX X ∧ S_X9_adopt (lX X) (dtX X) k3 n4 [.ref v0, .int v2] (si h (v0 + 1) 1 0) (QI fun x5 h2 =>
    Wj X (k + k3) (n + n4) Q 124 [(0, .ref v0), (2, .int v2), (3, .int v3)] [] h2))))) :
    Wj X k n Q 106 [(0, .ref v0), (2, .int v2), (3, .int v3)] [] h := by
  refine w_aload_n (pc := 106) C dX9_day_106 rfl ?_
  obtain ⟨f1, hv⟩ := hv
  refine w_getR (pc := 107) C fl_X9_10 rfl dX9_day_107 (St9_k f1) (St9_r0 f1) ?_
  refine w_iconst (pc := 110) C (v := 0) dX9_day_110 (by decide) ?_
  refine w_putI (pc := 111) C fl_X9_96 rfl rfl dX9_day_111 (St7_k (St9_s0 f1)) ?_
  refine w_iload_n (pc := 114) C dX9_day_114 rfl ?_
  refine w_if_le (pc := 115) C (tgt := 124) dX9_day_115 (by decide) ?_
  obtain ⟨hv1, hv2⟩ := hv
  refine ⟨fun c6 => ?_, fun c6 => ?_⟩
  · have hv := hv1 c6
    refine w_sub ?_ hv
    exact ⟨rfl, rfl, rfl, trivial⟩
  · have hv := hv2 c6
    refine w_aload_n (pc := 118) C dX9_day_118 rfl ?_
    refine w_iload_n (pc := 119) C dX9_day_119 rfl ?_
    obtain ⟨k3, n4, hm1, hm2, hv⟩ := hv
    refine w_cV1_1 (pc := 120) C cl_X9_107 lv_X9_adopt (by decide) dX9_day_120 (Nat.le_of_ble_eq_true rfl) (c := 9) rfl hm1 hm2 (St9_k f1) (hv.mono (fun v h2 hp => ?_))
    obtain ⟨x5, rfl, hv⟩ := hp
    refine w_pop (pc := 123) C dX9_day_123 rfl ?_
    refine w_sub ?_ hv
    exact ⟨rfl, rfl, rfl, trivial⟩
set_option maxRecDepth 20000 in
set_option maxHeartbeats 2000000 in
theorem V_X9_day_124 {X : Ctx} (C : C_X9_day X) {k n : Nat} {Q : Pq} {h : Hp} {v0 : Nat} {v2 v3 : Int32}
    (hv : St9 h v0 ∧ S_X8_add (lX X) (dtX X) 0 0 [.ref (v0 + 3), .long (Int32.toInt64 v3)] (tcl h (v0 + 3)) (QV fun h2 =>
    St9 h2 v0 ∧ nn h2 v0 12 ∧ St4 h2 (gp h2 v0 12) ∧ S_X8_add (lX X) (dtX X) 0 0 [.ref (v0 + 3), .long (Int32.toInt64 (gi h2 (gp h2 v0 12) 7))] h2 (QV fun h6 =>
    Q (some (.int v2)) h6))) :
    Wj X k n Q 124 [(0, .ref v0), (2, .int v2), (3, .int v3)] [] h := by
  refine w_aload_n (pc := 124) C dX9_day_124 rfl ?_
  obtain ⟨f1, hv⟩ := hv
  refine w_getR (pc := 125) C fl_X9_19 rfl dX9_day_125 (St9_k f1) (St9_r1 f1) ?_
  refine w_cV0_0 (pc := 128) C cl_X9_158 lv_X8_clear (by decide) dX9_day_128 (Nat.le_of_ble_eq_true rfl) (c := 8) rfl (St8_k (St9_s1 f1)) ((sf_X8_clear (h := h) (St9_s1 f1)).mono (fun v h9 hp => ?_))
  obtain ⟨e1, e2⟩ := hp
  rw [e1, e2]
  refine w_aload_n (pc := 131) C dX9_day_131 rfl ?_
  refine w_getR (pc := 132) C fl_X9_19 rfl dX9_day_132 (St9_k f1) (St9_r1 f1) ?_
  refine w_iload_n (pc := 135) C dX9_day_135 rfl ?_
  refine w_i2l (pc := 136) C dX9_day_136 ?_
  refine w_cV0_1 (pc := 137) C cl_X9_164 lv_X8_add (by decide) dX9_day_137 (Nat.le_of_ble_eq_true rfl) (c := 8) rfl (St8_k (St9_s1 f1)) (hv.mono (fun v h2 hp => ?_))
  obtain ⟨rfl, hv⟩ := hp
  refine w_aload_n (pc := 140) C dX9_day_140 rfl ?_
  obtain ⟨f3, hv⟩ := hv
  refine w_getR (pc := 141) C fl_X9_19 rfl dX9_day_141 (St9_k f3) (St9_r1 f3) ?_
  refine w_aload_n (pc := 144) C dX9_day_144 rfl ?_
  obtain ⟨f4, hv⟩ := hv
  refine w_getR (pc := 145) C fl_X9_78 rfl dX9_day_145 (St9_k f3) f4 ?_
  obtain ⟨f5, hv⟩ := hv
  refine w_getI (pc := 148) C fl_X9_363 rfl dX9_day_148 (St4_k f5) ?_
  refine w_i2l (pc := 151) C dX9_day_151 ?_
  refine w_cV0_1 (pc := 152) C cl_X9_164 lv_X8_add (by decide) dX9_day_152 (Nat.le_of_ble_eq_true rfl) (c := 8) rfl (St8_k (St9_s1 f3)) (hv.mono (fun v h6 hp => ?_))
  obtain ⟨rfl, hv⟩ := hp
  refine w_iload_n (pc := 155) C dX9_day_155 rfl ?_
  exact w_iret (pc := 156) C dX9_day_156 hv
theorem dX10_takes_0 : decode cX10_takes 0 = .ok (.aload_n 0, 1) := by decide +kernel
theorem dX10_takes_1 : decode cX10_takes 1 = .ok (.getfield 36, 3) := by decide +kernel
theorem dX10_takes_4 : decode cX10_takes 4 = .ok (.aload_n 0, 1) := by decide +kernel
theorem dX10_takes_5 : decode cX10_takes 5 = .ok (.getfield 33, 3) := by decide +kernel
theorem dX10_takes_8 : decode cX10_takes 8 = .ok (.if_icmp .ge 20, 3) := by decide +kernel
theorem dX10_takes_11 : decode cX10_takes 11 = .ok (.aload_n 0, 1) := by decide +kernel
theorem dX10_takes_12 : decode cX10_takes 12 = .ok (.getfield 25, 3) := by decide +kernel
theorem dX10_takes_15 : decode cX10_takes 15 = .ok (.aload_n 0, 1) := by decide +kernel
theorem dX10_takes_16 : decode cX10_takes 16 = .ok (.getfield 36, 3) := by decide +kernel
theorem dX10_takes_19 : decode cX10_takes 19 = .ok (.iaload, 1) := by decide +kernel
theorem dX10_takes_20 : decode cX10_takes 20 = .ok (.iload_n 1, 1) := by decide +kernel
theorem dX10_takes_21 : decode cX10_takes 21 = .ok (.if_icmp .ne 7, 3) := by decide +kernel
theorem dX10_takes_24 : decode cX10_takes 24 = .ok (.iconst 1, 1) := by decide +kernel
theorem dX10_takes_25 : decode cX10_takes 25 = .ok (.goto 4, 3) := by decide +kernel
theorem dX10_takes_28 : decode cX10_takes 28 = .ok (.iconst 0, 1) := by decide +kernel
theorem dX10_takes_29 : decode cX10_takes 29 = .ok (.istore_n 2, 1) := by decide +kernel
theorem dX10_takes_30 : decode cX10_takes 30 = .ok (.aload_n 0, 1) := by decide +kernel
theorem dX10_takes_31 : decode cX10_takes 31 = .ok (.dup, 1) := by decide +kernel
theorem dX10_takes_32 : decode cX10_takes 32 = .ok (.getfield 36, 3) := by decide +kernel
theorem dX10_takes_35 : decode cX10_takes 35 = .ok (.iload_n 2, 1) := by decide +kernel
theorem dX10_takes_36 : decode cX10_takes 36 = .ok (.invokestatic 39, 3) := by decide +kernel
theorem dX10_takes_39 : decode cX10_takes 39 = .ok (.iadd, 1) := by decide +kernel
theorem dX10_takes_40 : decode cX10_takes 40 = .ok (.putfield 36, 3) := by decide +kernel
theorem dX10_takes_43 : decode cX10_takes 43 = .ok (.iload_n 2, 1) := by decide +kernel
theorem dX10_takes_44 : decode cX10_takes 44 = .ok (.ireturn, 1) := by decide +kernel
set_option maxRecDepth 20000 in
set_option maxHeartbeats 2000000 in
theorem V_X10_takes_0 {X : Ctx} (C : C_X10_takes X) {k n : Nat} {Q : Pq} {h : Hp} {v0 : Nat} {v1 : Int32}
    (hv : St10 h v0 ∧ (((gi h v0 6) ≤ (gi h v0 5) → Wj X k n Q 29 [(0, .ref v0)] [.int 0] h) ∧
    (¬ (gi h v0 6) ≤ (gi h v0 5) → inb (gi h v0 5) 80 ∧ ((¬ (gi h (v0 + 2) (ix (gi h v0 5))) = v1 → Wj X k n Q 29 [(0, .ref v0)] [.int 0] h) ∧
    ((gi h (v0 + 2) (ix (gi h v0 5))) = v1 → Wj X k n Q 29 [(0, .ref v0)] [.int 1] h))))) :
    Wj X k n Q 0 [(0, .ref v0), (1, .int v1)] [] h := by
  refine w_aload_n (pc := 0) C dX10_takes_0 rfl ?_
  obtain ⟨f1, hv⟩ := hv
  refine w_getI (pc := 1) C fl_X10_36 rfl dX10_takes_1 (St10_k f1) ?_
  refine w_aload_n (pc := 4) C dX10_takes_4 rfl ?_
  refine w_getI (pc := 5) C fl_X10_33 rfl dX10_takes_5 (St10_k f1) ?_
  refine w_icmp_ge (pc := 8) C (tgt := 28) dX10_takes_8 (by decide) ?_
  obtain ⟨hv1, hv2⟩ := hv
  refine ⟨fun c4 => ?_, fun c4 => ?_⟩
  · have hv := hv1 c4
    refine w_iconst (pc := 28) C (v := 0) dX10_takes_28 (by decide) ?_
    refine w_sub ?_ hv
    exact ⟨rfl, trivial⟩
  · have hv := hv2 c4
    refine w_aload_n (pc := 11) C dX10_takes_11 rfl ?_
    refine w_getR (pc := 12) C fl_X10_25 rfl dX10_takes_12 (St10_k f1) (St10_r3 f1) ?_
    refine w_aload_n (pc := 15) C dX10_takes_15 rfl ?_
    refine w_getI (pc := 16) C fl_X10_36 rfl dX10_takes_16 (St10_k f1) ?_
    obtain ⟨f2, hv⟩ := hv
    refine w_iald (pc := 19) C dX10_takes_19 (St10_k3 f1) (inbl (St10_l3 f1) f2) ?_
    refine w_iload_n (pc := 20) C dX10_takes_20 rfl ?_
    refine w_icmp_ne (pc := 21) C (tgt := 28) dX10_takes_21 (by decide) ?_
    obtain ⟨hv1, hv2⟩ := hv
    refine ⟨fun c3 => ?_, fun c3 => ?_⟩
    · have hv := hv1 c3
      refine w_iconst (pc := 28) C (v := 0) dX10_takes_28 (by decide) ?_
      refine w_sub ?_ hv
      exact ⟨rfl, trivial⟩
    · have hv := hv2 c3
      refine w_iconst (pc := 24) C (v := 1) dX10_takes_24 (by decide) ?_
      refine w_goto (pc := 25) C (tgt := 29) dX10_takes_25 (by decide) ?_
      refine w_sub ?_ hv
      exact ⟨rfl, trivial⟩
set_option maxRecDepth 20000 in
set_option maxHeartbeats 2000000 in
theorem V_X10_takes_29 {X : Ctx} (C : C_X10_takes X) {k n : Nat} {Q : Pq} {h : Hp} {v0 : Nat} {s0 : Int32}
    (hv : St10 h v0 ∧ (s0 = 0 ∨ s0 = 1) ∧ Q (some (.int s0)) (si h v0 5 ((gi h v0 5) + (flg s0)))) :
    Wj X k n Q 29 [(0, .ref v0)] [.int s0] h := by
  refine w_istore_n (pc := 29) C dX10_takes_29 (by decide) ?_
  refine w_aload_n (pc := 30) C dX10_takes_30 rfl ?_
  refine w_dup (pc := 31) C dX10_takes_31 rfl ?_
  obtain ⟨f1, hv⟩ := hv
  refine w_getI (pc := 32) C fl_X10_36 rfl dX10_takes_32 (St10_k f1) ?_
  refine w_iload_n (pc := 35) C dX10_takes_35 rfl ?_
  refine w_cS0_1 (pc := 36) C cl_X10_39 ls_X10_flag (by decide) dX10_takes_36 (Nat.le_of_ble_eq_true rfl) ((sf_X10_flag (h := h) ).mono (fun v h9 hp => ?_))
  obtain ⟨e1, e2⟩ := hp
  rw [e1, e2]
  refine w_iadd (pc := 39) C dX10_takes_39 ?_
  refine w_putI (pc := 40) C fl_X10_36 rfl rfl dX10_takes_40 (St10_k f1) ?_
  refine w_iload_n (pc := 43) C dX10_takes_43 rfl ?_
  obtain ⟨f2, hv⟩ := hv
  exact w_zret (pc := 44) C dX10_takes_44 f2 hv
theorem dX10_takesOf_0 : decode cX10_takesOf 0 = .ok (.iconst 0, 1) := by decide +kernel
theorem dX10_takesOf_1 : decode cX10_takesOf 1 = .ok (.istore_n 2, 1) := by decide +kernel
theorem dX10_takesOf_2 : decode cX10_takesOf 2 = .ok (.iload_n 2, 1) := by decide +kernel
theorem dX10_takesOf_3 : decode cX10_takesOf 3 = .ok (.aload_n 1, 1) := by decide +kernel
theorem dX10_takesOf_4 : decode cX10_takesOf 4 = .ok (.invokevirtual 43, 3) := by decide +kernel
theorem dX10_takesOf_7 : decode cX10_takesOf 7 = .ok (.if_icmp .ge 49, 3) := by decide +kernel
theorem dX10_takesOf_10 : decode cX10_takesOf 10 = .ok (.aload_n 0, 1) := by decide +kernel
theorem dX10_takesOf_11 : decode cX10_takesOf 11 = .ok (.getfield 36, 3) := by decide +kernel
theorem dX10_takesOf_14 : decode cX10_takesOf 14 = .ok (.aload_n 0, 1) := by decide +kernel
theorem dX10_takesOf_15 : decode cX10_takesOf 15 = .ok (.getfield 33, 3) := by decide +kernel
theorem dX10_takesOf_18 : decode cX10_takesOf 18 = .ok (.if_icmp .ge 38, 3) := by decide +kernel
theorem dX10_takesOf_21 : decode cX10_takesOf 21 = .ok (.aload_n 1, 1) := by decide +kernel
theorem dX10_takesOf_22 : decode cX10_takesOf 22 = .ok (.iload_n 2, 1) := by decide +kernel
theorem dX10_takesOf_23 : decode cX10_takesOf 23 = .ok (.invokevirtual 49, 3) := by decide +kernel
theorem dX10_takesOf_26 : decode cX10_takesOf 26 = .ok (.aload_n 0, 1) := by decide +kernel
theorem dX10_takesOf_27 : decode cX10_takesOf 27 = .ok (.getfield 25, 3) := by decide +kernel
theorem dX10_takesOf_30 : decode cX10_takesOf 30 = .ok (.aload_n 0, 1) := by decide +kernel
theorem dX10_takesOf_31 : decode cX10_takesOf 31 = .ok (.getfield 36, 3) := by decide +kernel
theorem dX10_takesOf_34 : decode cX10_takesOf 34 = .ok (.iaload, 1) := by decide +kernel
theorem dX10_takesOf_35 : decode cX10_takesOf 35 = .ok (.if_icmp .ne 15, 3) := by decide +kernel
theorem dX10_takesOf_38 : decode cX10_takesOf 38 = .ok (.aload_n 0, 1) := by decide +kernel
theorem dX10_takesOf_39 : decode cX10_takesOf 39 = .ok (.dup, 1) := by decide +kernel
theorem dX10_takesOf_40 : decode cX10_takesOf 40 = .ok (.getfield 36, 3) := by decide +kernel
theorem dX10_takesOf_43 : decode cX10_takesOf 43 = .ok (.iconst 1, 1) := by decide +kernel
theorem dX10_takesOf_44 : decode cX10_takesOf 44 = .ok (.iadd, 1) := by decide +kernel
theorem dX10_takesOf_45 : decode cX10_takesOf 45 = .ok (.putfield 36, 3) := by decide +kernel
theorem dX10_takesOf_48 : decode cX10_takesOf 48 = .ok (.iload_n 2, 1) := by decide +kernel
theorem dX10_takesOf_49 : decode cX10_takesOf 49 = .ok (.ireturn, 1) := by decide +kernel
theorem dX10_takesOf_50 : decode cX10_takesOf 50 = .ok (.iinc 2 1, 3) := by decide +kernel
theorem dX10_takesOf_53 : decode cX10_takesOf 53 = .ok (.goto (-51), 3) := by decide +kernel
theorem dX10_takesOf_56 : decode cX10_takesOf 56 = .ok (.iconst (-1), 1) := by decide +kernel
theorem dX10_takesOf_57 : decode cX10_takesOf 57 = .ok (.ireturn, 1) := by decide +kernel
theorem dX10_digit_0 : decode cX10_digit 0 = .ok (.aload_n 0, 1) := by decide +kernel
theorem dX10_digit_1 : decode cX10_digit 1 = .ok (.ldc 53, 2) := by decide +kernel
theorem dX10_digit_3 : decode cX10_digit 3 = .ok (.invokevirtual 55, 3) := by decide +kernel
theorem dX10_digit_6 : decode cX10_digit 6 = .ok (.ireturn, 1) := by decide +kernel
theorem dX10_two_0 : decode cX10_two 0 = .ok (.aload_n 0, 1) := by decide +kernel
theorem dX10_two_1 : decode cX10_two 1 = .ok (.invokevirtual 59, 3) := by decide +kernel
theorem dX10_two_4 : decode cX10_two 4 = .ok (.istore_n 1, 1) := by decide +kernel
theorem dX10_two_5 : decode cX10_two 5 = .ok (.iload_n 1, 1) := by decide +kernel
theorem dX10_two_6 : decode cX10_two 6 = .ok (.ifCond .ge 7, 3) := by decide +kernel
theorem dX10_two_9 : decode cX10_two 9 = .ok (.iconst (-1), 1) := by decide +kernel
theorem dX10_two_10 : decode cX10_two 10 = .ok (.goto 7, 3) := by decide +kernel
theorem dX10_two_13 : decode cX10_two 13 = .ok (.aload_n 0, 1) := by decide +kernel
theorem dX10_two_14 : decode cX10_two 14 = .ok (.invokevirtual 59, 3) := by decide +kernel
theorem dX10_two_17 : decode cX10_two 17 = .ok (.istore_n 2, 1) := by decide +kernel
theorem dX10_two_18 : decode cX10_two 18 = .ok (.iload_n 2, 1) := by decide +kernel
theorem dX10_two_19 : decode cX10_two 19 = .ok (.ifCond .ge 7, 3) := by decide +kernel
theorem dX10_two_22 : decode cX10_two 22 = .ok (.iconst (-1), 1) := by decide +kernel
theorem dX10_two_23 : decode cX10_two 23 = .ok (.goto 9, 3) := by decide +kernel
theorem dX10_two_26 : decode cX10_two 26 = .ok (.bipush 10, 2) := by decide +kernel
theorem dX10_two_28 : decode cX10_two 28 = .ok (.iload_n 1, 1) := by decide +kernel
theorem dX10_two_29 : decode cX10_two 29 = .ok (.imul, 1) := by decide +kernel
theorem dX10_two_30 : decode cX10_two 30 = .ok (.iload_n 2, 1) := by decide +kernel
theorem dX10_two_31 : decode cX10_two 31 = .ok (.iadd, 1) := by decide +kernel
theorem dX10_two_32 : decode cX10_two 32 = .ok (.ireturn, 1) := by decide +kernel
set_option maxRecDepth 20000 in
set_option maxHeartbeats 2000000 in
theorem V_X10_two_0 {X : Ctx} (C : C_X10_two X) {k n : Nat} {Q : Pq} {h : Hp} {v0 : Nat}
    (hv : St10 h v0 ∧ (∃ k3 n4, k + k3 ≤ mcX X ∧ n + n4 ≤ msX X ∧ S_X10_digit (lX X) (dtX X) k3 n4 [.ref v0] h (QI fun x5 h2 =>
    ((0 ≤ x5 → St10 h2 v0 ∧ (∃ k8 n9, k + k3 + k8 ≤ mcX X ∧ n + n4 + n9 ≤ msX X ∧ S_X10_digit (lX X) (dtX X) k8 n9 [.ref v0] h2 (QI fun x10 h7 =>
    Wj X (k + k3 + k8) (n + n4 + n9) Q 17 [(1, .int x5)] [.int x10] h7))) ∧
    (¬ 0 ≤ x5 → Wj X (k + k3) (n + n4) Q 17 [(1, .int x5)] [.int (-1)] h2))))) :
    Wj X k n Q 0 [(0, .ref v0)] [] h := by
  refine w_aload_n (pc := 0) C dX10_two_0 rfl ?_
  obtain ⟨f1, hv⟩ := hv
  obtain ⟨k3, n4, hm1, hm2, hv⟩ := hv
  refine w_cV1_0 (pc := 1) C cl_X10_59 lv_X10_digit (by decide) dX10_two_1 (Nat.le_of_ble_eq_true rfl) (c := 10) rfl hm1 hm2 (St10_k f1) (hv.mono (fun v h2 hp => ?_))
  obtain ⟨x5, rfl, hv⟩ := hp
  refine w_istore_n (pc := 4) C dX10_two_4 (by decide) ?_
  refine w_iload_n (pc := 5) C dX10_two_5 rfl ?_
  refine w_if_ge (pc := 6) C (tgt := 13) dX10_two_6 (by decide) ?_
  obtain ⟨hv1, hv2⟩ := hv
  refine ⟨fun c11 => ?_, fun c11 => ?_⟩
  · have hv := hv1 c11
    refine w_aload_n (pc := 13) C dX10_two_13 rfl ?_
    obtain ⟨f6, hv⟩ := hv
    obtain ⟨k8, n9, hm1, hm2, hv⟩ := hv
    refine w_cV1_0 (pc := 14) C cl_X10_59 lv_X10_digit (by decide) dX10_two_14 (Nat.le_of_ble_eq_true rfl) (c := 10) rfl hm1 hm2 (St10_k f6) (hv.mono (fun v h7 hp => ?_))
    obtain ⟨x10, rfl, hv⟩ := hp
    refine w_sub ?_ hv
    exact ⟨rfl, trivial⟩
  · have hv := hv2 c11
    refine w_iconst (pc := 9) C (v := (-1)) dX10_two_9 (by decide) ?_
    refine w_goto (pc := 10) C (tgt := 17) dX10_two_10 (by decide) ?_
    refine w_sub ?_ hv
    exact ⟨rfl, trivial⟩
set_option maxRecDepth 20000 in
set_option maxHeartbeats 2000000 in
theorem V_X10_two_17 {X : Ctx} (C : C_X10_two X) {k n : Nat} {Q : Pq} {h : Hp} {v1 s0 : Int32}
    (hv : ((0 ≤ s0 → Q (some (.int ((10 * v1) + s0))) h) ∧
    (¬ 0 ≤ s0 → Q (some (.int (-1))) h))) :
    Wj X k n Q 17 [(1, .int v1)] [.int s0] h := by
  refine w_istore_n (pc := 17) C dX10_two_17 (by decide) ?_
  refine w_iload_n (pc := 18) C dX10_two_18 rfl ?_
  refine w_if_ge (pc := 19) C (tgt := 26) dX10_two_19 (by decide) ?_
  obtain ⟨hv1, hv2⟩ := hv
  refine ⟨fun c1 => ?_, fun c1 => ?_⟩
  · have hv := hv1 c1
    refine w_bipush (pc := 26) C (v := 10) dX10_two_26 (by decide) ?_
    refine w_iload_n (pc := 28) C dX10_two_28 rfl ?_
    refine w_imul (pc := 29) C dX10_two_29 ?_
    refine w_iload_n (pc := 30) C dX10_two_30 rfl ?_
    refine w_iadd (pc := 31) C dX10_two_31 ?_
    exact w_iret (pc := 32) C dX10_two_32 hv
  · have hv := hv2 c1
    refine w_iconst (pc := 22) C (v := (-1)) dX10_two_22 (by decide) ?_
    refine w_goto (pc := 23) C (tgt := 32) dX10_two_23 (by decide) ?_
    exact w_iret (pc := 32) C dX10_two_32 hv
theorem dX10_readsPlate_0 : decode cX10_readsPlate 0 = .ok (.iconst 0, 1) := by decide +kernel
theorem dX10_readsPlate_1 : decode cX10_readsPlate 1 = .ok (.istore_n 2, 1) := by decide +kernel
theorem dX10_readsPlate_2 : decode cX10_readsPlate 2 = .ok (.iconst 0, 1) := by decide +kernel
theorem dX10_readsPlate_3 : decode cX10_readsPlate 3 = .ok (.istore_n 3, 1) := by decide +kernel
theorem dX10_readsPlate_4 : decode cX10_readsPlate 4 = .ok (.iload_n 3, 1) := by decide +kernel
theorem dX10_readsPlate_5 : decode cX10_readsPlate 5 = .ok (.bipush 6, 2) := by decide +kernel
theorem dX10_readsPlate_7 : decode cX10_readsPlate 7 = .ok (.if_icmp .ne 15, 3) := by decide +kernel
theorem dX10_readsPlate_10 : decode cX10_readsPlate 10 = .ok (.aload_n 0, 1) := by decide +kernel
theorem dX10_readsPlate_11 : decode cX10_readsPlate 11 = .ok (.dup, 1) := by decide +kernel
theorem dX10_readsPlate_12 : decode cX10_readsPlate 12 = .ok (.getfield 36, 3) := by decide +kernel
theorem dX10_readsPlate_15 : decode cX10_readsPlate 15 = .ok (.iconst 1, 1) := by decide +kernel
theorem dX10_readsPlate_16 : decode cX10_readsPlate 16 = .ok (.isub, 1) := by decide +kernel
theorem dX10_readsPlate_17 : decode cX10_readsPlate 17 = .ok (.putfield 36, 3) := by decide +kernel
theorem dX10_readsPlate_20 : decode cX10_readsPlate 20 = .ok (.iconst 0, 1) := by decide +kernel
theorem dX10_readsPlate_21 : decode cX10_readsPlate 21 = .ok (.ireturn, 1) := by decide +kernel
theorem dX10_readsPlate_22 : decode cX10_readsPlate 22 = .ok (.aload_n 0, 1) := by decide +kernel
theorem dX10_readsPlate_23 : decode cX10_readsPlate 23 = .ok (.invokevirtual 122, 3) := by decide +kernel
theorem dX10_readsPlate_26 : decode cX10_readsPlate 26 = .ok (.istore 4, 2) := by decide +kernel
theorem dX10_readsPlate_28 : decode cX10_readsPlate 28 = .ok (.iload 4, 2) := by decide +kernel
theorem dX10_readsPlate_30 : decode cX10_readsPlate 30 = .ok (.ifCond .ge 5, 3) := by decide +kernel
theorem dX10_readsPlate_33 : decode cX10_readsPlate 33 = .ok (.iconst 0, 1) := by decide +kernel
theorem dX10_readsPlate_34 : decode cX10_readsPlate 34 = .ok (.ireturn, 1) := by decide +kernel
theorem dX10_readsPlate_35 : decode cX10_readsPlate 35 = .ok (.iload 4, 2) := by decide +kernel
theorem dX10_readsPlate_37 : decode cX10_readsPlate 37 = .ok (.i2l, 1) := by decide +kernel
theorem dX10_readsPlate_38 : decode cX10_readsPlate 38 = .ok (.ldc2_w 125, 3) := by decide +kernel
theorem dX10_readsPlate_41 : decode cX10_readsPlate 41 = .ok (.ldc2_w 127, 3) := by decide +kernel
theorem dX10_readsPlate_44 : decode cX10_readsPlate 44 = .ok (.invokestatic 29, 3) := by decide +kernel
theorem dX10_readsPlate_47 : decode cX10_readsPlate 47 = .ok (.ifCond .eq 9, 3) := by decide +kernel
theorem dX10_readsPlate_50 : decode cX10_readsPlate 50 = .ok (.iload 4, 2) := by decide +kernel
theorem dX10_readsPlate_52 : decode cX10_readsPlate 52 = .ok (.iload_n 2, 1) := by decide +kernel
theorem dX10_readsPlate_53 : decode cX10_readsPlate 53 = .ok (.if_icmp .gt 15, 3) := by decide +kernel
theorem dX10_readsPlate_56 : decode cX10_readsPlate 56 = .ok (.aload_n 0, 1) := by decide +kernel
theorem dX10_readsPlate_57 : decode cX10_readsPlate 57 = .ok (.dup, 1) := by decide +kernel
theorem dX10_readsPlate_58 : decode cX10_readsPlate 58 = .ok (.getfield 36, 3) := by decide +kernel
theorem dX10_readsPlate_61 : decode cX10_readsPlate 61 = .ok (.iconst 1, 1) := by decide +kernel
theorem dX10_readsPlate_62 : decode cX10_readsPlate 62 = .ok (.isub, 1) := by decide +kernel
theorem dX10_readsPlate_63 : decode cX10_readsPlate 63 = .ok (.putfield 36, 3) := by decide +kernel
theorem dX10_readsPlate_66 : decode cX10_readsPlate 66 = .ok (.iconst 0, 1) := by decide +kernel
theorem dX10_readsPlate_67 : decode cX10_readsPlate 67 = .ok (.ireturn, 1) := by decide +kernel
theorem dX10_readsPlate_68 : decode cX10_readsPlate 68 = .ok (.aload_n 0, 1) := by decide +kernel
theorem dX10_readsPlate_69 : decode cX10_readsPlate 69 = .ok (.getfield 68, 3) := by decide +kernel
theorem dX10_readsPlate_72 : decode cX10_readsPlate 72 = .ok (.iload_n 1, 1) := by decide +kernel
theorem dX10_readsPlate_73 : decode cX10_readsPlate 73 = .ok (.iconst 5, 1) := by decide +kernel
theorem dX10_readsPlate_74 : decode cX10_readsPlate 74 = .ok (.iadd, 1) := by decide +kernel
theorem dX10_readsPlate_75 : decode cX10_readsPlate 75 = .ok (.aload_n 0, 1) := by decide +kernel
theorem dX10_readsPlate_76 : decode cX10_readsPlate 76 = .ok (.getfield 68, 3) := by decide +kernel
theorem dX10_readsPlate_79 : decode cX10_readsPlate 79 = .ok (.iload_n 1, 1) := by decide +kernel
theorem dX10_readsPlate_80 : decode cX10_readsPlate 80 = .ok (.iconst 3, 1) := by decide +kernel
theorem dX10_readsPlate_81 : decode cX10_readsPlate 81 = .ok (.iadd, 1) := by decide +kernel
theorem dX10_readsPlate_82 : decode cX10_readsPlate 82 = .ok (.iaload, 1) := by decide +kernel
theorem dX10_readsPlate_83 : decode cX10_readsPlate 83 = .ok (.iadd, 1) := by decide +kernel
theorem dX10_readsPlate_84 : decode cX10_readsPlate 84 = .ok (.aload_n 0, 1) := by decide +kernel
theorem dX10_readsPlate_85 : decode cX10_readsPlate 85 = .ok (.getfield 68, 3) := by decide +kernel
theorem dX10_readsPlate_88 : decode cX10_readsPlate 88 = .ok (.iload_n 1, 1) := by decide +kernel
theorem dX10_readsPlate_89 : decode cX10_readsPlate 89 = .ok (.iconst 2, 1) := by decide +kernel
theorem dX10_readsPlate_90 : decode cX10_readsPlate 90 = .ok (.iadd, 1) := by decide +kernel
theorem dX10_readsPlate_91 : decode cX10_readsPlate 91 = .ok (.iaload, 1) := by decide +kernel
theorem dX10_readsPlate_92 : decode cX10_readsPlate 92 = .ok (.iastore, 1) := by decide +kernel
theorem dX10_readsPlate_93 : decode cX10_readsPlate 93 = .ok (.aload_n 0, 1) := by decide +kernel
theorem dX10_readsPlate_94 : decode cX10_readsPlate 94 = .ok (.getfield 68, 3) := by decide +kernel
theorem dX10_readsPlate_97 : decode cX10_readsPlate 97 = .ok (.iload_n 1, 1) := by decide +kernel
theorem dX10_readsPlate_98 : decode cX10_readsPlate 98 = .ok (.bipush 23, 2) := by decide +kernel
theorem dX10_readsPlate_100 : decode cX10_readsPlate 100 = .ok (.iadd, 1) := by decide +kernel
theorem dX10_readsPlate_101 : decode cX10_readsPlate 101 = .ok (.aload_n 0, 1) := by decide +kernel
theorem dX10_readsPlate_102 : decode cX10_readsPlate 102 = .ok (.getfield 68, 3) := by decide +kernel
theorem dX10_readsPlate_105 : decode cX10_readsPlate 105 = .ok (.iload_n 1, 1) := by decide +kernel
theorem dX10_readsPlate_106 : decode cX10_readsPlate 106 = .ok (.iconst 3, 1) := by decide +kernel
theorem dX10_readsPlate_107 : decode cX10_readsPlate 107 = .ok (.iadd, 1) := by decide +kernel
theorem dX10_readsPlate_108 : decode cX10_readsPlate 108 = .ok (.iaload, 1) := by decide +kernel
theorem dX10_readsPlate_109 : decode cX10_readsPlate 109 = .ok (.iadd, 1) := by decide +kernel
theorem dX10_readsPlate_110 : decode cX10_readsPlate 110 = .ok (.iload 4, 2) := by decide +kernel
theorem dX10_readsPlate_112 : decode cX10_readsPlate 112 = .ok (.iastore, 1) := by decide +kernel
theorem dX10_readsPlate_113 : decode cX10_readsPlate 113 = .ok (.aload_n 0, 1) := by decide +kernel
theorem dX10_readsPlate_114 : decode cX10_readsPlate 114 = .ok (.getfield 68, 3) := by decide +kernel
theorem dX10_readsPlate_117 : decode cX10_readsPlate 117 = .ok (.iload_n 1, 1) := by decide +kernel
theorem dX10_readsPlate_118 : decode cX10_readsPlate 118 = .ok (.iconst 3, 1) := by decide +kernel
theorem dX10_readsPlate_119 : decode cX10_readsPlate 119 = .ok (.iadd, 1) := by decide +kernel
theorem dX10_readsPlate_120 : decode cX10_readsPlate 120 = .ok (.dup2, 1) := by decide +kernel
theorem dX10_readsPlate_121 : decode cX10_readsPlate 121 = .ok (.iaload, 1) := by decide +kernel
theorem dX10_readsPlate_122 : decode cX10_readsPlate 122 = .ok (.iconst 1, 1) := by decide +kernel
theorem dX10_readsPlate_123 : decode cX10_readsPlate 123 = .ok (.iadd, 1) := by decide +kernel
theorem dX10_readsPlate_124 : decode cX10_readsPlate 124 = .ok (.iastore, 1) := by decide +kernel
theorem dX10_readsPlate_125 : decode cX10_readsPlate 125 = .ok (.iload 4, 2) := by decide +kernel
theorem dX10_readsPlate_127 : decode cX10_readsPlate 127 = .ok (.istore_n 2, 1) := by decide +kernel
theorem dX10_readsPlate_128 : decode cX10_readsPlate 128 = .ok (.iinc 3 1, 3) := by decide +kernel
theorem dX10_readsPlate_131 : decode cX10_readsPlate 131 = .ok (.aload_n 0, 1) := by decide +kernel
theorem dX10_readsPlate_132 : decode cX10_readsPlate 132 = .ok (.bipush 44, 2) := by decide +kernel
theorem dX10_readsPlate_134 : decode cX10_readsPlate 134 = .ok (.invokevirtual 129, 3) := by decide +kernel
theorem dX10_readsPlate_137 : decode cX10_readsPlate 137 = .ok (.ifCond .ne (-133), 3) := by decide +kernel
theorem dX10_readsPlate_140 : decode cX10_readsPlate 140 = .ok (.aload_n 0, 1) := by decide +kernel
theorem dX10_readsPlate_141 : decode cX10_readsPlate 141 = .ok (.getfield 68, 3) := by decide +kernel
theorem dX10_readsPlate_144 : decode cX10_readsPlate 144 = .ok (.iload_n 1, 1) := by decide +kernel
theorem dX10_readsPlate_145 : decode cX10_readsPlate 145 = .ok (.iconst 2, 1) := by decide +kernel
theorem dX10_readsPlate_146 : decode cX10_readsPlate 146 = .ok (.iadd, 1) := by decide +kernel
theorem dX10_readsPlate_147 : decode cX10_readsPlate 147 = .ok (.dup2, 1) := by decide +kernel
theorem dX10_readsPlate_148 : decode cX10_readsPlate 148 = .ok (.iaload, 1) := by decide +kernel
theorem dX10_readsPlate_149 : decode cX10_readsPlate 149 = .ok (.iconst 1, 1) := by decide +kernel
theorem dX10_readsPlate_150 : decode cX10_readsPlate 150 = .ok (.iadd, 1) := by decide +kernel
theorem dX10_readsPlate_151 : decode cX10_readsPlate 151 = .ok (.iastore, 1) := by decide +kernel
theorem dX10_readsPlate_152 : decode cX10_readsPlate 152 = .ok (.iconst 1, 1) := by decide +kernel
theorem dX10_readsPlate_153 : decode cX10_readsPlate 153 = .ok (.ireturn, 1) := by decide +kernel
set_option maxRecDepth 20000 in
set_option maxHeartbeats 2000000 in
theorem V_X10_readsPlate_0 {X : Ctx} (C : C_X10_readsPlate X) {k n : Nat} {Q : Pq} {h : Hp} {v0 : Nat} {v1 : Int32}
    (hv : Wj X k n Q 4 [(0, .ref v0), (1, .int v1), (2, .int 0), (3, .int 0)] [] h) :
    Wj X k n Q 0 [(0, .ref v0), (1, .int v1)] [] h := by
  refine w_iconst (pc := 0) C (v := 0) dX10_readsPlate_0 (by decide) ?_
  refine w_istore_n (pc := 1) C dX10_readsPlate_1 (by decide) ?_
  refine w_iconst (pc := 2) C (v := 0) dX10_readsPlate_2 (by decide) ?_
  refine w_istore_n (pc := 3) C dX10_readsPlate_3 (by decide) ?_
  refine w_sub ?_ hv
  exact ⟨rfl, rfl, rfl, rfl, trivial⟩
set_option maxRecDepth 20000 in
set_option maxHeartbeats 2000000 in
theorem V_X10_readsPlate_4 {X : Ctx} (C : C_X10_readsPlate X) {k n : Nat} {Q : Pq} {h : Hp} {v0 : Nat} {v1 v2 v3 : Int32}
    (hv : ((¬ v3 = 6 → St10 h v0 ∧ (∃ k3 n4, k + k3 ≤ mcX X ∧ n + n4 ≤ msX X ∧ S_X10_two (lX X) (dtX X) k3 n4 [.ref v0] h (QI fun x5 h2 =>
    ((0 ≤ x5 → (((btL (Int32.toInt64 x5) 10 70) = 0 → Wj X (k + k3) (n + n4) Q 56 [(0, .ref v0)] [] h2) ∧
    (¬ (btL (Int32.toInt64 x5) 10 70) = 0 → ((v2 < x5 → St10 h2 v0 ∧ inb (v1 + 3) 732 ∧ inb (v1 + 2) 732 ∧ inb ((v1 + 5) + (gi h2 (v0 + 3) (ix (v1 + 3)))) 732 ∧ inb ((v1 + 23) + (gi (si h2 (v0 + 3) (ix ((v1 + 5) + (gi h2 (v0 + 3) (ix (v1 + 3))))) (gi h2 (v0 + 3) (ix (v1 + 2)))) (v0 + 3) (ix (v1 + 3)))) 732 ∧ S_X10_takes (lX X) (dtX X) 0 0 [.ref v0, .int 44] (si (si (si h2 (v0 + 3) (ix ((v1 + 5) + (gi h2 (v0 + 3) (ix (v1 + 3))))) (gi h2 (v0 + 3) (ix (v1 + 2)))) (v0 + 3) (ix ((v1 + 23) + (gi (si h2 (v0 + 3) (ix ((v1 + 5) + (gi h2 (v0 + 3) (ix (v1 + 3))))) (gi h2 (v0 + 3) (ix (v1 + 2)))) (v0 + 3) (ix (v1 + 3))))) x5) (v0 + 3) (ix (v1 + 3)) ((gi (si (si h2 (v0 + 3) (ix ((v1 + 5) + (gi h2 (v0 + 3) (ix (v1 + 3))))) (gi h2 (v0 + 3) (ix (v1 + 2)))) (v0 + 3) (ix ((v1 + 23) + (gi (si h2 (v0 + 3) (ix ((v1 + 5) + (gi h2 (v0 + 3) (ix (v1 + 3))))) (gi h2 (v0 + 3) (ix (v1 + 2)))) (v0 + 3) (ix (v1 + 3))))) x5) (v0 + 3) (ix (v1 + 3))) + 1)) (QI fun x12 h11 =>
    ((¬ x12 = 0 → Wj X (k + k3) (n + n4) Q 4 [(0, .ref v0), (1, .int v1), (2, .int x5), (3, .int (v3 + Int32.ofInt 1))] [] h11) ∧
    (x12 = 0 → St10 h11 v0 ∧ inb (v1 + 2) 732 ∧ Q (some (.int 1)) (si h11 (v0 + 3) (ix (v1 + 2)) ((gi h11 (v0 + 3) (ix (v1 + 2))) + 1)))))) ∧
    (¬ v2 < x5 → Wj X (k + k3) (n + n4) Q 56 [(0, .ref v0)] [] h2))))) ∧
    (¬ 0 ≤ x5 → Q (some (.int 0)) h2))))) ∧
    (v3 = 6 → St10 h v0 ∧ Q (some (.int 0)) (si h v0 5 ((gi h v0 5) - 1))))) :
    Wj X k n Q 4 [(0, .ref v0), (1, .int v1), (2, .int v2), (3, .int v3)] [] h := by
  refine w_iload_n (pc := 4) C dX10_readsPlate_4 rfl ?_
  refine w_bipush (pc := 5) C (v := 6) dX10_readsPlate_5 (by decide) ?_
  refine w_icmp_ne (pc := 7) C (tgt := 22) dX10_readsPlate_7 (by decide) ?_
  obtain ⟨hv1, hv2⟩ := hv
  refine ⟨fun c20 => ?_, fun c20 => ?_⟩
  · have hv := hv1 c20
    refine w_aload_n (pc := 22) C dX10_readsPlate_22 rfl ?_
    obtain ⟨f1, hv⟩ := hv
    obtain ⟨k3, n4, hm1, hm2, hv⟩ := hv
    refine w_cV1_0 (pc := 23) C cl_X10_122 lv_X10_two (by decide) dX10_readsPlate_23 (Nat.le_of_ble_eq_true rfl) (c := 10) rfl hm1 hm2 (St10_k f1) (hv.mono (fun v h2 hp => ?_))
    obtain ⟨x5, rfl, hv⟩ := hp
    refine w_istore (pc := 26) C dX10_readsPlate_26 (by decide) ?_
    refine w_iload (pc := 28) C dX10_readsPlate_28 rfl ?_
    refine w_if_ge (pc := 30) C (tgt := 35) dX10_readsPlate_30 (by decide) ?_
    obtain ⟨hv1, hv2⟩ := hv
    refine ⟨fun c18 => ?_, fun c18 => ?_⟩
    · have hv := hv1 c18
      refine w_iload (pc := 35) C dX10_readsPlate_35 rfl ?_
      refine w_i2l (pc := 37) C dX10_readsPlate_37 ?_
      refine w_ldc2 (pc := 38) C ctl_X10_125 dX10_readsPlate_38 ?_
      refine w_ldc2 (pc := 41) C ctl_X10_127 dX10_readsPlate_41 ?_
      refine w_cS0_3 (pc := 44) C cl_X10_29 ls_X10_in (by decide) dX10_readsPlate_44 (Nat.le_of_ble_eq_true rfl) ((sf_X10_in (h := h2) ).mono (fun v h9 hp => ?_))
      obtain ⟨e1, e2⟩ := hp
      rw [e1, e2]
      refine w_if_eq (pc := 47) C (tgt := 56) dX10_readsPlate_47 (by decide) ?_
      obtain ⟨hv1, hv2⟩ := hv
      refine ⟨fun c17 => ?_, fun c17 => ?_⟩
      · have hv := hv1 c17
        refine w_sub ?_ hv
        exact ⟨rfl, trivial⟩
      · have hv := hv2 c17
        refine w_iload (pc := 50) C dX10_readsPlate_50 rfl ?_
        refine w_iload_n (pc := 52) C dX10_readsPlate_52 rfl ?_
        refine w_icmp_gt (pc := 53) C (tgt := 68) dX10_readsPlate_53 (by decide) ?_
        obtain ⟨hv1, hv2⟩ := hv
        refine ⟨fun c16 => ?_, fun c16 => ?_⟩
        · have hv := hv1 c16
          refine w_aload_n (pc := 68) C dX10_readsPlate_68 rfl ?_
          obtain ⟨f6, hv⟩ := hv
          refine w_getR (pc := 69) C fl_X10_68 rfl dX10_readsPlate_69 (St10_k f6) (St10_r7 f6) ?_
          refine w_iload_n (pc := 72) C dX10_readsPlate_72 rfl ?_
          refine w_iconst (pc := 73) C (v := 5) dX10_readsPlate_73 (by decide) ?_
          refine w_iadd (pc := 74) C dX10_readsPlate_74 ?_
          refine w_aload_n (pc := 75) C dX10_readsPlate_75 rfl ?_
          refine w_getR (pc := 76) C fl_X10_68 rfl dX10_readsPlate_76 (St10_k f6) (St10_r7 f6) ?_
          refine w_iload_n (pc := 79) C dX10_readsPlate_79 rfl ?_
          refine w_iconst (pc := 80) C (v := 3) dX10_readsPlate_80 (by decide) ?_
          refine w_iadd (pc := 81) C dX10_readsPlate_81 ?_
          obtain ⟨f7, hv⟩ := hv
          refine w_iald (pc := 82) C dX10_readsPlate_82 (St10_k7 f6) (inbl (St10_l7 f6) f7) ?_
          refine w_iadd (pc := 83) C dX10_readsPlate_83 ?_
          refine w_aload_n (pc := 84) C dX10_readsPlate_84 rfl ?_
          refine w_getR (pc := 85) C fl_X10_68 rfl dX10_readsPlate_85 (St10_k f6) (St10_r7 f6) ?_
          refine w_iload_n (pc := 88) C dX10_readsPlate_88 rfl ?_
          refine w_iconst (pc := 89) C (v := 2) dX10_readsPlate_89 (by decide) ?_
          refine w_iadd (pc := 90) C dX10_readsPlate_90 ?_
          obtain ⟨f8, hv⟩ := hv
          refine w_iald (pc := 91) C dX10_readsPlate_91 (St10_k7 f6) (inbl (St10_l7 f6) f8) ?_
          obtain ⟨f9, hv⟩ := hv
          refine w_iast (pc := 92) C dX10_readsPlate_92 (St10_k7 f6) (inbl (St10_l7 f6) f9) ?_
          refine w_aload_n (pc := 93) C dX10_readsPlate_93 rfl ?_
          refine w_getR (pc := 94) C fl_X10_68 rfl dX10_readsPlate_94 (St10_k f6) (St10_r7 f6) ?_
          refine w_iload_n (pc := 97) C dX10_readsPlate_97 rfl ?_
          refine w_bipush (pc := 98) C (v := 23) dX10_readsPlate_98 (by decide) ?_
          refine w_iadd (pc := 100) C dX10_readsPlate_100 ?_
          refine w_aload_n (pc := 101) C dX10_readsPlate_101 rfl ?_
          refine w_getR (pc := 102) C fl_X10_68 rfl dX10_readsPlate_102 (St10_k f6) (St10_r7 f6) ?_
          refine w_iload_n (pc := 105) C dX10_readsPlate_105 rfl ?_
          refine w_iconst (pc := 106) C (v := 3) dX10_readsPlate_106 (by decide) ?_
          refine w_iadd (pc := 107) C dX10_readsPlate_107 ?_
          refine w_iald (pc := 108) C dX10_readsPlate_108 (St10_k7 f6) (inbl (St10_l7 f6) f7) ?_
          refine w_iadd (pc := 109) C dX10_readsPlate_109 ?_
          refine w_iload (pc := 110) C dX10_readsPlate_110 rfl ?_
          obtain ⟨f10, hv⟩ := hv
          refine w_iast (pc := 112) C dX10_readsPlate_112 (St10_k7 f6) (inbl (St10_l7 f6) f10) ?_
          refine w_aload_n (pc := 113) C dX10_readsPlate_113 rfl ?_
          refine w_getR (pc := 114) C fl_X10_68 rfl dX10_readsPlate_114 (St10_k f6) (St10_r7 f6) ?_
          refine w_iload_n (pc := 117) C dX10_readsPlate_117 rfl ?_
          refine w_iconst (pc := 118) C (v := 3) dX10_readsPlate_118 (by decide) ?_
          refine w_iadd (pc := 119) C dX10_readsPlate_119 ?_
          refine w_dup2 (pc := 120) C dX10_readsPlate_120 rfl rfl ?_
          refine w_iald (pc := 121) C dX10_readsPlate_121 (St10_k7 f6) (inbl (St10_l7 f6) f7) ?_
          refine w_iconst (pc := 122) C (v := 1) dX10_readsPlate_122 (by decide) ?_
          refine w_iadd (pc := 123) C dX10_readsPlate_123 ?_
          refine w_iast (pc := 124) C dX10_readsPlate_124 (St10_k7 f6) (inbl (St10_l7 f6) f7) ?_
          refine w_iload (pc := 125) C dX10_readsPlate_125 rfl ?_
          refine w_istore_n (pc := 127) C dX10_readsPlate_127 (by decide) ?_
          refine w_iinc (pc := 128) C dX10_readsPlate_128 rfl (by decide) ?_
          refine w_aload_n (pc := 131) C dX10_readsPlate_131 rfl ?_
          refine w_bipush (pc := 132) C (v := 44) dX10_readsPlate_132 (by decide) ?_
          refine w_cV0_1 (pc := 134) C cl_X10_129 lv_X10_takes (by decide) dX10_readsPlate_134 (Nat.le_of_ble_eq_true rfl) (c := 10) rfl (St10_k f6) (hv.mono (fun v h11 hp => ?_))
          obtain ⟨x12, rfl, hv⟩ := hp
          refine w_if_ne (pc := 137) C (tgt := 4) dX10_readsPlate_137 (by decide) ?_
          obtain ⟨hv1, hv2⟩ := hv
          refine ⟨fun c15 => ?_, fun c15 => ?_⟩
          · have hv := hv1 c15
            refine w_sub ?_ hv
            exact ⟨rfl, rfl, rfl, rfl, trivial⟩
          · have hv := hv2 c15
            refine w_aload_n (pc := 140) C dX10_readsPlate_140 rfl ?_
            obtain ⟨f13, hv⟩ := hv
            refine w_getR (pc := 141) C fl_X10_68 rfl dX10_readsPlate_141 (St10_k f13) (St10_r7 f13) ?_
            refine w_iload_n (pc := 144) C dX10_readsPlate_144 rfl ?_
            refine w_iconst (pc := 145) C (v := 2) dX10_readsPlate_145 (by decide) ?_
            refine w_iadd (pc := 146) C dX10_readsPlate_146 ?_
            refine w_dup2 (pc := 147) C dX10_readsPlate_147 rfl rfl ?_
            obtain ⟨f14, hv⟩ := hv
            refine w_iald (pc := 148) C dX10_readsPlate_148 (St10_k7 f13) (inbl (St10_l7 f13) f14) ?_
            refine w_iconst (pc := 149) C (v := 1) dX10_readsPlate_149 (by decide) ?_
            refine w_iadd (pc := 150) C dX10_readsPlate_150 ?_
            refine w_iast (pc := 151) C dX10_readsPlate_151 (St10_k7 f13) (inbl (St10_l7 f13) f14) ?_
            refine w_iconst (pc := 152) C (v := 1) dX10_readsPlate_152 (by decide) ?_
            exact w_zret (pc := 153) C dX10_readsPlate_153 (by decide) hv
        · have hv := hv2 c16
          refine w_sub ?_ hv
          exact ⟨rfl, trivial⟩
    · have hv := hv2 c18
      refine w_iconst (pc := 33) C (v := 0) dX10_readsPlate_33 (by decide) ?_
      exact w_zret (pc := 34) C dX10_readsPlate_34 (by decide) hv
  · have hv := hv2 c20
    refine w_aload_n (pc := 10) C dX10_readsPlate_10 rfl ?_
    refine w_dup (pc := 11) C dX10_readsPlate_11 rfl ?_
    obtain ⟨f19, hv⟩ := hv
    refine w_getI (pc := 12) C fl_X10_36 rfl dX10_readsPlate_12 (St10_k f19) ?_
    refine w_iconst (pc := 15) C (v := 1) dX10_readsPlate_15 (by decide) ?_
    refine w_isub (pc := 16) C dX10_readsPlate_16 ?_
    refine w_putI (pc := 17) C fl_X10_36 rfl rfl dX10_readsPlate_17 (St10_k f19) ?_
    refine w_iconst (pc := 20) C (v := 0) dX10_readsPlate_20 (by decide) ?_
    exact w_zret (pc := 21) C dX10_readsPlate_21 (by decide) hv
set_option maxRecDepth 20000 in
set_option maxHeartbeats 2000000 in
theorem V_X10_readsPlate_56 {X : Ctx} (C : C_X10_readsPlate X) {k n : Nat} {Q : Pq} {h : Hp} {v0 : Nat}
    (hv : St10 h v0 ∧ Q (some (.int 0)) (si h v0 5 ((gi h v0 5) - 1))) :
    Wj X k n Q 56 [(0, .ref v0)] [] h := by
  refine w_aload_n (pc := 56) C dX10_readsPlate_56 rfl ?_
  refine w_dup (pc := 57) C dX10_readsPlate_57 rfl ?_
  obtain ⟨f1, hv⟩ := hv
  refine w_getI (pc := 58) C fl_X10_36 rfl dX10_readsPlate_58 (St10_k f1) ?_
  refine w_iconst (pc := 61) C (v := 1) dX10_readsPlate_61 (by decide) ?_
  refine w_isub (pc := 62) C dX10_readsPlate_62 ?_
  refine w_putI (pc := 63) C fl_X10_36 rfl rfl dX10_readsPlate_63 (St10_k f1) ?_
  refine w_iconst (pc := 66) C (v := 0) dX10_readsPlate_66 (by decide) ?_
  exact w_zret (pc := 67) C dX10_readsPlate_67 (by decide) hv
theorem dX10_plates_0 : decode cX10_plates 0 = .ok (.aload_n 0, 1) := by decide +kernel
theorem dX10_plates_1 : decode cX10_plates 1 = .ok (.iconst 0, 1) := by decide +kernel
theorem dX10_plates_2 : decode cX10_plates 2 = .ok (.putfield 1, 3) := by decide +kernel
theorem dX10_plates_5 : decode cX10_plates 5 = .ok (.aload_n 0, 1) := by decide +kernel
theorem dX10_plates_6 : decode cX10_plates 6 = .ok (.invokevirtual 133, 3) := by decide +kernel
theorem dX10_plates_9 : decode cX10_plates 9 = .ok (.aload_n 0, 1) := by decide +kernel
theorem dX10_plates_10 : decode cX10_plates 10 = .ok (.iconst 0, 1) := by decide +kernel
theorem dX10_plates_11 : decode cX10_plates 11 = .ok (.iconst 4, 1) := by decide +kernel
theorem dX10_plates_12 : decode cX10_plates 12 = .ok (.invokevirtual 118, 3) := by decide +kernel
theorem dX10_plates_15 : decode cX10_plates 15 = .ok (.sipush 244, 3) := by decide +kernel
theorem dX10_plates_18 : decode cX10_plates 18 = .ok (.istore_n 1, 1) := by decide +kernel
theorem dX10_plates_19 : decode cX10_plates 19 = .ok (.aload_n 0, 1) := by decide +kernel
theorem dX10_plates_20 : decode cX10_plates 20 = .ok (.getfield 68, 3) := by decide +kernel
theorem dX10_plates_23 : decode cX10_plates 23 = .ok (.iload_n 1, 1) := by decide +kernel
theorem dX10_plates_24 : decode cX10_plates 24 = .ok (.iconst 2, 1) := by decide +kernel
theorem dX10_plates_25 : decode cX10_plates 25 = .ok (.iadd, 1) := by decide +kernel
theorem dX10_plates_26 : decode cX10_plates 26 = .ok (.iconst 0, 1) := by decide +kernel
theorem dX10_plates_27 : decode cX10_plates 27 = .ok (.iastore, 1) := by decide +kernel
theorem dX10_plates_28 : decode cX10_plates 28 = .ok (.aload_n 0, 1) := by decide +kernel
theorem dX10_plates_29 : decode cX10_plates 29 = .ok (.getfield 68, 3) := by decide +kernel
theorem dX10_plates_32 : decode cX10_plates 32 = .ok (.iload_n 1, 1) := by decide +kernel
theorem dX10_plates_33 : decode cX10_plates 33 = .ok (.iconst 3, 1) := by decide +kernel
theorem dX10_plates_34 : decode cX10_plates 34 = .ok (.iadd, 1) := by decide +kernel
theorem dX10_plates_35 : decode cX10_plates 35 = .ok (.iconst 0, 1) := by decide +kernel
theorem dX10_plates_36 : decode cX10_plates 36 = .ok (.iastore, 1) := by decide +kernel
theorem dX10_plates_37 : decode cX10_plates 37 = .ok (.aload_n 0, 1) := by decide +kernel
theorem dX10_plates_38 : decode cX10_plates 38 = .ok (.iload_n 1, 1) := by decide +kernel
theorem dX10_plates_39 : decode cX10_plates 39 = .ok (.invokevirtual 136, 3) := by decide +kernel
theorem dX10_plates_42 : decode cX10_plates 42 = .ok (.ifCond .ne 10, 3) := by decide +kernel
theorem dX10_plates_45 : decode cX10_plates 45 = .ok (.iconst (-1), 1) := by decide +kernel
theorem dX10_plates_46 : decode cX10_plates 46 = .ok (.aload_n 0, 1) := by decide +kernel
theorem dX10_plates_47 : decode cX10_plates 47 = .ok (.getfield 36, 3) := by decide +kernel
theorem dX10_plates_50 : decode cX10_plates 50 = .ok (.isub, 1) := by decide +kernel
theorem dX10_plates_51 : decode cX10_plates 51 = .ok (.ireturn, 1) := by decide +kernel
theorem dX10_plates_52 : decode cX10_plates 52 = .ok (.aload_n 0, 1) := by decide +kernel
theorem dX10_plates_53 : decode cX10_plates 53 = .ok (.getfield 36, 3) := by decide +kernel
theorem dX10_plates_56 : decode cX10_plates 56 = .ok (.aload_n 0, 1) := by decide +kernel
theorem dX10_plates_57 : decode cX10_plates 57 = .ok (.getfield 33, 3) := by decide +kernel
theorem dX10_plates_60 : decode cX10_plates 60 = .ok (.if_icmp .ge 39, 3) := by decide +kernel
theorem dX10_plates_63 : decode cX10_plates 63 = .ok (.aload_n 0, 1) := by decide +kernel
theorem dX10_plates_64 : decode cX10_plates 64 = .ok (.getfield 68, 3) := by decide +kernel
theorem dX10_plates_67 : decode cX10_plates 67 = .ok (.iload_n 1, 1) := by decide +kernel
theorem dX10_plates_68 : decode cX10_plates 68 = .ok (.iconst 2, 1) := by decide +kernel
theorem dX10_plates_69 : decode cX10_plates 69 = .ok (.iadd, 1) := by decide +kernel
theorem dX10_plates_70 : decode cX10_plates 70 = .ok (.iaload, 1) := by decide +kernel
theorem dX10_plates_71 : decode cX10_plates 71 = .ok (.iconst 3, 1) := by decide +kernel
theorem dX10_plates_72 : decode cX10_plates 72 = .ok (.if_icmp .eq 20, 3) := by decide +kernel
theorem dX10_plates_75 : decode cX10_plates 75 = .ok (.aload_n 0, 1) := by decide +kernel
theorem dX10_plates_76 : decode cX10_plates 76 = .ok (.bipush 59, 2) := by decide +kernel
theorem dX10_plates_78 : decode cX10_plates 78 = .ok (.invokevirtual 129, 3) := by decide +kernel
theorem dX10_plates_81 : decode cX10_plates 81 = .ok (.ifCond .eq 11, 3) := by decide +kernel
theorem dX10_plates_84 : decode cX10_plates 84 = .ok (.aload_n 0, 1) := by decide +kernel
theorem dX10_plates_85 : decode cX10_plates 85 = .ok (.iload_n 1, 1) := by decide +kernel
theorem dX10_plates_86 : decode cX10_plates 86 = .ok (.invokevirtual 136, 3) := by decide +kernel
theorem dX10_plates_89 : decode cX10_plates 89 = .ok (.ifCond .ne (-37), 3) := by decide +kernel
theorem dX10_plates_92 : decode cX10_plates 92 = .ok (.iconst (-1), 1) := by decide +kernel
theorem dX10_plates_93 : decode cX10_plates 93 = .ok (.aload_n 0, 1) := by decide +kernel
theorem dX10_plates_94 : decode cX10_plates 94 = .ok (.getfield 36, 3) := by decide +kernel
theorem dX10_plates_97 : decode cX10_plates 97 = .ok (.isub, 1) := by decide +kernel
theorem dX10_plates_98 : decode cX10_plates 98 = .ok (.ireturn, 1) := by decide +kernel
theorem dX10_plates_99 : decode cX10_plates 99 = .ok (.aload_n 0, 1) := by decide +kernel
theorem dX10_plates_100 : decode cX10_plates 100 = .ok (.aload_n 0, 1) := by decide +kernel
theorem dX10_plates_101 : decode cX10_plates 101 = .ok (.iconst 4, 1) := by decide +kernel
theorem dX10_plates_102 : decode cX10_plates 102 = .ok (.invokevirtual 140, 3) := by decide +kernel
theorem dX10_plates_105 : decode cX10_plates 105 = .ok (.invokevirtual 144, 3) := by decide +kernel
theorem dX10_plates_108 : decode cX10_plates 108 = .ok (.ireturn, 1) := by decide +kernel
set_option maxRecDepth 20000 in
set_option maxHeartbeats 2000000 in
theorem V_X10_plates_0 {X : Ctx} (C : C_X10_plates X) {k n : Nat} {Q : Pq} {h : Hp} {v0 : Nat}
    (hv : St10 h v0 ∧ S_X10_copies (lX X) (dtX X) 0 0 [.ref v0, .int 0, .int 4] (si (si (si (si h v0 0 0) v0 6 (gi (si h v0 0 0) v0 4)) v0 4 0) v0 5 0) (QV fun h2 =>
    St10 h2 v0 ∧ inb (244 + 2) 732 ∧ inb (244 + 3) 732 ∧ (∃ k7 n8, k + k7 ≤ mcX X ∧ n + n8 ≤ msX X ∧ S_X10_readsPlate (lX X) (dtX X) k7 n8 [.ref v0, .int 244] (si (si h2 (v0 + 3) (ix (244 + 2)) 0) (v0 + 3) (ix (244 + 3)) 0) (QI fun x9 h6 =>
    ((¬ x9 = 0 → Wj X (k + k7) (n + n8) Q 52 [(0, .ref v0), (1, .int 244)] [] h6) ∧
    (x9 = 0 → St10 h6 v0 ∧ Q (some (.int ((-1) - (gi h6 v0 5)))) h6)))))) :
    Wj X k n Q 0 [(0, .ref v0)] [] h := by
  refine w_aload_n (pc := 0) C dX10_plates_0 rfl ?_
  refine w_iconst (pc := 1) C (v := 0) dX10_plates_1 (by decide) ?_
  obtain ⟨f1, hv⟩ := hv
  refine w_putI (pc := 2) C fl_X10_1 rfl rfl dX10_plates_2 (St10_k f1) ?_
  refine w_aload_n (pc := 5) C dX10_plates_5 rfl ?_
  refine w_cV0_0 (pc := 6) C cl_X10_133 lv_X10_reads (by decide) dX10_plates_6 (Nat.le_of_ble_eq_true rfl) (c := 10) rfl (St10_k f1) ((sf_X10_reads (h := (si h v0 0 0)) f1).mono (fun v h9 hp => ?_))
  obtain ⟨e1, e2⟩ := hp
  rw [e1, e2]
  refine w_aload_n (pc := 9) C dX10_plates_9 rfl ?_
  refine w_iconst (pc := 10) C (v := 0) dX10_plates_10 (by decide) ?_
  refine w_iconst (pc := 11) C (v := 4) dX10_plates_11 (by decide) ?_
  refine w_cV0_2 (pc := 12) C cl_X10_118 lv_X10_copies (by decide) dX10_plates_12 (Nat.le_of_ble_eq_true rfl) (c := 10) rfl (St10_k f1) (hv.mono (fun v h2 hp => ?_))
  obtain ⟨rfl, hv⟩ := hp
  refine w_sipush (pc := 15) C (v := 244) dX10_plates_15 (by decide) ?_
  refine w_istore_n (pc := 18) C dX10_plates_18 (by decide) ?_
  refine w_aload_n (pc := 19) C dX10_plates_19 rfl ?_
  obtain ⟨f3, hv⟩ := hv
  refine w_getR (pc := 20) C fl_X10_68 rfl dX10_plates_20 (St10_k f3) (St10_r7 f3) ?_
  refine w_iload_n (pc := 23) C dX10_plates_23 rfl ?_
  refine w_iconst (pc := 24) C (v := 2) dX10_plates_24 (by decide) ?_
  refine w_iadd (pc := 25) C dX10_plates_25 ?_
  refine w_iconst (pc := 26) C (v := 0) dX10_plates_26 (by decide) ?_
  obtain ⟨f4, hv⟩ := hv
  refine w_iast (pc := 27) C dX10_plates_27 (St10_k7 f3) (inbl (St10_l7 f3) f4) ?_
  refine w_aload_n (pc := 28) C dX10_plates_28 rfl ?_
  refine w_getR (pc := 29) C fl_X10_68 rfl dX10_plates_29 (St10_k f3) (St10_r7 f3) ?_
  refine w_iload_n (pc := 32) C dX10_plates_32 rfl ?_
  refine w_iconst (pc := 33) C (v := 3) dX10_plates_33 (by decide) ?_
  refine w_iadd (pc := 34) C dX10_plates_34 ?_
  refine w_iconst (pc := 35) C (v := 0) dX10_plates_35 (by decide) ?_
  obtain ⟨f5, hv⟩ := hv
  refine w_iast (pc := 36) C dX10_plates_36 (St10_k7 f3) (inbl (St10_l7 f3) f5) ?_
  refine w_aload_n (pc := 37) C dX10_plates_37 rfl ?_
  refine w_iload_n (pc := 38) C dX10_plates_38 rfl ?_
  obtain ⟨k7, n8, hm1, hm2, hv⟩ := hv
  refine w_cV1_1 (pc := 39) C cl_X10_136 lv_X10_readsPlate (by decide) dX10_plates_39 (Nat.le_of_ble_eq_true rfl) (c := 10) rfl hm1 hm2 (St10_k f3) (hv.mono (fun v h6 hp => ?_))
  obtain ⟨x9, rfl, hv⟩ := hp
  refine w_if_ne (pc := 42) C (tgt := 52) dX10_plates_42 (by decide) ?_
  obtain ⟨hv1, hv2⟩ := hv
  refine ⟨fun c11 => ?_, fun c11 => ?_⟩
  · have hv := hv1 c11
    refine w_sub ?_ hv
    exact ⟨rfl, rfl, trivial⟩
  · have hv := hv2 c11
    refine w_iconst (pc := 45) C (v := (-1)) dX10_plates_45 (by decide) ?_
    refine w_aload_n (pc := 46) C dX10_plates_46 rfl ?_
    obtain ⟨f10, hv⟩ := hv
    refine w_getI (pc := 47) C fl_X10_36 rfl dX10_plates_47 (St10_k f10) ?_
    refine w_isub (pc := 50) C dX10_plates_50 ?_
    exact w_iret (pc := 51) C dX10_plates_51 hv
set_option maxRecDepth 20000 in
set_option maxHeartbeats 2000000 in
theorem V_X10_plates_52 {X : Ctx} (C : C_X10_plates X) {k n : Nat} {Q : Pq} {h : Hp} {v0 : Nat} {v1 : Int32}
    (hv : St10 h v0 ∧ (((gi h v0 6) ≤ (gi h v0 5) → inb (4 * 61 + 3) 732 ∧ S_X10_putsRead (lX X) (dtX X) 0 0 [.ref v0, .int (gi h (v0 + 3) (ix (4 * 61 + 3)))] h (QI fun x4 h3 =>
    Q (some (.int x4)) h3)) ∧
    (¬ (gi h v0 6) ≤ (gi h v0 5) → inb (v1 + 2) 732 ∧ (((gi h (v0 + 3) (ix (v1 + 2))) = 3 → Q (some (.int ((-1) - (gi h v0 5)))) h) ∧
    (¬ (gi h (v0 + 3) (ix (v1 + 2))) = 3 → S_X10_takes (lX X) (dtX X) 0 0 [.ref v0, .int 59] h (QI fun x7 h6 =>
    ((x7 = 0 → St10 h6 v0 ∧ Q (some (.int ((-1) - (gi h6 v0 5)))) h6) ∧
    (¬ x7 = 0 → St10 h6 v0 ∧ (∃ k11 n12, k + k11 ≤ mcX X ∧ n + n12 ≤ msX X ∧ S_X10_readsPlate (lX X) (dtX X) k11 n12 [.ref v0, .int v1] h6 (QI fun x13 h10 =>
    ((¬ x13 = 0 → Wj X (k + k11) (n + n12) Q 52 [(0, .ref v0), (1, .int v1)] [] h10) ∧
    (x13 = 0 → St10 h10 v0 ∧ Q (some (.int ((-1) - (gi h10 v0 5)))) h10)))))))))))) :
    Wj X k n Q 52 [(0, .ref v0), (1, .int v1)] [] h := by
  refine w_aload_n (pc := 52) C dX10_plates_52 rfl ?_
  obtain ⟨f1, hv⟩ := hv
  refine w_getI (pc := 53) C fl_X10_36 rfl dX10_plates_53 (St10_k f1) ?_
  refine w_aload_n (pc := 56) C dX10_plates_56 rfl ?_
  refine w_getI (pc := 57) C fl_X10_33 rfl dX10_plates_57 (St10_k f1) ?_
  refine w_icmp_ge (pc := 60) C (tgt := 99) dX10_plates_60 (by decide) ?_
  obtain ⟨hv1, hv2⟩ := hv
  refine ⟨fun c18 => ?_, fun c18 => ?_⟩
  · have hv := hv1 c18
    refine w_aload_n (pc := 99) C dX10_plates_99 rfl ?_
    refine w_aload_n (pc := 100) C dX10_plates_100 rfl ?_
    refine w_iconst (pc := 101) C (v := 4) dX10_plates_101 (by decide) ?_
    obtain ⟨f2, hv⟩ := hv
    refine w_cV0_1 (pc := 102) C cl_X10_140 lv_X10_circlesOf (by decide) dX10_plates_102 (Nat.le_of_ble_eq_true rfl) (c := 10) rfl (St10_k f1) ((sf_X10_circlesOf (h := h) f1 f2).mono (fun v h9 hp => ?_))
    obtain ⟨e1, e2⟩ := hp
    rw [e1, e2]
    refine w_cV0_1 (pc := 105) C cl_X10_144 lv_X10_putsRead (by decide) dX10_plates_105 (Nat.le_of_ble_eq_true rfl) (c := 10) rfl (St10_k f1) (hv.mono (fun v h3 hp => ?_))
    obtain ⟨x4, rfl, hv⟩ := hp
    exact w_iret (pc := 108) C dX10_plates_108 hv
  · have hv := hv2 c18
    refine w_aload_n (pc := 63) C dX10_plates_63 rfl ?_
    refine w_getR (pc := 64) C fl_X10_68 rfl dX10_plates_64 (St10_k f1) (St10_r7 f1) ?_
    refine w_iload_n (pc := 67) C dX10_plates_67 rfl ?_
    refine w_iconst (pc := 68) C (v := 2) dX10_plates_68 (by decide) ?_
    refine w_iadd (pc := 69) C dX10_plates_69 ?_
    obtain ⟨f5, hv⟩ := hv
    refine w_iald (pc := 70) C dX10_plates_70 (St10_k7 f1) (inbl (St10_l7 f1) f5) ?_
    refine w_iconst (pc := 71) C (v := 3) dX10_plates_71 (by decide) ?_
    refine w_icmp_eq (pc := 72) C (tgt := 92) dX10_plates_72 (by decide) ?_
    obtain ⟨hv1, hv2⟩ := hv
    refine ⟨fun c17 => ?_, fun c17 => ?_⟩
    · have hv := hv1 c17
      refine w_iconst (pc := 92) C (v := (-1)) dX10_plates_92 (by decide) ?_
      refine w_aload_n (pc := 93) C dX10_plates_93 rfl ?_
      refine w_getI (pc := 94) C fl_X10_36 rfl dX10_plates_94 (St10_k f1) ?_
      refine w_isub (pc := 97) C dX10_plates_97 ?_
      exact w_iret (pc := 98) C dX10_plates_98 hv
    · have hv := hv2 c17
      refine w_aload_n (pc := 75) C dX10_plates_75 rfl ?_
      refine w_bipush (pc := 76) C (v := 59) dX10_plates_76 (by decide) ?_
      refine w_cV0_1 (pc := 78) C cl_X10_129 lv_X10_takes (by decide) dX10_plates_78 (Nat.le_of_ble_eq_true rfl) (c := 10) rfl (St10_k f1) (hv.mono (fun v h6 hp => ?_))
      obtain ⟨x7, rfl, hv⟩ := hp
      refine w_if_eq (pc := 81) C (tgt := 92) dX10_plates_81 (by decide) ?_
      obtain ⟨hv1, hv2⟩ := hv
      refine ⟨fun c16 => ?_, fun c16 => ?_⟩
      · have hv := hv1 c16
        refine w_iconst (pc := 92) C (v := (-1)) dX10_plates_92 (by decide) ?_
        refine w_aload_n (pc := 93) C dX10_plates_93 rfl ?_
        obtain ⟨f8, hv⟩ := hv
        refine w_getI (pc := 94) C fl_X10_36 rfl dX10_plates_94 (St10_k f8) ?_
        refine w_isub (pc := 97) C dX10_plates_97 ?_
        exact w_iret (pc := 98) C dX10_plates_98 hv
      · have hv := hv2 c16
        refine w_aload_n (pc := 84) C dX10_plates_84 rfl ?_
        refine w_iload_n (pc := 85) C dX10_plates_85 rfl ?_
        obtain ⟨f9, hv⟩ := hv
        obtain ⟨k11, n12, hm1, hm2, hv⟩ := hv
        refine w_cV1_1 (pc := 86) C cl_X10_136 lv_X10_readsPlate (by decide) dX10_plates_86 (Nat.le_of_ble_eq_true rfl) (c := 10) rfl hm1 hm2 (St10_k f9) (hv.mono (fun v h10 hp => ?_))
        obtain ⟨x13, rfl, hv⟩ := hp
        refine w_if_ne (pc := 89) C (tgt := 52) dX10_plates_89 (by decide) ?_
        obtain ⟨hv1, hv2⟩ := hv
        refine ⟨fun c15 => ?_, fun c15 => ?_⟩
        · have hv := hv1 c15
          refine w_sub ?_ hv
          exact ⟨rfl, rfl, trivial⟩
        · have hv := hv2 c15
          refine w_iconst (pc := 92) C (v := (-1)) dX10_plates_92 (by decide) ?_
          refine w_aload_n (pc := 93) C dX10_plates_93 rfl ?_
          obtain ⟨f14, hv⟩ := hv
          refine w_getI (pc := 94) C fl_X10_36 rfl dX10_plates_94 (St10_k f14) ?_
          refine w_isub (pc := 97) C dX10_plates_97 ?_
          exact w_iret (pc := 98) C dX10_plates_98 hv
theorem dX10_gears_0 : decode cX10_gears 0 = .ok (.aload_n 0, 1) := by decide +kernel
theorem dX10_gears_1 : decode cX10_gears 1 = .ok (.iconst 0, 1) := by decide +kernel
theorem dX10_gears_2 : decode cX10_gears 2 = .ok (.putfield 1, 3) := by decide +kernel
theorem dX10_gears_5 : decode cX10_gears 5 = .ok (.aload_n 0, 1) := by decide +kernel
theorem dX10_gears_6 : decode cX10_gears 6 = .ok (.invokevirtual 133, 3) := by decide +kernel
theorem dX10_gears_9 : decode cX10_gears 9 = .ok (.aload_n 0, 1) := by decide +kernel
theorem dX10_gears_10 : decode cX10_gears 10 = .ok (.iconst 0, 1) := by decide +kernel
theorem dX10_gears_11 : decode cX10_gears 11 = .ok (.iconst 4, 1) := by decide +kernel
theorem dX10_gears_12 : decode cX10_gears 12 = .ok (.invokevirtual 118, 3) := by decide +kernel
theorem dX10_gears_15 : decode cX10_gears 15 = .ok (.sipush 244, 3) := by decide +kernel
theorem dX10_gears_18 : decode cX10_gears 18 = .ok (.istore_n 1, 1) := by decide +kernel
theorem dX10_gears_19 : decode cX10_gears 19 = .ok (.aload_n 0, 1) := by decide +kernel
theorem dX10_gears_20 : decode cX10_gears 20 = .ok (.getfield 68, 3) := by decide +kernel
theorem dX10_gears_23 : decode cX10_gears 23 = .ok (.iload_n 1, 1) := by decide +kernel
theorem dX10_gears_24 : decode cX10_gears 24 = .ok (.iconst 4, 1) := by decide +kernel
theorem dX10_gears_25 : decode cX10_gears 25 = .ok (.iadd, 1) := by decide +kernel
theorem dX10_gears_26 : decode cX10_gears 26 = .ok (.iconst 0, 1) := by decide +kernel
theorem dX10_gears_27 : decode cX10_gears 27 = .ok (.iastore, 1) := by decide +kernel
theorem dX10_gears_28 : decode cX10_gears 28 = .ok (.aload_n 0, 1) := by decide +kernel
theorem dX10_gears_29 : decode cX10_gears 29 = .ok (.getfield 33, 3) := by decide +kernel
theorem dX10_gears_32 : decode cX10_gears 32 = .ok (.ifCond .le 7, 3) := by decide +kernel
theorem dX10_gears_35 : decode cX10_gears 35 = .ok (.iconst 1, 1) := by decide +kernel
theorem dX10_gears_36 : decode cX10_gears 36 = .ok (.goto 4, 3) := by decide +kernel
theorem dX10_gears_39 : decode cX10_gears 39 = .ok (.iconst 0, 1) := by decide +kernel
theorem dX10_gears_40 : decode cX10_gears 40 = .ok (.istore_n 2, 1) := by decide +kernel
theorem dX10_gears_41 : decode cX10_gears 41 = .ok (.iload_n 2, 1) := by decide +kernel
theorem dX10_gears_42 : decode cX10_gears 42 = .ok (.ifCond .eq 124, 3) := by decide +kernel
theorem dX10_gears_45 : decode cX10_gears 45 = .ok (.aload_n 0, 1) := by decide +kernel
theorem dX10_gears_46 : decode cX10_gears 46 = .ok (.invokevirtual 122, 3) := by decide +kernel
theorem dX10_gears_49 : decode cX10_gears 49 = .ok (.istore_n 3, 1) := by decide +kernel
theorem dX10_gears_50 : decode cX10_gears 50 = .ok (.iload_n 3, 1) := by decide +kernel
theorem dX10_gears_51 : decode cX10_gears 51 = .ok (.ifCond .ge 10, 3) := by decide +kernel
theorem dX10_gears_54 : decode cX10_gears 54 = .ok (.iconst (-1), 1) := by decide +kernel
theorem dX10_gears_55 : decode cX10_gears 55 = .ok (.aload_n 0, 1) := by decide +kernel
theorem dX10_gears_56 : decode cX10_gears 56 = .ok (.getfield 36, 3) := by decide +kernel
theorem dX10_gears_59 : decode cX10_gears 59 = .ok (.isub, 1) := by decide +kernel
theorem dX10_gears_60 : decode cX10_gears 60 = .ok (.ireturn, 1) := by decide +kernel
theorem dX10_gears_61 : decode cX10_gears 61 = .ok (.aload_n 0, 1) := by decide +kernel
theorem dX10_gears_62 : decode cX10_gears 62 = .ok (.invokevirtual 59, 3) := by decide +kernel
theorem dX10_gears_65 : decode cX10_gears 65 = .ok (.istore 4, 2) := by decide +kernel
theorem dX10_gears_67 : decode cX10_gears 67 = .ok (.iload 4, 2) := by decide +kernel
theorem dX10_gears_69 : decode cX10_gears 69 = .ok (.ifCond .ge 7, 3) := by decide +kernel
theorem dX10_gears_72 : decode cX10_gears 72 = .ok (.iload_n 3, 1) := by decide +kernel
theorem dX10_gears_73 : decode cX10_gears 73 = .ok (.goto 10, 3) := by decide +kernel
theorem dX10_gears_76 : decode cX10_gears 76 = .ok (.bipush 10, 2) := by decide +kernel
theorem dX10_gears_78 : decode cX10_gears 78 = .ok (.iload_n 3, 1) := by decide +kernel
theorem dX10_gears_79 : decode cX10_gears 79 = .ok (.imul, 1) := by decide +kernel
theorem dX10_gears_80 : decode cX10_gears 80 = .ok (.iload 4, 2) := by decide +kernel
theorem dX10_gears_82 : decode cX10_gears 82 = .ok (.iadd, 1) := by decide +kernel
theorem dX10_gears_83 : decode cX10_gears 83 = .ok (.istore_n 3, 1) := by decide +kernel
theorem dX10_gears_84 : decode cX10_gears 84 = .ok (.iload_n 3, 1) := by decide +kernel
theorem dX10_gears_85 : decode cX10_gears 85 = .ok (.i2l, 1) := by decide +kernel
theorem dX10_gears_86 : decode cX10_gears 86 = .ok (.ldc2_w 150, 3) := by decide +kernel
theorem dX10_gears_89 : decode cX10_gears 89 = .ok (.ldc2_w 152, 3) := by decide +kernel
theorem dX10_gears_92 : decode cX10_gears 92 = .ok (.invokestatic 29, 3) := by decide +kernel
theorem dX10_gears_95 : decode cX10_gears 95 = .ok (.ifCond .ne 9, 3) := by decide +kernel
theorem dX10_gears_98 : decode cX10_gears 98 = .ok (.aload_n 0, 1) := by decide +kernel
theorem dX10_gears_99 : decode cX10_gears 99 = .ok (.getfield 36, 3) := by decide +kernel
theorem dX10_gears_102 : decode cX10_gears 102 = .ok (.ineg, 1) := by decide +kernel
theorem dX10_gears_103 : decode cX10_gears 103 = .ok (.ireturn, 1) := by decide +kernel
theorem dX10_gears_104 : decode cX10_gears 104 = .ok (.aload_n 0, 1) := by decide +kernel
theorem dX10_gears_105 : decode cX10_gears 105 = .ok (.getfield 68, 3) := by decide +kernel
theorem dX10_gears_108 : decode cX10_gears 108 = .ok (.iload_n 1, 1) := by decide +kernel
theorem dX10_gears_109 : decode cX10_gears 109 = .ok (.bipush 41, 2) := by decide +kernel
theorem dX10_gears_111 : decode cX10_gears 111 = .ok (.iadd, 1) := by decide +kernel
theorem dX10_gears_112 : decode cX10_gears 112 = .ok (.aload_n 0, 1) := by decide +kernel
theorem dX10_gears_113 : decode cX10_gears 113 = .ok (.getfield 68, 3) := by decide +kernel
theorem dX10_gears_116 : decode cX10_gears 116 = .ok (.iload_n 1, 1) := by decide +kernel
theorem dX10_gears_117 : decode cX10_gears 117 = .ok (.iconst 4, 1) := by decide +kernel
theorem dX10_gears_118 : decode cX10_gears 118 = .ok (.iadd, 1) := by decide +kernel
theorem dX10_gears_119 : decode cX10_gears 119 = .ok (.iaload, 1) := by decide +kernel
theorem dX10_gears_120 : decode cX10_gears 120 = .ok (.iadd, 1) := by decide +kernel
theorem dX10_gears_121 : decode cX10_gears 121 = .ok (.iload_n 3, 1) := by decide +kernel
theorem dX10_gears_122 : decode cX10_gears 122 = .ok (.iastore, 1) := by decide +kernel
theorem dX10_gears_123 : decode cX10_gears 123 = .ok (.aload_n 0, 1) := by decide +kernel
theorem dX10_gears_124 : decode cX10_gears 124 = .ok (.getfield 68, 3) := by decide +kernel
theorem dX10_gears_127 : decode cX10_gears 127 = .ok (.iload_n 1, 1) := by decide +kernel
theorem dX10_gears_128 : decode cX10_gears 128 = .ok (.iconst 4, 1) := by decide +kernel
theorem dX10_gears_129 : decode cX10_gears 129 = .ok (.iadd, 1) := by decide +kernel
theorem dX10_gears_130 : decode cX10_gears 130 = .ok (.dup2, 1) := by decide +kernel
theorem dX10_gears_131 : decode cX10_gears 131 = .ok (.iaload, 1) := by decide +kernel
theorem dX10_gears_132 : decode cX10_gears 132 = .ok (.iconst 1, 1) := by decide +kernel
theorem dX10_gears_133 : decode cX10_gears 133 = .ok (.iadd, 1) := by decide +kernel
theorem dX10_gears_134 : decode cX10_gears 134 = .ok (.iastore, 1) := by decide +kernel
theorem dX10_gears_135 : decode cX10_gears 135 = .ok (.aload_n 0, 1) := by decide +kernel
theorem dX10_gears_136 : decode cX10_gears 136 = .ok (.getfield 68, 3) := by decide +kernel
theorem dX10_gears_139 : decode cX10_gears 139 = .ok (.iload_n 1, 1) := by decide +kernel
theorem dX10_gears_140 : decode cX10_gears 140 = .ok (.iconst 4, 1) := by decide +kernel
theorem dX10_gears_141 : decode cX10_gears 141 = .ok (.iadd, 1) := by decide +kernel
theorem dX10_gears_142 : decode cX10_gears 142 = .ok (.iaload, 1) := by decide +kernel
theorem dX10_gears_143 : decode cX10_gears 143 = .ok (.bipush 12, 2) := by decide +kernel
theorem dX10_gears_145 : decode cX10_gears 145 = .ok (.if_icmp .ge 16, 3) := by decide +kernel
theorem dX10_gears_148 : decode cX10_gears 148 = .ok (.aload_n 0, 1) := by decide +kernel
theorem dX10_gears_149 : decode cX10_gears 149 = .ok (.bipush 44, 2) := by decide +kernel
theorem dX10_gears_151 : decode cX10_gears 151 = .ok (.invokevirtual 129, 3) := by decide +kernel
theorem dX10_gears_154 : decode cX10_gears 154 = .ok (.ifCond .eq 7, 3) := by decide +kernel
theorem dX10_gears_157 : decode cX10_gears 157 = .ok (.iconst 1, 1) := by decide +kernel
theorem dX10_gears_158 : decode cX10_gears 158 = .ok (.goto 4, 3) := by decide +kernel
theorem dX10_gears_161 : decode cX10_gears 161 = .ok (.iconst 0, 1) := by decide +kernel
theorem dX10_gears_162 : decode cX10_gears 162 = .ok (.istore_n 2, 1) := by decide +kernel
theorem dX10_gears_163 : decode cX10_gears 163 = .ok (.goto (-122), 3) := by decide +kernel
theorem dX10_gears_166 : decode cX10_gears 166 = .ok (.aload_n 0, 1) := by decide +kernel
theorem dX10_gears_167 : decode cX10_gears 167 = .ok (.getfield 36, 3) := by decide +kernel
theorem dX10_gears_170 : decode cX10_gears 170 = .ok (.aload_n 0, 1) := by decide +kernel
theorem dX10_gears_171 : decode cX10_gears 171 = .ok (.getfield 33, 3) := by decide +kernel
theorem dX10_gears_174 : decode cX10_gears 174 = .ok (.if_icmp .ge 10, 3) := by decide +kernel
theorem dX10_gears_177 : decode cX10_gears 177 = .ok (.iconst (-1), 1) := by decide +kernel
theorem dX10_gears_178 : decode cX10_gears 178 = .ok (.aload_n 0, 1) := by decide +kernel
theorem dX10_gears_179 : decode cX10_gears 179 = .ok (.getfield 36, 3) := by decide +kernel
theorem dX10_gears_182 : decode cX10_gears 182 = .ok (.isub, 1) := by decide +kernel
theorem dX10_gears_183 : decode cX10_gears 183 = .ok (.ireturn, 1) := by decide +kernel
theorem dX10_gears_184 : decode cX10_gears 184 = .ok (.aload_n 0, 1) := by decide +kernel
theorem dX10_gears_185 : decode cX10_gears 185 = .ok (.aload_n 0, 1) := by decide +kernel
theorem dX10_gears_186 : decode cX10_gears 186 = .ok (.getfield 68, 3) := by decide +kernel
theorem dX10_gears_189 : decode cX10_gears 189 = .ok (.iload_n 1, 1) := by decide +kernel
theorem dX10_gears_190 : decode cX10_gears 190 = .ok (.iconst 4, 1) := by decide +kernel
theorem dX10_gears_191 : decode cX10_gears 191 = .ok (.iadd, 1) := by decide +kernel
theorem dX10_gears_192 : decode cX10_gears 192 = .ok (.iaload, 1) := by decide +kernel
theorem dX10_gears_193 : decode cX10_gears 193 = .ok (.invokevirtual 144, 3) := by decide +kernel
theorem dX10_gears_196 : decode cX10_gears 196 = .ok (.ireturn, 1) := by decide +kernel
set_option maxRecDepth 20000 in
set_option maxHeartbeats 2000000 in
theorem V_X10_gears_0 {X : Ctx} (C : C_X10_gears X) {k n : Nat} {Q : Pq} {h : Hp} {v0 : Nat}
    (hv : St10 h v0 ∧ S_X10_copies (lX X) (dtX X) 0 0 [.ref v0, .int 0, .int 4] (si (si (si (si h v0 0 0) v0 6 (gi (si h v0 0 0) v0 4)) v0 4 0) v0 5 0) (QV fun h2 =>
    St10 h2 v0 ∧ inb (244 + 4) 732 ∧ (((gi (si h2 (v0 + 3) (ix (244 + 4)) 0) v0 6) ≤ 0 → Wj X k n Q 41 [(0, .ref v0), (1, .int 244), (2, .int 0)] [] (si h2 (v0 + 3) (ix (244 + 4)) 0)) ∧
    (¬ (gi (si h2 (v0 + 3) (ix (244 + 4)) 0) v0 6) ≤ 0 → Wj X k n Q 41 [(0, .ref v0), (1, .int 244), (2, .int 1)] [] (si h2 (v0 + 3) (ix (244 + 4)) 0))))) :
    Wj X k n Q 0 [(0, .ref v0)] [] h := by
  refine w_aload_n (pc := 0) C dX10_gears_0 rfl ?_
  refine w_iconst (pc := 1) C (v := 0) dX10_gears_1 (by decide) ?_
  obtain ⟨f1, hv⟩ := hv
  refine w_putI (pc := 2) C fl_X10_1 rfl rfl dX10_gears_2 (St10_k f1) ?_
  refine w_aload_n (pc := 5) C dX10_gears_5 rfl ?_
  refine w_cV0_0 (pc := 6) C cl_X10_133 lv_X10_reads (by decide) dX10_gears_6 (Nat.le_of_ble_eq_true rfl) (c := 10) rfl (St10_k f1) ((sf_X10_reads (h := (si h v0 0 0)) f1).mono (fun v h9 hp => ?_))
  obtain ⟨e1, e2⟩ := hp
  rw [e1, e2]
  refine w_aload_n (pc := 9) C dX10_gears_9 rfl ?_
  refine w_iconst (pc := 10) C (v := 0) dX10_gears_10 (by decide) ?_
  refine w_iconst (pc := 11) C (v := 4) dX10_gears_11 (by decide) ?_
  refine w_cV0_2 (pc := 12) C cl_X10_118 lv_X10_copies (by decide) dX10_gears_12 (Nat.le_of_ble_eq_true rfl) (c := 10) rfl (St10_k f1) (hv.mono (fun v h2 hp => ?_))
  obtain ⟨rfl, hv⟩ := hp
  refine w_sipush (pc := 15) C (v := 244) dX10_gears_15 (by decide) ?_
  refine w_istore_n (pc := 18) C dX10_gears_18 (by decide) ?_
  refine w_aload_n (pc := 19) C dX10_gears_19 rfl ?_
  obtain ⟨f3, hv⟩ := hv
  refine w_getR (pc := 20) C fl_X10_68 rfl dX10_gears_20 (St10_k f3) (St10_r7 f3) ?_
  refine w_iload_n (pc := 23) C dX10_gears_23 rfl ?_
  refine w_iconst (pc := 24) C (v := 4) dX10_gears_24 (by decide) ?_
  refine w_iadd (pc := 25) C dX10_gears_25 ?_
  refine w_iconst (pc := 26) C (v := 0) dX10_gears_26 (by decide) ?_
  obtain ⟨f4, hv⟩ := hv
  refine w_iast (pc := 27) C dX10_gears_27 (St10_k7 f3) (inbl (St10_l7 f3) f4) ?_
  refine w_aload_n (pc := 28) C dX10_gears_28 rfl ?_
  refine w_getI (pc := 29) C fl_X10_33 rfl dX10_gears_29 (St10_k f3) ?_
  refine w_if_le (pc := 32) C (tgt := 39) dX10_gears_32 (by decide) ?_
  obtain ⟨hv1, hv2⟩ := hv
  refine ⟨fun c5 => ?_, fun c5 => ?_⟩
  · have hv := hv1 c5
    refine w_iconst (pc := 39) C (v := 0) dX10_gears_39 (by decide) ?_
    refine w_istore_n (pc := 40) C dX10_gears_40 (by decide) ?_
    refine w_sub ?_ hv
    exact ⟨rfl, rfl, rfl, trivial⟩
  · have hv := hv2 c5
    refine w_iconst (pc := 35) C (v := 1) dX10_gears_35 (by decide) ?_
    refine w_goto (pc := 36) C (tgt := 40) dX10_gears_36 (by decide) ?_
    refine w_istore_n (pc := 40) C dX10_gears_40 (by decide) ?_
    refine w_sub ?_ hv
    exact ⟨rfl, rfl, rfl, trivial⟩
set_option maxRecDepth 20000 in
set_option maxHeartbeats 2000000 in
theorem V_X10_gears_41 {X : Ctx} (C : C_X10_gears X) {k n : Nat} {Q : Pq} {h : Hp} {v0 : Nat} {v1 v2 : Int32}
    (hv : ((v2 = 0 → St10 h v0 ∧ (((gi h v0 6) ≤ (gi h v0 5) → inb (v1 + 4) 732 ∧ S_X10_putsRead (lX X) (dtX X) 0 0 [.ref v0, .int (gi h (v0 + 3) (ix (v1 + 4)))] h (QI fun x4 h3 =>
    Q (some (.int x4)) h3)) ∧
    (¬ (gi h v0 6) ≤ (gi h v0 5) → Q (some (.int ((-1) - (gi h v0 5)))) h))) ∧
    (¬ v2 = 0 → St10 h v0 ∧ (∃ k8 n9, k + k8 ≤ mcX X ∧ n + n9 ≤ msX X ∧ S_X10_two (lX X) (dtX X) k8 n9 [.ref v0] h (QI fun x10 h7 =>
    ((0 ≤ x10 → St10 h7 v0 ∧ (∃ k13 n14, k + k8 + k13 ≤ mcX X ∧ n + n9 + n14 ≤ msX X ∧ S_X10_digit (lX X) (dtX X) k13 n14 [.ref v0] h7 (QI fun x15 h12 =>
    ((0 ≤ x15 → Wj X (k + k8 + k13) (n + n9 + n14) Q 83 [(0, .ref v0), (1, .int v1)] [.int ((10 * x10) + x15)] h12) ∧
    (¬ 0 ≤ x15 → Wj X (k + k8 + k13) (n + n9 + n14) Q 83 [(0, .ref v0), (1, .int v1)] [.int x10] h12))))) ∧
    (¬ 0 ≤ x10 → St10 h7 v0 ∧ Q (some (.int ((-1) - (gi h7 v0 5)))) h7))))))) :
    Wj X k n Q 41 [(0, .ref v0), (1, .int v1), (2, .int v2)] [] h := by
  refine w_iload_n (pc := 41) C dX10_gears_41 rfl ?_
  refine w_if_eq (pc := 42) C (tgt := 166) dX10_gears_42 (by decide) ?_
  obtain ⟨hv1, hv2⟩ := hv
  refine ⟨fun c19 => ?_, fun c19 => ?_⟩
  · have hv := hv1 c19
    refine w_aload_n (pc := 166) C dX10_gears_166 rfl ?_
    obtain ⟨f1, hv⟩ := hv
    refine w_getI (pc := 167) C fl_X10_36 rfl dX10_gears_167 (St10_k f1) ?_
    refine w_aload_n (pc := 170) C dX10_gears_170 rfl ?_
    refine w_getI (pc := 171) C fl_X10_33 rfl dX10_gears_171 (St10_k f1) ?_
    refine w_icmp_ge (pc := 174) C (tgt := 184) dX10_gears_174 (by decide) ?_
    obtain ⟨hv1, hv2⟩ := hv
    refine ⟨fun c5 => ?_, fun c5 => ?_⟩
    · have hv := hv1 c5
      refine w_aload_n (pc := 184) C dX10_gears_184 rfl ?_
      refine w_aload_n (pc := 185) C dX10_gears_185 rfl ?_
      refine w_getR (pc := 186) C fl_X10_68 rfl dX10_gears_186 (St10_k f1) (St10_r7 f1) ?_
      refine w_iload_n (pc := 189) C dX10_gears_189 rfl ?_
      refine w_iconst (pc := 190) C (v := 4) dX10_gears_190 (by decide) ?_
      refine w_iadd (pc := 191) C dX10_gears_191 ?_
      obtain ⟨f2, hv⟩ := hv
      refine w_iald (pc := 192) C dX10_gears_192 (St10_k7 f1) (inbl (St10_l7 f1) f2) ?_
      refine w_cV0_1 (pc := 193) C cl_X10_144 lv_X10_putsRead (by decide) dX10_gears_193 (Nat.le_of_ble_eq_true rfl) (c := 10) rfl (St10_k f1) (hv.mono (fun v h3 hp => ?_))
      obtain ⟨x4, rfl, hv⟩ := hp
      exact w_iret (pc := 196) C dX10_gears_196 hv
    · have hv := hv2 c5
      refine w_iconst (pc := 177) C (v := (-1)) dX10_gears_177 (by decide) ?_
      refine w_aload_n (pc := 178) C dX10_gears_178 rfl ?_
      refine w_getI (pc := 179) C fl_X10_36 rfl dX10_gears_179 (St10_k f1) ?_
      refine w_isub (pc := 182) C dX10_gears_182 ?_
      exact w_iret (pc := 183) C dX10_gears_183 hv
  · have hv := hv2 c19
    refine w_aload_n (pc := 45) C dX10_gears_45 rfl ?_
    obtain ⟨f6, hv⟩ := hv
    obtain ⟨k8, n9, hm1, hm2, hv⟩ := hv
    refine w_cV1_0 (pc := 46) C cl_X10_122 lv_X10_two (by decide) dX10_gears_46 (Nat.le_of_ble_eq_true rfl) (c := 10) rfl hm1 hm2 (St10_k f6) (hv.mono (fun v h7 hp => ?_))
    obtain ⟨x10, rfl, hv⟩ := hp
    refine w_istore_n (pc := 49) C dX10_gears_49 (by decide) ?_
    refine w_iload_n (pc := 50) C dX10_gears_50 rfl ?_
    refine w_if_ge (pc := 51) C (tgt := 61) dX10_gears_51 (by decide) ?_
    obtain ⟨hv1, hv2⟩ := hv
    refine ⟨fun c18 => ?_, fun c18 => ?_⟩
    · have hv := hv1 c18
      refine w_aload_n (pc := 61) C dX10_gears_61 rfl ?_
      obtain ⟨f11, hv⟩ := hv
      obtain ⟨k13, n14, hm1, hm2, hv⟩ := hv
      refine w_cV1_0 (pc := 62) C cl_X10_59 lv_X10_digit (by decide) dX10_gears_62 (Nat.le_of_ble_eq_true rfl) (c := 10) rfl hm1 hm2 (St10_k f11) (hv.mono (fun v h12 hp => ?_))
      obtain ⟨x15, rfl, hv⟩ := hp
      refine w_istore (pc := 65) C dX10_gears_65 (by decide) ?_
      refine w_iload (pc := 67) C dX10_gears_67 rfl ?_
      refine w_if_ge (pc := 69) C (tgt := 76) dX10_gears_69 (by decide) ?_
      obtain ⟨hv1, hv2⟩ := hv
      refine ⟨fun c16 => ?_, fun c16 => ?_⟩
      · have hv := hv1 c16
        refine w_bipush (pc := 76) C (v := 10) dX10_gears_76 (by decide) ?_
        refine w_iload_n (pc := 78) C dX10_gears_78 rfl ?_
        refine w_imul (pc := 79) C dX10_gears_79 ?_
        refine w_iload (pc := 80) C dX10_gears_80 rfl ?_
        refine w_iadd (pc := 82) C dX10_gears_82 ?_
        refine w_sub ?_ hv
        exact ⟨rfl, rfl, trivial⟩
      · have hv := hv2 c16
        refine w_iload_n (pc := 72) C dX10_gears_72 rfl ?_
        refine w_goto (pc := 73) C (tgt := 83) dX10_gears_73 (by decide) ?_
        refine w_sub ?_ hv
        exact ⟨rfl, rfl, trivial⟩
    · have hv := hv2 c18
      refine w_iconst (pc := 54) C (v := (-1)) dX10_gears_54 (by decide) ?_
      refine w_aload_n (pc := 55) C dX10_gears_55 rfl ?_
      obtain ⟨f17, hv⟩ := hv
      refine w_getI (pc := 56) C fl_X10_36 rfl dX10_gears_56 (St10_k f17) ?_
      refine w_isub (pc := 59) C dX10_gears_59 ?_
      exact w_iret (pc := 60) C dX10_gears_60 hv
set_option maxRecDepth 20000 in
set_option maxHeartbeats 2000000 in
theorem V_X10_gears_83 {X : Ctx} (C : C_X10_gears X) {k n : Nat} {Q : Pq} {h : Hp} {v0 : Nat} {v1 s0 : Int32}
    (hv : ((¬ (btL (Int32.toInt64 s0) 20 100) = 0 → St10 h v0 ∧ inb (v1 + 4) 732 ∧ inb ((v1 + 41) + (gi h (v0 + 3) (ix (v1 + 4)))) 732 ∧ ((12 ≤ (gi (si (si h (v0 + 3) (ix ((v1 + 41) + (gi h (v0 + 3) (ix (v1 + 4))))) s0) (v0 + 3) (ix (v1 + 4)) ((gi (si h (v0 + 3) (ix ((v1 + 41) + (gi h (v0 + 3) (ix (v1 + 4))))) s0) (v0 + 3) (ix (v1 + 4))) + 1)) (v0 + 3) (ix (v1 + 4))) → Wj X k n Q 41 [(0, .ref v0), (1, .int v1), (2, .int 0)] [] (si (si h (v0 + 3) (ix ((v1 + 41) + (gi h (v0 + 3) (ix (v1 + 4))))) s0) (v0 + 3) (ix (v1 + 4)) ((gi (si h (v0 + 3) (ix ((v1 + 41) + (gi h (v0 + 3) (ix (v1 + 4))))) s0) (v0 + 3) (ix (v1 + 4))) + 1))) ∧
    (¬ 12 ≤ (gi (si (si h (v0 + 3) (ix ((v1 + 41) + (gi h (v0 + 3) (ix (v1 + 4))))) s0) (v0 + 3) (ix (v1 + 4)) ((gi (si h (v0 + 3) (ix ((v1 + 41) + (gi h (v0 + 3) (ix (v1 + 4))))) s0) (v0 + 3) (ix (v1 + 4))) + 1)) (v0 + 3) (ix (v1 + 4))) → S_X10_takes (lX X) (dtX X) 0 0 [.ref v0, .int 44] (si (si h (v0 + 3) (ix ((v1 + 41) + (gi h (v0 + 3) (ix (v1 + 4))))) s0) (v0 + 3) (ix (v1 + 4)) ((gi (si h (v0 + 3) (ix ((v1 + 41) + (gi h (v0 + 3) (ix (v1 + 4))))) s0) (v0 + 3) (ix (v1 + 4))) + 1)) (QI fun x5 h4 =>
    ((x5 = 0 → Wj X k n Q 41 [(0, .ref v0), (1, .int v1), (2, .int 0)] [] h4) ∧
    (¬ x5 = 0 → Wj X k n Q 41 [(0, .ref v0), (1, .int v1), (2, .int 1)] [] h4)))))) ∧
    ((btL (Int32.toInt64 s0) 20 100) = 0 → St10 h v0 ∧ Q (some (.int (-(gi h v0 5)))) h))) :
    Wj X k n Q 83 [(0, .ref v0), (1, .int v1)] [.int s0] h := by
  refine w_istore_n (pc := 83) C dX10_gears_83 (by decide) ?_
  refine w_iload_n (pc := 84) C dX10_gears_84 rfl ?_
  refine w_i2l (pc := 85) C dX10_gears_85 ?_
  refine w_ldc2 (pc := 86) C ctl_X10_150 dX10_gears_86 ?_
  refine w_ldc2 (pc := 89) C ctl_X10_152 dX10_gears_89 ?_
  refine w_cS0_3 (pc := 92) C cl_X10_29 ls_X10_in (by decide) dX10_gears_92 (Nat.le_of_ble_eq_true rfl) ((sf_X10_in (h := h) ).mono (fun v h9 hp => ?_))
  obtain ⟨e1, e2⟩ := hp
  rw [e1, e2]
  refine w_if_ne (pc := 95) C (tgt := 104) dX10_gears_95 (by decide) ?_
  obtain ⟨hv1, hv2⟩ := hv
  refine ⟨fun c9 => ?_, fun c9 => ?_⟩
  · have hv := hv1 c9
    refine w_aload_n (pc := 104) C dX10_gears_104 rfl ?_
    obtain ⟨f1, hv⟩ := hv
    refine w_getR (pc := 105) C fl_X10_68 rfl dX10_gears_105 (St10_k f1) (St10_r7 f1) ?_
    refine w_iload_n (pc := 108) C dX10_gears_108 rfl ?_
    refine w_bipush (pc := 109) C (v := 41) dX10_gears_109 (by decide) ?_
    refine w_iadd (pc := 111) C dX10_gears_111 ?_
    refine w_aload_n (pc := 112) C dX10_gears_112 rfl ?_
    refine w_getR (pc := 113) C fl_X10_68 rfl dX10_gears_113 (St10_k f1) (St10_r7 f1) ?_
    refine w_iload_n (pc := 116) C dX10_gears_116 rfl ?_
    refine w_iconst (pc := 117) C (v := 4) dX10_gears_117 (by decide) ?_
    refine w_iadd (pc := 118) C dX10_gears_118 ?_
    obtain ⟨f2, hv⟩ := hv
    refine w_iald (pc := 119) C dX10_gears_119 (St10_k7 f1) (inbl (St10_l7 f1) f2) ?_
    refine w_iadd (pc := 120) C dX10_gears_120 ?_
    refine w_iload_n (pc := 121) C dX10_gears_121 rfl ?_
    obtain ⟨f3, hv⟩ := hv
    refine w_iast (pc := 122) C dX10_gears_122 (St10_k7 f1) (inbl (St10_l7 f1) f3) ?_
    refine w_aload_n (pc := 123) C dX10_gears_123 rfl ?_
    refine w_getR (pc := 124) C fl_X10_68 rfl dX10_gears_124 (St10_k f1) (St10_r7 f1) ?_
    refine w_iload_n (pc := 127) C dX10_gears_127 rfl ?_
    refine w_iconst (pc := 128) C (v := 4) dX10_gears_128 (by decide) ?_
    refine w_iadd (pc := 129) C dX10_gears_129 ?_
    refine w_dup2 (pc := 130) C dX10_gears_130 rfl rfl ?_
    refine w_iald (pc := 131) C dX10_gears_131 (St10_k7 f1) (inbl (St10_l7 f1) f2) ?_
    refine w_iconst (pc := 132) C (v := 1) dX10_gears_132 (by decide) ?_
    refine w_iadd (pc := 133) C dX10_gears_133 ?_
    refine w_iast (pc := 134) C dX10_gears_134 (St10_k7 f1) (inbl (St10_l7 f1) f2) ?_
    refine w_aload_n (pc := 135) C dX10_gears_135 rfl ?_
    refine w_getR (pc := 136) C fl_X10_68 rfl dX10_gears_136 (St10_k f1) (St10_r7 f1) ?_
    refine w_iload_n (pc := 139) C dX10_gears_139 rfl ?_
    refine w_iconst (pc := 140) C (v := 4) dX10_gears_140 (by decide) ?_
    refine w_iadd (pc := 141) C dX10_gears_141 ?_
    refine w_iald (pc := 142) C dX10_gears_142 (St10_k7 f1) (inbl (St10_l7 f1) f2) ?_
    refine w_bipush (pc := 143) C (v := 12) dX10_gears_143 (by decide) ?_
    refine w_icmp_ge (pc := 145) C (tgt := 161) dX10_gears_145 (by decide) ?_
    obtain ⟨hv1, hv2⟩ := hv
    refine ⟨fun c7 => ?_, fun c7 => ?_⟩
    · have hv := hv1 c7
      refine w_iconst (pc := 161) C (v := 0) dX10_gears_161 (by decide) ?_
      refine w_istore_n (pc := 162) C dX10_gears_162 (by decide) ?_
      refine w_goto (pc := 163) C (tgt := 41) dX10_gears_163 (by decide) ?_
      refine w_sub ?_ hv
      exact ⟨rfl, rfl, rfl, trivial⟩
    · have hv := hv2 c7
      refine w_aload_n (pc := 148) C dX10_gears_148 rfl ?_
      refine w_bipush (pc := 149) C (v := 44) dX10_gears_149 (by decide) ?_
      refine w_cV0_1 (pc := 151) C cl_X10_129 lv_X10_takes (by decide) dX10_gears_151 (Nat.le_of_ble_eq_true rfl) (c := 10) rfl (St10_k f1) (hv.mono (fun v h4 hp => ?_))
      obtain ⟨x5, rfl, hv⟩ := hp
      refine w_if_eq (pc := 154) C (tgt := 161) dX10_gears_154 (by decide) ?_
      obtain ⟨hv1, hv2⟩ := hv
      refine ⟨fun c6 => ?_, fun c6 => ?_⟩
      · have hv := hv1 c6
        refine w_iconst (pc := 161) C (v := 0) dX10_gears_161 (by decide) ?_
        refine w_istore_n (pc := 162) C dX10_gears_162 (by decide) ?_
        refine w_goto (pc := 163) C (tgt := 41) dX10_gears_163 (by decide) ?_
        refine w_sub ?_ hv
        exact ⟨rfl, rfl, rfl, trivial⟩
      · have hv := hv2 c6
        refine w_iconst (pc := 157) C (v := 1) dX10_gears_157 (by decide) ?_
        refine w_goto (pc := 158) C (tgt := 162) dX10_gears_158 (by decide) ?_
        refine w_istore_n (pc := 162) C dX10_gears_162 (by decide) ?_
        refine w_goto (pc := 163) C (tgt := 41) dX10_gears_163 (by decide) ?_
        refine w_sub ?_ hv
        exact ⟨rfl, rfl, rfl, trivial⟩
  · have hv := hv2 c9
    refine w_aload_n (pc := 98) C dX10_gears_98 rfl ?_
    obtain ⟨f8, hv⟩ := hv
    refine w_getI (pc := 99) C fl_X10_36 rfl dX10_gears_99 (St10_k f8) ?_
    refine w_ineg (pc := 102) C dX10_gears_102 ?_
    exact w_iret (pc := 103) C dX10_gears_103 hv
theorem dX10_readsAct_0 : decode cX10_readsAct 0 = .ok (.aload_n 0, 1) := by decide +kernel
theorem dX10_readsAct_1 : decode cX10_readsAct 1 = .ok (.getfield 95, 3) := by decide +kernel
theorem dX10_readsAct_4 : decode cX10_readsAct 4 = .ok (.iload_n 1, 1) := by decide +kernel
theorem dX10_readsAct_5 : decode cX10_readsAct 5 = .ok (.aload_n 0, 1) := by decide +kernel
theorem dX10_readsAct_6 : decode cX10_readsAct 6 = .ok (.ldc_w 421, 3) := by decide +kernel
theorem dX10_readsAct_9 : decode cX10_readsAct 9 = .ok (.invokevirtual 55, 3) := by decide +kernel
theorem dX10_readsAct_12 : decode cX10_readsAct 12 = .ok (.iastore, 1) := by decide +kernel
theorem dX10_readsAct_13 : decode cX10_readsAct 13 = .ok (.aload_n 0, 1) := by decide +kernel
theorem dX10_readsAct_14 : decode cX10_readsAct 14 = .ok (.getfield 98, 3) := by decide +kernel
theorem dX10_readsAct_17 : decode cX10_readsAct 17 = .ok (.iload_n 1, 1) := by decide +kernel
theorem dX10_readsAct_18 : decode cX10_readsAct 18 = .ok (.iconst 0, 1) := by decide +kernel
theorem dX10_readsAct_19 : decode cX10_readsAct 19 = .ok (.iastore, 1) := by decide +kernel
theorem dX10_readsAct_20 : decode cX10_readsAct 20 = .ok (.aload_n 0, 1) := by decide +kernel
theorem dX10_readsAct_21 : decode cX10_readsAct 21 = .ok (.getfield 101, 3) := by decide +kernel
theorem dX10_readsAct_24 : decode cX10_readsAct 24 = .ok (.iload_n 1, 1) := by decide +kernel
theorem dX10_readsAct_25 : decode cX10_readsAct 25 = .ok (.iconst 0, 1) := by decide +kernel
theorem dX10_readsAct_26 : decode cX10_readsAct 26 = .ok (.iastore, 1) := by decide +kernel
theorem dX10_readsAct_27 : decode cX10_readsAct 27 = .ok (.aload_n 0, 1) := by decide +kernel
theorem dX10_readsAct_28 : decode cX10_readsAct 28 = .ok (.getfield 104, 3) := by decide +kernel
theorem dX10_readsAct_31 : decode cX10_readsAct 31 = .ok (.iload_n 1, 1) := by decide +kernel
theorem dX10_readsAct_32 : decode cX10_readsAct 32 = .ok (.iconst 0, 1) := by decide +kernel
theorem dX10_readsAct_33 : decode cX10_readsAct 33 = .ok (.iastore, 1) := by decide +kernel
theorem dX10_readsAct_34 : decode cX10_readsAct 34 = .ok (.aload_n 0, 1) := by decide +kernel
theorem dX10_readsAct_35 : decode cX10_readsAct 35 = .ok (.getfield 95, 3) := by decide +kernel
theorem dX10_readsAct_38 : decode cX10_readsAct 38 = .ok (.iload_n 1, 1) := by decide +kernel
theorem dX10_readsAct_39 : decode cX10_readsAct 39 = .ok (.iaload, 1) := by decide +kernel
theorem dX10_readsAct_40 : decode cX10_readsAct 40 = .ok (.ifCond .ge 5, 3) := by decide +kernel
theorem dX10_readsAct_43 : decode cX10_readsAct 43 = .ok (.iconst 0, 1) := by decide +kernel
theorem dX10_readsAct_44 : decode cX10_readsAct 44 = .ok (.ireturn, 1) := by decide +kernel
theorem dX10_readsAct_45 : decode cX10_readsAct 45 = .ok (.aload_n 0, 1) := by decide +kernel
theorem dX10_readsAct_46 : decode cX10_readsAct 46 = .ok (.getfield 95, 3) := by decide +kernel
theorem dX10_readsAct_49 : decode cX10_readsAct 49 = .ok (.iload_n 1, 1) := by decide +kernel
theorem dX10_readsAct_50 : decode cX10_readsAct 50 = .ok (.iaload, 1) := by decide +kernel
theorem dX10_readsAct_51 : decode cX10_readsAct 51 = .ok (.iconst 1, 1) := by decide +kernel
theorem dX10_readsAct_52 : decode cX10_readsAct 52 = .ok (.if_icmp .eq 23, 3) := by decide +kernel
theorem dX10_readsAct_55 : decode cX10_readsAct 55 = .ok (.aload_n 0, 1) := by decide +kernel
theorem dX10_readsAct_56 : decode cX10_readsAct 56 = .ok (.getfield 95, 3) := by decide +kernel
theorem dX10_readsAct_59 : decode cX10_readsAct 59 = .ok (.iload_n 1, 1) := by decide +kernel
theorem dX10_readsAct_60 : decode cX10_readsAct 60 = .ok (.iaload, 1) := by decide +kernel
theorem dX10_readsAct_61 : decode cX10_readsAct 61 = .ok (.iconst 2, 1) := by decide +kernel
theorem dX10_readsAct_62 : decode cX10_readsAct 62 = .ok (.if_icmp .eq 13, 3) := by decide +kernel
theorem dX10_readsAct_65 : decode cX10_readsAct 65 = .ok (.aload_n 0, 1) := by decide +kernel
theorem dX10_readsAct_66 : decode cX10_readsAct 66 = .ok (.getfield 95, 3) := by decide +kernel
theorem dX10_readsAct_69 : decode cX10_readsAct 69 = .ok (.iload_n 1, 1) := by decide +kernel
theorem dX10_readsAct_70 : decode cX10_readsAct 70 = .ok (.iaload, 1) := by decide +kernel
theorem dX10_readsAct_71 : decode cX10_readsAct 71 = .ok (.iconst 5, 1) := by decide +kernel
theorem dX10_readsAct_72 : decode cX10_readsAct 72 = .ok (.if_icmp .ne 7, 3) := by decide +kernel
theorem dX10_readsAct_75 : decode cX10_readsAct 75 = .ok (.iconst 1, 1) := by decide +kernel
theorem dX10_readsAct_76 : decode cX10_readsAct 76 = .ok (.goto 4, 3) := by decide +kernel
theorem dX10_readsAct_79 : decode cX10_readsAct 79 = .ok (.iconst 0, 1) := by decide +kernel
theorem dX10_readsAct_80 : decode cX10_readsAct 80 = .ok (.istore_n 2, 1) := by decide +kernel
theorem dX10_readsAct_81 : decode cX10_readsAct 81 = .ok (.aload_n 0, 1) := by decide +kernel
theorem dX10_readsAct_82 : decode cX10_readsAct 82 = .ok (.getfield 95, 3) := by decide +kernel
theorem dX10_readsAct_85 : decode cX10_readsAct 85 = .ok (.iload_n 1, 1) := by decide +kernel
theorem dX10_readsAct_86 : decode cX10_readsAct 86 = .ok (.iaload, 1) := by decide +kernel
theorem dX10_readsAct_87 : decode cX10_readsAct 87 = .ok (.ifCond .eq 7, 3) := by decide +kernel
theorem dX10_readsAct_90 : decode cX10_readsAct 90 = .ok (.iload_n 2, 1) := by decide +kernel
theorem dX10_readsAct_91 : decode cX10_readsAct 91 = .ok (.ifCond .eq 13, 3) := by decide +kernel
theorem dX10_readsAct_94 : decode cX10_readsAct 94 = .ok (.aload_n 0, 1) := by decide +kernel
theorem dX10_readsAct_95 : decode cX10_readsAct 95 = .ok (.getfield 98, 3) := by decide +kernel
theorem dX10_readsAct_98 : decode cX10_readsAct 98 = .ok (.iload_n 1, 1) := by decide +kernel
theorem dX10_readsAct_99 : decode cX10_readsAct 99 = .ok (.aload_n 0, 1) := by decide +kernel
theorem dX10_readsAct_100 : decode cX10_readsAct 100 = .ok (.invokevirtual 122, 3) := by decide +kernel
theorem dX10_readsAct_103 : decode cX10_readsAct 103 = .ok (.iastore, 1) := by decide +kernel
theorem dX10_readsAct_104 : decode cX10_readsAct 104 = .ok (.aload_n 0, 1) := by decide +kernel
theorem dX10_readsAct_105 : decode cX10_readsAct 105 = .ok (.getfield 98, 3) := by decide +kernel
theorem dX10_readsAct_108 : decode cX10_readsAct 108 = .ok (.iload_n 1, 1) := by decide +kernel
theorem dX10_readsAct_109 : decode cX10_readsAct 109 = .ok (.iaload, 1) := by decide +kernel
theorem dX10_readsAct_110 : decode cX10_readsAct 110 = .ok (.ifCond .lt 17, 3) := by decide +kernel
theorem dX10_readsAct_113 : decode cX10_readsAct 113 = .ok (.iload_n 2, 1) := by decide +kernel
theorem dX10_readsAct_114 : decode cX10_readsAct 114 = .ok (.ifCond .eq 13, 3) := by decide +kernel
theorem dX10_readsAct_117 : decode cX10_readsAct 117 = .ok (.aload_n 0, 1) := by decide +kernel
theorem dX10_readsAct_118 : decode cX10_readsAct 118 = .ok (.getfield 101, 3) := by decide +kernel
theorem dX10_readsAct_121 : decode cX10_readsAct 121 = .ok (.iload_n 1, 1) := by decide +kernel
theorem dX10_readsAct_122 : decode cX10_readsAct 122 = .ok (.aload_n 0, 1) := by decide +kernel
theorem dX10_readsAct_123 : decode cX10_readsAct 123 = .ok (.invokevirtual 122, 3) := by decide +kernel
theorem dX10_readsAct_126 : decode cX10_readsAct 126 = .ok (.iastore, 1) := by decide +kernel
theorem dX10_readsAct_127 : decode cX10_readsAct 127 = .ok (.aload_n 0, 1) := by decide +kernel
theorem dX10_readsAct_128 : decode cX10_readsAct 128 = .ok (.getfield 98, 3) := by decide +kernel
theorem dX10_readsAct_131 : decode cX10_readsAct 131 = .ok (.iload_n 1, 1) := by decide +kernel
theorem dX10_readsAct_132 : decode cX10_readsAct 132 = .ok (.iaload, 1) := by decide +kernel
theorem dX10_readsAct_133 : decode cX10_readsAct 133 = .ok (.ifCond .lt 35, 3) := by decide +kernel
theorem dX10_readsAct_136 : decode cX10_readsAct 136 = .ok (.aload_n 0, 1) := by decide +kernel
theorem dX10_readsAct_137 : decode cX10_readsAct 137 = .ok (.getfield 101, 3) := by decide +kernel
theorem dX10_readsAct_140 : decode cX10_readsAct 140 = .ok (.iload_n 1, 1) := by decide +kernel
theorem dX10_readsAct_141 : decode cX10_readsAct 141 = .ok (.iaload, 1) := by decide +kernel
theorem dX10_readsAct_142 : decode cX10_readsAct 142 = .ok (.ifCond .lt 26, 3) := by decide +kernel
theorem dX10_readsAct_145 : decode cX10_readsAct 145 = .ok (.aload_n 0, 1) := by decide +kernel
theorem dX10_readsAct_146 : decode cX10_readsAct 146 = .ok (.getfield 95, 3) := by decide +kernel
theorem dX10_readsAct_149 : decode cX10_readsAct 149 = .ok (.iload_n 1, 1) := by decide +kernel
theorem dX10_readsAct_150 : decode cX10_readsAct 150 = .ok (.iaload, 1) := by decide +kernel
theorem dX10_readsAct_151 : decode cX10_readsAct 151 = .ok (.iconst 5, 1) := by decide +kernel
theorem dX10_readsAct_152 : decode cX10_readsAct 152 = .ok (.if_icmp .ne 16, 3) := by decide +kernel
theorem dX10_readsAct_155 : decode cX10_readsAct 155 = .ok (.aload_n 0, 1) := by decide +kernel
theorem dX10_readsAct_156 : decode cX10_readsAct 156 = .ok (.getfield 104, 3) := by decide +kernel
theorem dX10_readsAct_159 : decode cX10_readsAct 159 = .ok (.iload_n 1, 1) := by decide +kernel
theorem dX10_readsAct_160 : decode cX10_readsAct 160 = .ok (.aload_n 0, 1) := by decide +kernel
theorem dX10_readsAct_161 : decode cX10_readsAct 161 = .ok (.ldc_w 423, 3) := by decide +kernel
theorem dX10_readsAct_164 : decode cX10_readsAct 164 = .ok (.invokevirtual 55, 3) := by decide +kernel
theorem dX10_readsAct_167 : decode cX10_readsAct 167 = .ok (.iastore, 1) := by decide +kernel
theorem dX10_readsAct_168 : decode cX10_readsAct 168 = .ok (.aload_n 0, 1) := by decide +kernel
theorem dX10_readsAct_169 : decode cX10_readsAct 169 = .ok (.getfield 98, 3) := by decide +kernel
theorem dX10_readsAct_172 : decode cX10_readsAct 172 = .ok (.iload_n 1, 1) := by decide +kernel
theorem dX10_readsAct_173 : decode cX10_readsAct 173 = .ok (.iaload, 1) := by decide +kernel
theorem dX10_readsAct_174 : decode cX10_readsAct 174 = .ok (.ifCond .lt 25, 3) := by decide +kernel
theorem dX10_readsAct_177 : decode cX10_readsAct 177 = .ok (.aload_n 0, 1) := by decide +kernel
theorem dX10_readsAct_178 : decode cX10_readsAct 178 = .ok (.getfield 101, 3) := by decide +kernel
theorem dX10_readsAct_181 : decode cX10_readsAct 181 = .ok (.iload_n 1, 1) := by decide +kernel
theorem dX10_readsAct_182 : decode cX10_readsAct 182 = .ok (.iaload, 1) := by decide +kernel
theorem dX10_readsAct_183 : decode cX10_readsAct 183 = .ok (.ifCond .lt 16, 3) := by decide +kernel
theorem dX10_readsAct_186 : decode cX10_readsAct 186 = .ok (.aload_n 0, 1) := by decide +kernel
theorem dX10_readsAct_187 : decode cX10_readsAct 187 = .ok (.getfield 104, 3) := by decide +kernel
theorem dX10_readsAct_190 : decode cX10_readsAct 190 = .ok (.iload_n 1, 1) := by decide +kernel
theorem dX10_readsAct_191 : decode cX10_readsAct 191 = .ok (.iaload, 1) := by decide +kernel
theorem dX10_readsAct_192 : decode cX10_readsAct 192 = .ok (.ifCond .lt 7, 3) := by decide +kernel
theorem dX10_readsAct_195 : decode cX10_readsAct 195 = .ok (.iconst 1, 1) := by decide +kernel
theorem dX10_readsAct_196 : decode cX10_readsAct 196 = .ok (.goto 4, 3) := by decide +kernel
theorem dX10_readsAct_199 : decode cX10_readsAct 199 = .ok (.iconst 0, 1) := by decide +kernel
theorem dX10_readsAct_200 : decode cX10_readsAct 200 = .ok (.ireturn, 1) := by decide +kernel
theorem dX10_doesAct_0 : decode cX10_doesAct 0 = .ok (.aload_n 0, 1) := by decide +kernel
theorem dX10_doesAct_1 : decode cX10_doesAct 1 = .ok (.getfield 95, 3) := by decide +kernel
theorem dX10_doesAct_4 : decode cX10_doesAct 4 = .ok (.iload_n 1, 1) := by decide +kernel
theorem dX10_doesAct_5 : decode cX10_doesAct 5 = .ok (.iaload, 1) := by decide +kernel
theorem dX10_doesAct_6 : decode cX10_doesAct 6 = .ok (.tableswitch 117 0 5 #[38, 49, 49, 74, 79, 84], 38) := by decide +kernel
theorem dX10_doesAct_44 : decode cX10_doesAct 44 = .ok (.aload_n 0, 1) := by decide +kernel
theorem dX10_doesAct_45 : decode cX10_doesAct 45 = .ok (.aload_n 0, 1) := by decide +kernel
theorem dX10_doesAct_46 : decode cX10_doesAct 46 = .ok (.getfield 98, 3) := by decide +kernel
theorem dX10_doesAct_49 : decode cX10_doesAct 49 = .ok (.iload_n 1, 1) := by decide +kernel
theorem dX10_doesAct_50 : decode cX10_doesAct 50 = .ok (.iaload, 1) := by decide +kernel
theorem dX10_doesAct_51 : decode cX10_doesAct 51 = .ok (.invokevirtual 326, 3) := by decide +kernel
theorem dX10_doesAct_54 : decode cX10_doesAct 54 = .ok (.ireturn, 1) := by decide +kernel
theorem dX10_doesAct_55 : decode cX10_doesAct 55 = .ok (.aload_n 0, 1) := by decide +kernel
theorem dX10_doesAct_56 : decode cX10_doesAct 56 = .ok (.aload_n 0, 1) := by decide +kernel
theorem dX10_doesAct_57 : decode cX10_doesAct 57 = .ok (.getfield 98, 3) := by decide +kernel
theorem dX10_doesAct_60 : decode cX10_doesAct 60 = .ok (.iload_n 1, 1) := by decide +kernel
theorem dX10_doesAct_61 : decode cX10_doesAct 61 = .ok (.iaload, 1) := by decide +kernel
theorem dX10_doesAct_62 : decode cX10_doesAct 62 = .ok (.aload_n 0, 1) := by decide +kernel
theorem dX10_doesAct_63 : decode cX10_doesAct 63 = .ok (.getfield 101, 3) := by decide +kernel
theorem dX10_doesAct_66 : decode cX10_doesAct 66 = .ok (.iload_n 1, 1) := by decide +kernel
theorem dX10_doesAct_67 : decode cX10_doesAct 67 = .ok (.iaload, 1) := by decide +kernel
theorem dX10_doesAct_68 : decode cX10_doesAct 68 = .ok (.aload_n 0, 1) := by decide +kernel
theorem dX10_doesAct_69 : decode cX10_doesAct 69 = .ok (.getfield 95, 3) := by decide +kernel
theorem dX10_doesAct_72 : decode cX10_doesAct 72 = .ok (.iload_n 1, 1) := by decide +kernel
theorem dX10_doesAct_73 : decode cX10_doesAct 73 = .ok (.iaload, 1) := by decide +kernel
theorem dX10_doesAct_74 : decode cX10_doesAct 74 = .ok (.iconst 1, 1) := by decide +kernel
theorem dX10_doesAct_75 : decode cX10_doesAct 75 = .ok (.isub, 1) := by decide +kernel
theorem dX10_doesAct_76 : decode cX10_doesAct 76 = .ok (.invokevirtual 374, 3) := by decide +kernel
theorem dX10_doesAct_79 : decode cX10_doesAct 79 = .ok (.ireturn, 1) := by decide +kernel
theorem dX10_doesAct_80 : decode cX10_doesAct 80 = .ok (.aload_n 0, 1) := by decide +kernel
theorem dX10_doesAct_81 : decode cX10_doesAct 81 = .ok (.invokevirtual 392, 3) := by decide +kernel
theorem dX10_doesAct_84 : decode cX10_doesAct 84 = .ok (.ireturn, 1) := by decide +kernel
theorem dX10_doesAct_85 : decode cX10_doesAct 85 = .ok (.aload_n 0, 1) := by decide +kernel
theorem dX10_doesAct_86 : decode cX10_doesAct 86 = .ok (.invokevirtual 395, 3) := by decide +kernel
theorem dX10_doesAct_89 : decode cX10_doesAct 89 = .ok (.ireturn, 1) := by decide +kernel
theorem dX10_doesAct_90 : decode cX10_doesAct 90 = .ok (.aload_n 0, 1) := by decide +kernel
theorem dX10_doesAct_91 : decode cX10_doesAct 91 = .ok (.aload_n 0, 1) := by decide +kernel
theorem dX10_doesAct_92 : decode cX10_doesAct 92 = .ok (.getfield 98, 3) := by decide +kernel
theorem dX10_doesAct_95 : decode cX10_doesAct 95 = .ok (.iload_n 1, 1) := by decide +kernel
theorem dX10_doesAct_96 : decode cX10_doesAct 96 = .ok (.iaload, 1) := by decide +kernel
theorem dX10_doesAct_97 : decode cX10_doesAct 97 = .ok (.aload_n 0, 1) := by decide +kernel
theorem dX10_doesAct_98 : decode cX10_doesAct 98 = .ok (.getfield 101, 3) := by decide +kernel
theorem dX10_doesAct_101 : decode cX10_doesAct 101 = .ok (.iload_n 1, 1) := by decide +kernel
theorem dX10_doesAct_102 : decode cX10_doesAct 102 = .ok (.iaload, 1) := by decide +kernel
theorem dX10_doesAct_103 : decode cX10_doesAct 103 = .ok (.iconst (-1), 1) := by decide +kernel
theorem dX10_doesAct_104 : decode cX10_doesAct 104 = .ok (.iconst (-1), 1) := by decide +kernel
theorem dX10_doesAct_105 : decode cX10_doesAct 105 = .ok (.aload_n 0, 1) := by decide +kernel
theorem dX10_doesAct_106 : decode cX10_doesAct 106 = .ok (.getfield 104, 3) := by decide +kernel
theorem dX10_doesAct_109 : decode cX10_doesAct 109 = .ok (.iload_n 1, 1) := by decide +kernel
theorem dX10_doesAct_110 : decode cX10_doesAct 110 = .ok (.iaload, 1) := by decide +kernel
theorem dX10_doesAct_111 : decode cX10_doesAct 111 = .ok (.ifCond .ne 7, 3) := by decide +kernel
theorem dX10_doesAct_114 : decode cX10_doesAct 114 = .ok (.iconst 1, 1) := by decide +kernel
theorem dX10_doesAct_115 : decode cX10_doesAct 115 = .ok (.goto 4, 3) := by decide +kernel
theorem dX10_doesAct_118 : decode cX10_doesAct 118 = .ok (.iconst (-1), 1) := by decide +kernel
theorem dX10_doesAct_119 : decode cX10_doesAct 119 = .ok (.invokevirtual 332, 3) := by decide +kernel
theorem dX10_doesAct_122 : decode cX10_doesAct 122 = .ok (.ireturn, 1) := by decide +kernel
theorem dX10_doesAct_123 : decode cX10_doesAct 123 = .ok (.aload_n 0, 1) := by decide +kernel
theorem dX10_doesAct_124 : decode cX10_doesAct 124 = .ok (.invokevirtual 336, 3) := by decide +kernel
theorem dX10_doesAct_127 : decode cX10_doesAct 127 = .ok (.ireturn, 1) := by decide +kernel
set_option maxRecDepth 20000 in
set_option maxHeartbeats 2000000 in
theorem V_X10_doesAct_0 {X : Ctx} (C : C_X10_doesAct X) {k n : Nat} {Q : Pq} {h : Hp} {v0 : Nat} {v1 : Int32}
    (hv : St10 h v0 ∧ inb v1 80 ∧ 
    (((gi h (v0 + 12) (ix v1)) = 0 → S_X10_usesOne (lX X) (dtX X) 0 0 [.ref v0, .int (gi h (v0 + 13) (ix v1))] h (QI fun x10 h9 =>
    Q (some (.int x10)) h9)) ∧
     ((gi h (v0 + 12) (ix v1)) = 1 → Wj X k n Q 55 [(0, .ref v0), (1, .int v1)] [] h) ∧
     ((gi h (v0 + 12) (ix v1)) = 2 → Wj X k n Q 55 [(0, .ref v0), (1, .int v1)] [] h) ∧
     ((gi h (v0 + 12) (ix v1)) = 3 → S_X10_cutsOne (lX X) (dtX X) 0 0 [.ref v0] h (QI fun x12 h11 =>
    Q (some (.int x12)) h11)) ∧
     ((gi h (v0 + 12) (ix v1)) = 4 → S_X10_wipesOne (lX X) (dtX X) 0 0 [.ref v0] h (QI fun x14 h13 =>
    Q (some (.int x14)) h13)) ∧
     ((gi h (v0 + 12) (ix v1)) = 5 → ((¬ (gi h (v0 + 15) (ix v1)) = 0 → S_X10_gearedOne (lX X) (dtX X) 0 0 [.ref v0, .int (gi h (v0 + 13) (ix v1)), .int (gi h (v0 + 14) (ix v1)), .int (-1), .int (-1), .int (-1)] h (QI fun x16 h15 =>
    Q (some (.int x16)) h15)) ∧
    ((gi h (v0 + 15) (ix v1)) = 0 → S_X10_gearedOne (lX X) (dtX X) 0 0 [.ref v0, .int (gi h (v0 + 13) (ix v1)), .int (gi h (v0 + 14) (ix v1)), .int (-1), .int (-1), .int 1] h (QI fun x18 h17 =>
    Q (some (.int x18)) h17)))) ∧
     (¬ (gi h (v0 + 12) (ix v1)) = 0 → ¬ (gi h (v0 + 12) (ix v1)) = 1 → ¬ (gi h (v0 + 12) (ix v1)) = 2 → ¬ (gi h (v0 + 12) (ix v1)) = 3 → ¬ (gi h (v0 + 12) (ix v1)) = 4 → ¬ (gi h (v0 + 12) (ix v1)) = 5 → S_X10_ungearedOne (lX X) (dtX X) 0 0 [.ref v0] h (QI fun x21 h20 =>
    Q (some (.int x21)) h20)))) :
    Wj X k n Q 0 [(0, .ref v0), (1, .int v1)] [] h := by
  refine w_aload_n (pc := 0) C dX10_doesAct_0 rfl ?_
  obtain ⟨f1, hv⟩ := hv
  refine w_getR (pc := 1) C fl_X10_95 rfl dX10_doesAct_1 (St10_k f1) (St10_r37 f1) ?_
  refine w_iload_n (pc := 4) C dX10_doesAct_4 rfl ?_
  obtain ⟨f2, hv⟩ := hv
  refine w_iald (pc := 5) C dX10_doesAct_5 (St10_k37 f1) (inbl (St10_l37 f1) f2) ?_
  by_cases c3 : (gi h (v0 + 12) (ix v1)) = 0
  · obtain ⟨hv, -⟩ := hv
    have hv := hv c3
    refine w_tswIn (pc := 6) (tgt := 44) (off := 38) C dX10_doesAct_6 (by rw [c3]; decide) (by rw [c3]; decide) (by rw [c3]; decide) (by decide) ?_
    refine w_aload_n (pc := 44) C dX10_doesAct_44 rfl ?_
    refine w_aload_n (pc := 45) C dX10_doesAct_45 rfl ?_
    refine w_getR (pc := 46) C fl_X10_98 rfl dX10_doesAct_46 (St10_k f1) (St10_r38 f1) ?_
    refine w_iload_n (pc := 49) C dX10_doesAct_49 rfl ?_
    refine w_iald (pc := 50) C dX10_doesAct_50 (St10_k38 f1) (inbl (St10_l38 f1) f2) ?_
    refine w_cV0_1 (pc := 51) C cl_X10_326 lv_X10_usesOne (by decide) dX10_doesAct_51 (Nat.le_of_ble_eq_true rfl) (c := 10) rfl (St10_k f1) (hv.mono (fun v h9 hp => ?_))
    obtain ⟨x10, rfl, hv⟩ := hp
    exact w_iret (pc := 54) C dX10_doesAct_54 hv
  obtain ⟨-, hv⟩ := hv
  by_cases c4 : (gi h (v0 + 12) (ix v1)) = 1
  · obtain ⟨hv, -⟩ := hv
    have hv := hv c4
    refine w_tswIn (pc := 6) (tgt := 55) (off := 49) C dX10_doesAct_6 (by rw [c4]; decide) (by rw [c4]; decide) (by rw [c4]; decide) (by decide) ?_
    refine w_sub ?_ hv
    exact ⟨rfl, rfl, trivial⟩
  obtain ⟨-, hv⟩ := hv
  by_cases c5 : (gi h (v0 + 12) (ix v1)) = 2
  · obtain ⟨hv, -⟩ := hv
    have hv := hv c5
    refine w_tswIn (pc := 6) (tgt := 55) (off := 49) C dX10_doesAct_6 (by rw [c5]; decide) (by rw [c5]; decide) (by rw [c5]; decide) (by decide) ?_
    refine w_sub ?_ hv
    exact ⟨rfl, rfl, trivial⟩
  obtain ⟨-, hv⟩ := hv
  by_cases c6 : (gi h (v0 + 12) (ix v1)) = 3
  · obtain ⟨hv, -⟩ := hv
    have hv := hv c6
    refine w_tswIn (pc := 6) (tgt := 80) (off := 74) C dX10_doesAct_6 (by rw [c6]; decide) (by rw [c6]; decide) (by rw [c6]; decide) (by decide) ?_
    refine w_aload_n (pc := 80) C dX10_doesAct_80 rfl ?_
    refine w_cV0_0 (pc := 81) C cl_X10_392 lv_X10_cutsOne (by decide) dX10_doesAct_81 (Nat.le_of_ble_eq_true rfl) (c := 10) rfl (St10_k f1) (hv.mono (fun v h11 hp => ?_))
    obtain ⟨x12, rfl, hv⟩ := hp
    exact w_iret (pc := 84) C dX10_doesAct_84 hv
  obtain ⟨-, hv⟩ := hv
  by_cases c7 : (gi h (v0 + 12) (ix v1)) = 4
  · obtain ⟨hv, -⟩ := hv
    have hv := hv c7
    refine w_tswIn (pc := 6) (tgt := 85) (off := 79) C dX10_doesAct_6 (by rw [c7]; decide) (by rw [c7]; decide) (by rw [c7]; decide) (by decide) ?_
    refine w_aload_n (pc := 85) C dX10_doesAct_85 rfl ?_
    refine w_cV0_0 (pc := 86) C cl_X10_395 lv_X10_wipesOne (by decide) dX10_doesAct_86 (Nat.le_of_ble_eq_true rfl) (c := 10) rfl (St10_k f1) (hv.mono (fun v h13 hp => ?_))
    obtain ⟨x14, rfl, hv⟩ := hp
    exact w_iret (pc := 89) C dX10_doesAct_89 hv
  obtain ⟨-, hv⟩ := hv
  by_cases c8 : (gi h (v0 + 12) (ix v1)) = 5
  · obtain ⟨hv, -⟩ := hv
    have hv := hv c8
    refine w_tswIn (pc := 6) (tgt := 90) (off := 84) C dX10_doesAct_6 (by rw [c8]; decide) (by rw [c8]; decide) (by rw [c8]; decide) (by decide) ?_
    refine w_aload_n (pc := 90) C dX10_doesAct_90 rfl ?_
    refine w_aload_n (pc := 91) C dX10_doesAct_91 rfl ?_
    refine w_getR (pc := 92) C fl_X10_98 rfl dX10_doesAct_92 (St10_k f1) (St10_r38 f1) ?_
    refine w_iload_n (pc := 95) C dX10_doesAct_95 rfl ?_
    refine w_iald (pc := 96) C dX10_doesAct_96 (St10_k38 f1) (inbl (St10_l38 f1) f2) ?_
    refine w_aload_n (pc := 97) C dX10_doesAct_97 rfl ?_
    refine w_getR (pc := 98) C fl_X10_101 rfl dX10_doesAct_98 (St10_k f1) (St10_r39 f1) ?_
    refine w_iload_n (pc := 101) C dX10_doesAct_101 rfl ?_
    refine w_iald (pc := 102) C dX10_doesAct_102 (St10_k39 f1) (inbl (St10_l39 f1) f2) ?_
    refine w_iconst (pc := 103) C (v := (-1)) dX10_doesAct_103 (by decide) ?_
    refine w_iconst (pc := 104) C (v := (-1)) dX10_doesAct_104 (by decide) ?_
    refine w_aload_n (pc := 105) C dX10_doesAct_105 rfl ?_
    refine w_getR (pc := 106) C fl_X10_104 rfl dX10_doesAct_106 (St10_k f1) (St10_r40 f1) ?_
    refine w_iload_n (pc := 109) C dX10_doesAct_109 rfl ?_
    refine w_iald (pc := 110) C dX10_doesAct_110 (St10_k40 f1) (inbl (St10_l40 f1) f2) ?_
    refine w_if_ne (pc := 111) C (tgt := 118) dX10_doesAct_111 (by decide) ?_
    obtain ⟨hv1, hv2⟩ := hv
    refine ⟨fun c19 => ?_, fun c19 => ?_⟩
    · have hv := hv1 c19
      refine w_iconst (pc := 118) C (v := (-1)) dX10_doesAct_118 (by decide) ?_
      refine w_cV0_5 (pc := 119) C cl_X10_332 lv_X10_gearedOne (by decide) dX10_doesAct_119 (Nat.le_of_ble_eq_true rfl) (c := 10) rfl (St10_k f1) (hv.mono (fun v h15 hp => ?_))
      obtain ⟨x16, rfl, hv⟩ := hp
      exact w_iret (pc := 122) C dX10_doesAct_122 hv
    · have hv := hv2 c19
      refine w_iconst (pc := 114) C (v := 1) dX10_doesAct_114 (by decide) ?_
      refine w_goto (pc := 115) C (tgt := 119) dX10_doesAct_115 (by decide) ?_
      refine w_cV0_5 (pc := 119) C cl_X10_332 lv_X10_gearedOne (by decide) dX10_doesAct_119 (Nat.le_of_ble_eq_true rfl) (c := 10) rfl (St10_k f1) (hv.mono (fun v h17 hp => ?_))
      obtain ⟨x18, rfl, hv⟩ := hp
      exact w_iret (pc := 122) C dX10_doesAct_122 hv
  obtain ⟨-, hv⟩ := hv
  have hv := hv c3 c4 c5 c6 c7 c8
  refine w_tswOut (pc := 6) (tgt := 123) C dX10_doesAct_6 ?_ (by decide) ?_
  · have e0 := lv_neT (a := 0) c3 rfl; have e1 := lv_neT (a := 1) c4 rfl; have e2 := lv_neT (a := 2) c5 rfl; have e3 := lv_neT (a := 3) c6 rfl; have e4 := lv_neT (a := 4) c7 rfl; have e5 := lv_neT (a := 5) c8 rfl; omega
  refine w_aload_n (pc := 123) C dX10_doesAct_123 rfl ?_
  refine w_cV0_0 (pc := 124) C cl_X10_336 lv_X10_ungearedOne (by decide) dX10_doesAct_124 (Nat.le_of_ble_eq_true rfl) (c := 10) rfl (St10_k f1) (hv.mono (fun v h20 hp => ?_))
  obtain ⟨x21, rfl, hv⟩ := hp
  exact w_iret (pc := 127) C dX10_doesAct_127 hv
set_option maxRecDepth 20000 in
set_option maxHeartbeats 2000000 in
theorem V_X10_doesAct_55 {X : Ctx} (C : C_X10_doesAct X) {k n : Nat} {Q : Pq} {h : Hp} {v0 : Nat} {v1 : Int32}
    (hv : St10 h v0 ∧ inb v1 80 ∧ S_X10_turnsOne (lX X) (dtX X) 0 0 [.ref v0, .int (gi h (v0 + 13) (ix v1)), .int (gi h (v0 + 14) (ix v1)), .int ((gi h (v0 + 12) (ix v1)) - 1)] h (QI fun x4 h3 =>
    Q (some (.int x4)) h3)) :
    Wj X k n Q 55 [(0, .ref v0), (1, .int v1)] [] h := by
  refine w_aload_n (pc := 55) C dX10_doesAct_55 rfl ?_
  refine w_aload_n (pc := 56) C dX10_doesAct_56 rfl ?_
  obtain ⟨f1, hv⟩ := hv
  refine w_getR (pc := 57) C fl_X10_98 rfl dX10_doesAct_57 (St10_k f1) (St10_r38 f1) ?_
  refine w_iload_n (pc := 60) C dX10_doesAct_60 rfl ?_
  obtain ⟨f2, hv⟩ := hv
  refine w_iald (pc := 61) C dX10_doesAct_61 (St10_k38 f1) (inbl (St10_l38 f1) f2) ?_
  refine w_aload_n (pc := 62) C dX10_doesAct_62 rfl ?_
  refine w_getR (pc := 63) C fl_X10_101 rfl dX10_doesAct_63 (St10_k f1) (St10_r39 f1) ?_
  refine w_iload_n (pc := 66) C dX10_doesAct_66 rfl ?_
  refine w_iald (pc := 67) C dX10_doesAct_67 (St10_k39 f1) (inbl (St10_l39 f1) f2) ?_
  refine w_aload_n (pc := 68) C dX10_doesAct_68 rfl ?_
  refine w_getR (pc := 69) C fl_X10_95 rfl dX10_doesAct_69 (St10_k f1) (St10_r37 f1) ?_
  refine w_iload_n (pc := 72) C dX10_doesAct_72 rfl ?_
  refine w_iald (pc := 73) C dX10_doesAct_73 (St10_k37 f1) (inbl (St10_l37 f1) f2) ?_
  refine w_iconst (pc := 74) C (v := 1) dX10_doesAct_74 (by decide) ?_
  refine w_isub (pc := 75) C dX10_doesAct_75 ?_
  refine w_cV0_3 (pc := 76) C cl_X10_374 lv_X10_turnsOne (by decide) dX10_doesAct_76 (Nat.le_of_ble_eq_true rfl) (c := 10) rfl (St10_k f1) (hv.mono (fun v h3 hp => ?_))
  obtain ⟨x4, rfl, hv⟩ := hp
  exact w_iret (pc := 79) C dX10_doesAct_79 hv
theorem dX10_day_0 : decode cX10_day 0 = .ok (.aload_n 0, 1) := by decide +kernel
theorem dX10_day_1 : decode cX10_day 1 = .ok (.iconst 0, 1) := by decide +kernel
theorem dX10_day_2 : decode cX10_day 2 = .ok (.putfield 1, 3) := by decide +kernel
theorem dX10_day_5 : decode cX10_day 5 = .ok (.aload_n 0, 1) := by decide +kernel
theorem dX10_day_6 : decode cX10_day 6 = .ok (.invokevirtual 133, 3) := by decide +kernel
theorem dX10_day_9 : decode cX10_day 9 = .ok (.iconst 0, 1) := by decide +kernel
theorem dX10_day_10 : decode cX10_day 10 = .ok (.istore_n 1, 1) := by decide +kernel
theorem dX10_day_11 : decode cX10_day 11 = .ok (.aload_n 0, 1) := by decide +kernel
theorem dX10_day_12 : decode cX10_day 12 = .ok (.getfield 36, 3) := by decide +kernel
theorem dX10_day_15 : decode cX10_day 15 = .ok (.aload_n 0, 1) := by decide +kernel
theorem dX10_day_16 : decode cX10_day 16 = .ok (.getfield 33, 3) := by decide +kernel
theorem dX10_day_19 : decode cX10_day 19 = .ok (.if_icmp .ge 24, 3) := by decide +kernel
theorem dX10_day_22 : decode cX10_day 22 = .ok (.aload_n 0, 1) := by decide +kernel
theorem dX10_day_23 : decode cX10_day 23 = .ok (.iload_n 1, 1) := by decide +kernel
theorem dX10_day_24 : decode cX10_day 24 = .ok (.invokevirtual 425, 3) := by decide +kernel
theorem dX10_day_27 : decode cX10_day 27 = .ok (.ifCond .ne 10, 3) := by decide +kernel
theorem dX10_day_30 : decode cX10_day 30 = .ok (.iconst (-1), 1) := by decide +kernel
theorem dX10_day_31 : decode cX10_day 31 = .ok (.aload_n 0, 1) := by decide +kernel
theorem dX10_day_32 : decode cX10_day 32 = .ok (.getfield 36, 3) := by decide +kernel
theorem dX10_day_35 : decode cX10_day 35 = .ok (.isub, 1) := by decide +kernel
theorem dX10_day_36 : decode cX10_day 36 = .ok (.ireturn, 1) := by decide +kernel
theorem dX10_day_37 : decode cX10_day 37 = .ok (.iinc 1 1, 3) := by decide +kernel
theorem dX10_day_40 : decode cX10_day 40 = .ok (.goto (-29), 3) := by decide +kernel
theorem dX10_day_43 : decode cX10_day 43 = .ok (.aload_n 0, 1) := by decide +kernel
theorem dX10_day_44 : decode cX10_day 44 = .ok (.iconst 0, 1) := by decide +kernel
theorem dX10_day_45 : decode cX10_day 45 = .ok (.iconst 3, 1) := by decide +kernel
theorem dX10_day_46 : decode cX10_day 46 = .ok (.invokevirtual 118, 3) := by decide +kernel
theorem dX10_day_49 : decode cX10_day 49 = .ok (.iconst 0, 1) := by decide +kernel
theorem dX10_day_50 : decode cX10_day 50 = .ok (.istore_n 2, 1) := by decide +kernel
theorem dX10_day_51 : decode cX10_day 51 = .ok (.iload_n 2, 1) := by decide +kernel
theorem dX10_day_52 : decode cX10_day 52 = .ok (.iload_n 1, 1) := by decide +kernel
theorem dX10_day_53 : decode cX10_day 53 = .ok (.if_icmp .ge 17, 3) := by decide +kernel
theorem dX10_day_56 : decode cX10_day 56 = .ok (.aload_n 0, 1) := by decide +kernel
theorem dX10_day_57 : decode cX10_day 57 = .ok (.iload_n 2, 1) := by decide +kernel
theorem dX10_day_58 : decode cX10_day 58 = .ok (.invokevirtual 428, 3) := by decide +kernel
theorem dX10_day_61 : decode cX10_day 61 = .ok (.ifCond .lt 9, 3) := by decide +kernel
theorem dX10_day_64 : decode cX10_day 64 = .ok (.iinc 2 1, 3) := by decide +kernel
theorem dX10_day_67 : decode cX10_day 67 = .ok (.goto (-16), 3) := by decide +kernel
theorem dX10_day_70 : decode cX10_day 70 = .ok (.iload_n 2, 1) := by decide +kernel
theorem dX10_day_71 : decode cX10_day 71 = .ok (.ifCond .le 9, 3) := by decide +kernel
theorem dX10_day_74 : decode cX10_day 74 = .ok (.aload_n 0, 1) := by decide +kernel
theorem dX10_day_75 : decode cX10_day 75 = .ok (.iload_n 2, 1) := by decide +kernel
theorem dX10_day_76 : decode cX10_day 76 = .ok (.invokevirtual 147, 3) := by decide +kernel
theorem dX10_day_79 : decode cX10_day 79 = .ok (.pop, 1) := by decide +kernel
theorem dX10_day_80 : decode cX10_day 80 = .ok (.aload_n 0, 1) := by decide +kernel
theorem dX10_day_81 : decode cX10_day 81 = .ok (.iconst 0, 1) := by decide +kernel
theorem dX10_day_82 : decode cX10_day 82 = .ok (.putfield 11, 3) := by decide +kernel
theorem dX10_day_85 : decode cX10_day 85 = .ok (.aload_n 0, 1) := by decide +kernel
theorem dX10_day_86 : decode cX10_day 86 = .ok (.iload_n 2, 1) := by decide +kernel
theorem dX10_day_87 : decode cX10_day 87 = .ok (.iload_n 1, 1) := by decide +kernel
theorem dX10_day_88 : decode cX10_day 88 = .ok (.if_icmp .ge 7, 3) := by decide +kernel
theorem dX10_day_91 : decode cX10_day 91 = .ok (.iconst 1, 1) := by decide +kernel
theorem dX10_day_92 : decode cX10_day 92 = .ok (.goto 4, 3) := by decide +kernel
theorem dX10_day_95 : decode cX10_day 95 = .ok (.iconst 0, 1) := by decide +kernel
theorem dX10_day_96 : decode cX10_day 96 = .ok (.invokestatic 39, 3) := by decide +kernel
theorem dX10_day_99 : decode cX10_day 99 = .ok (.i2l, 1) := by decide +kernel
theorem dX10_day_100 : decode cX10_day 100 = .ok (.invokevirtual 18, 3) := by decide +kernel
theorem dX10_day_103 : decode cX10_day 103 = .ok (.aload_n 0, 1) := by decide +kernel
theorem dX10_day_104 : decode cX10_day 104 = .ok (.aload_n 0, 1) := by decide +kernel
theorem dX10_day_105 : decode cX10_day 105 = .ok (.invokevirtual 378, 3) := by decide +kernel
theorem dX10_day_108 : decode cX10_day 108 = .ok (.i2l, 1) := by decide +kernel
theorem dX10_day_109 : decode cX10_day 109 = .ok (.invokevirtual 18, 3) := by decide +kernel
theorem dX10_day_112 : decode cX10_day 112 = .ok (.iload_n 2, 1) := by decide +kernel
theorem dX10_day_113 : decode cX10_day 113 = .ok (.ireturn, 1) := by decide +kernel
set_option maxRecDepth 20000 in
set_option maxHeartbeats 2000000 in
theorem V_X10_day_0 {X : Ctx} (C : C_X10_day X) {k n : Nat} {Q : Pq} {h : Hp} {v0 : Nat}
    (hv : St10 h v0 ∧ Wj X k n Q 11 [(0, .ref v0), (1, .int 0)] [] (si (si (si (si h v0 0 0) v0 6 (gi (si h v0 0 0) v0 4)) v0 4 0) v0 5 0)) :
    Wj X k n Q 0 [(0, .ref v0)] [] h := by
  refine w_aload_n (pc := 0) C dX10_day_0 rfl ?_
  refine w_iconst (pc := 1) C (v := 0) dX10_day_1 (by decide) ?_
  obtain ⟨f1, hv⟩ := hv
  refine w_putI (pc := 2) C fl_X10_1 rfl rfl dX10_day_2 (St10_k f1) ?_
  refine w_aload_n (pc := 5) C dX10_day_5 rfl ?_
  refine w_cV0_0 (pc := 6) C cl_X10_133 lv_X10_reads (by decide) dX10_day_6 (Nat.le_of_ble_eq_true rfl) (c := 10) rfl (St10_k f1) ((sf_X10_reads (h := (si h v0 0 0)) f1).mono (fun v h9 hp => ?_))
  obtain ⟨e1, e2⟩ := hp
  rw [e1, e2]
  refine w_iconst (pc := 9) C (v := 0) dX10_day_9 (by decide) ?_
  refine w_istore_n (pc := 10) C dX10_day_10 (by decide) ?_
  refine w_sub ?_ hv
  exact ⟨rfl, rfl, trivial⟩
set_option maxRecDepth 20000 in
set_option maxHeartbeats 2000000 in
theorem V_X10_day_11 {X : Ctx} (C : C_X10_day X) {k n : Nat} {Q : Pq} {h : Hp} {v0 : Nat} {v1 : Int32}
    (hv : St10 h v0 ∧ (((gi h v0 6) ≤ (gi h v0 5) → S_X10_copies (lX X) (dtX X) 0 0 [.ref v0, .int 0, .int 3] h (QV fun h2 =>
    Wj X k n Q 51 [(0, .ref v0), (1, .int v1), (2, .int 0)] [] h2)) ∧
    (¬ (gi h v0 6) ≤ (gi h v0 5) → (∃ k4 n5, k + k4 ≤ mcX X ∧ n + n5 ≤ msX X ∧ S_X10_readsAct (lX X) (dtX X) k4 n5 [.ref v0, .int v1] h (QI fun x6 h3 =>
    ((¬ x6 = 0 → Wj X (k + k4) (n + n5) Q 11 [(0, .ref v0), (1, .int (v1 + Int32.ofInt 1))] [] h3) ∧
    (x6 = 0 → St10 h3 v0 ∧ Q (some (.int ((-1) - (gi h3 v0 5)))) h3))))))) :
    Wj X k n Q 11 [(0, .ref v0), (1, .int v1)] [] h := by
  refine w_aload_n (pc := 11) C dX10_day_11 rfl ?_
  obtain ⟨f1, hv⟩ := hv
  refine w_getI (pc := 12) C fl_X10_36 rfl dX10_day_12 (St10_k f1) ?_
  refine w_aload_n (pc := 15) C dX10_day_15 rfl ?_
  refine w_getI (pc := 16) C fl_X10_33 rfl dX10_day_16 (St10_k f1) ?_
  refine w_icmp_ge (pc := 19) C (tgt := 43) dX10_day_19 (by decide) ?_
  obtain ⟨hv1, hv2⟩ := hv
  refine ⟨fun c9 => ?_, fun c9 => ?_⟩
  · have hv := hv1 c9
    refine w_aload_n (pc := 43) C dX10_day_43 rfl ?_
    refine w_iconst (pc := 44) C (v := 0) dX10_day_44 (by decide) ?_
    refine w_iconst (pc := 45) C (v := 3) dX10_day_45 (by decide) ?_
    refine w_cV0_2 (pc := 46) C cl_X10_118 lv_X10_copies (by decide) dX10_day_46 (Nat.le_of_ble_eq_true rfl) (c := 10) rfl (St10_k f1) (hv.mono (fun v h2 hp => ?_))
    obtain ⟨rfl, hv⟩ := hp
    refine w_iconst (pc := 49) C (v := 0) dX10_day_49 (by decide) ?_
    refine w_istore_n (pc := 50) C dX10_day_50 (by decide) ?_
    refine w_sub ?_ hv
    exact ⟨rfl, rfl, rfl, trivial⟩
  · have hv := hv2 c9
    refine w_aload_n (pc := 22) C dX10_day_22 rfl ?_
    refine w_iload_n (pc := 23) C dX10_day_23 rfl ?_
    obtain ⟨k4, n5, hm1, hm2, hv⟩ := hv
    refine w_cV1_1 (pc := 24) C cl_X10_425 lv_X10_readsAct (by decide) dX10_day_24 (Nat.le_of_ble_eq_true rfl) (c := 10) rfl hm1 hm2 (St10_k f1) (hv.mono (fun v h3 hp => ?_))
    obtain ⟨x6, rfl, hv⟩ := hp
    refine w_if_ne (pc := 27) C (tgt := 37) dX10_day_27 (by decide) ?_
    obtain ⟨hv1, hv2⟩ := hv
    refine ⟨fun c8 => ?_, fun c8 => ?_⟩
    · have hv := hv1 c8
      refine w_iinc (pc := 37) C dX10_day_37 rfl (by decide) ?_
      refine w_goto (pc := 40) C (tgt := 11) dX10_day_40 (by decide) ?_
      refine w_sub ?_ hv
      exact ⟨rfl, rfl, trivial⟩
    · have hv := hv2 c8
      refine w_iconst (pc := 30) C (v := (-1)) dX10_day_30 (by decide) ?_
      refine w_aload_n (pc := 31) C dX10_day_31 rfl ?_
      obtain ⟨f7, hv⟩ := hv
      refine w_getI (pc := 32) C fl_X10_36 rfl dX10_day_32 (St10_k f7) ?_
      refine w_isub (pc := 35) C dX10_day_35 ?_
      exact w_iret (pc := 36) C dX10_day_36 hv
set_option maxRecDepth 20000 in
set_option maxHeartbeats 2000000 in
theorem V_X10_day_51 {X : Ctx} (C : C_X10_day X) {k n : Nat} {Q : Pq} {h : Hp} {v0 : Nat} {v1 v2 : Int32}
    (hv : ((v1 ≤ v2 → Wj X k n Q 70 [(0, .ref v0), (1, .int v1), (2, .int v2)] [] h) ∧
    (¬ v1 ≤ v2 → St10 h v0 ∧ S_X10_doesAct (lX X) (dtX X) 0 0 [.ref v0, .int v2] h (QI fun x3 h2 =>
    ((x3 < 0 → Wj X k n Q 70 [(0, .ref v0), (1, .int v1), (2, .int v2)] [] h2) ∧
    (¬ x3 < 0 → Wj X k n Q 51 [(0, .ref v0), (1, .int v1), (2, .int (v2 + Int32.ofInt 1))] [] h2)))))) :
    Wj X k n Q 51 [(0, .ref v0), (1, .int v1), (2, .int v2)] [] h := by
  refine w_iload_n (pc := 51) C dX10_day_51 rfl ?_
  refine w_iload_n (pc := 52) C dX10_day_52 rfl ?_
  refine w_icmp_ge (pc := 53) C (tgt := 70) dX10_day_53 (by decide) ?_
  obtain ⟨hv1, hv2⟩ := hv
  refine ⟨fun c5 => ?_, fun c5 => ?_⟩
  · have hv := hv1 c5
    refine w_sub ?_ hv
    exact ⟨rfl, rfl, rfl, trivial⟩
  · have hv := hv2 c5
    refine w_aload_n (pc := 56) C dX10_day_56 rfl ?_
    refine w_iload_n (pc := 57) C dX10_day_57 rfl ?_
    obtain ⟨f1, hv⟩ := hv
    refine w_cV0_1 (pc := 58) C cl_X10_428 lv_X10_doesAct (by decide) dX10_day_58 (Nat.le_of_ble_eq_true rfl) (c := 10) rfl (St10_k f1) (hv.mono (fun v h2 hp => ?_))
    obtain ⟨x3, rfl, hv⟩ := hp
    refine w_if_lt (pc := 61) C (tgt := 70) dX10_day_61 (by decide) ?_
    obtain ⟨hv1, hv2⟩ := hv
    refine ⟨fun c4 => ?_, fun c4 => ?_⟩
    · have hv := hv1 c4
      refine w_sub ?_ hv
      exact ⟨rfl, rfl, rfl, trivial⟩
    · have hv := hv2 c4
      refine w_iinc (pc := 64) C dX10_day_64 rfl (by decide) ?_
      refine w_goto (pc := 67) C (tgt := 51) dX10_day_67 (by decide) ?_
      refine w_sub ?_ hv
      exact ⟨rfl, rfl, rfl, trivial⟩
set_option maxRecDepth 20000 in
set_option maxHeartbeats 2000000 in
theorem V_X10_day_70 {X : Ctx} (C : C_X10_day X) {k n : Nat} {Q : Pq} {h : Hp} {v0 : Nat} {v1 v2 : Int32}
    (hv : ((v2 ≤ 0 → Wj X k n Q 80 [(0, .ref v0), (1, .int v1), (2, .int v2)] [] h) ∧
    (¬ v2 ≤ 0 → St10 h v0 ∧ S_X10_done (lX X) (dtX X) 0 0 [.ref v0, .int v2] h (QI fun x3 h2 =>
    Wj X k n Q 80 [(0, .ref v0), (1, .int v1), (2, .int v2)] [] h2)))) :
    Wj X k n Q 70 [(0, .ref v0), (1, .int v1), (2, .int v2)] [] h := by
  refine w_iload_n (pc := 70) C dX10_day_70 rfl ?_
  refine w_if_le (pc := 71) C (tgt := 80) dX10_day_71 (by decide) ?_
  obtain ⟨hv1, hv2⟩ := hv
  refine ⟨fun c4 => ?_, fun c4 => ?_⟩
  · have hv := hv1 c4
    refine w_sub ?_ hv
    exact ⟨rfl, rfl, rfl, trivial⟩
  · have hv := hv2 c4
    refine w_aload_n (pc := 74) C dX10_day_74 rfl ?_
    refine w_iload_n (pc := 75) C dX10_day_75 rfl ?_
    obtain ⟨f1, hv⟩ := hv
    refine w_cV0_1 (pc := 76) C cl_X10_147 lv_X10_done (by decide) dX10_day_76 (Nat.le_of_ble_eq_true rfl) (c := 10) rfl (St10_k f1) (hv.mono (fun v h2 hp => ?_))
    obtain ⟨x3, rfl, hv⟩ := hp
    refine w_pop (pc := 79) C dX10_day_79 rfl ?_
    refine w_sub ?_ hv
    exact ⟨rfl, rfl, rfl, trivial⟩
set_option maxRecDepth 20000 in
set_option maxHeartbeats 2000000 in
theorem V_X10_day_80 {X : Ctx} (C : C_X10_day X) {k n : Nat} {Q : Pq} {h : Hp} {v0 : Nat} {v1 v2 : Int32}
    (hv : St10 h v0 ∧ ((v1 ≤ v2 → Wj X k n Q 96 [(0, .ref v0), (2, .int v2)] [.int 0, .ref v0] (si h v0 1 0)) ∧
    (¬ v1 ≤ v2 → Wj X k n Q 96 [(0, .ref v0), (2, .int v2)] [.int 1, .ref v0] (si h v0 1 0)))) :
    Wj X k n Q 80 [(0, .ref v0), (1, .int v1), (2, .int v2)] [] h := by
  refine w_aload_n (pc := 80) C dX10_day_80 rfl ?_
  refine w_iconst (pc := 81) C (v := 0) dX10_day_81 (by decide) ?_
  obtain ⟨f1, hv⟩ := hv
  refine w_putI (pc := 82) C fl_X10_11 rfl rfl dX10_day_82 (St10_k f1) ?_
  refine w_aload_n (pc := 85) C dX10_day_85 rfl ?_
  refine w_iload_n (pc := 86) C dX10_day_86 rfl ?_
  refine w_iload_n (pc := 87) C dX10_day_87 rfl ?_
  refine w_icmp_ge (pc := 88) C (tgt := 95) dX10_day_88 (by decide) ?_
  obtain ⟨hv1, hv2⟩ := hv
  refine ⟨fun c2 => ?_, fun c2 => ?_⟩
  · have hv := hv1 c2
    refine w_iconst (pc := 95) C (v := 0) dX10_day_95 (by decide) ?_
    refine w_sub ?_ hv
    exact ⟨rfl, rfl, trivial⟩
  · have hv := hv2 c2
    refine w_iconst (pc := 91) C (v := 1) dX10_day_91 (by decide) ?_
    refine w_goto (pc := 92) C (tgt := 96) dX10_day_92 (by decide) ?_
    refine w_sub ?_ hv
    exact ⟨rfl, rfl, trivial⟩
set_option maxRecDepth 20000 in
set_option maxHeartbeats 2000000 in
theorem V_X10_day_96 {X : Ctx} (C : C_X10_day X) {k n : Nat} {Q : Pq} {h : Hp} {v0 s0 : Nat} {v2 s1 : Int32}
    (hv : St10 h s0 ∧ S_X10_enters (lX X) (dtX X) 0 0 [.ref s0, .long (Int32.toInt64 (flg s1))] h (QV fun h2 =>
    St10 h2 v0 ∧ S_X10_enters (lX X) (dtX X) 0 0 [.ref v0, .long (Int32.toInt64 (gi h2 (v0 + 3) (ix 60)))] h2 (QV fun h4 =>
    Q (some (.int v2)) h4))) :
    Wj X k n Q 96 [(0, .ref v0), (2, .int v2)] [.int s1, .ref s0] h := by
  refine w_cS0_1 (pc := 96) C cl_X10_39 ls_X10_flag (by decide) dX10_day_96 (Nat.le_of_ble_eq_true rfl) ((sf_X10_flag (h := h) ).mono (fun v h9 hp => ?_))
  obtain ⟨e1, e2⟩ := hp
  rw [e1, e2]
  refine w_i2l (pc := 99) C dX10_day_99 ?_
  obtain ⟨f1, hv⟩ := hv
  refine w_cV0_1 (pc := 100) C cl_X10_18 lv_X10_enters (by decide) dX10_day_100 (Nat.le_of_ble_eq_true rfl) (c := 10) rfl (St10_k f1) (hv.mono (fun v h2 hp => ?_))
  obtain ⟨rfl, hv⟩ := hp
  refine w_aload_n (pc := 103) C dX10_day_103 rfl ?_
  refine w_aload_n (pc := 104) C dX10_day_104 rfl ?_
  obtain ⟨f3, hv⟩ := hv
  refine w_cV0_0 (pc := 105) C cl_X10_378 lv_X10_marks (by decide) dX10_day_105 (Nat.le_of_ble_eq_true rfl) (c := 10) rfl (St10_k f3) ((sf_X10_marks (h := h2) f3).mono (fun v h9 hp => ?_))
  obtain ⟨e1, e2⟩ := hp
  rw [e1, e2]
  refine w_i2l (pc := 108) C dX10_day_108 ?_
  refine w_cV0_1 (pc := 109) C cl_X10_18 lv_X10_enters (by decide) dX10_day_109 (Nat.le_of_ble_eq_true rfl) (c := 10) rfl (St10_k f3) (hv.mono (fun v h4 hp => ?_))
  obtain ⟨rfl, hv⟩ := hp
  refine w_iload_n (pc := 112) C dX10_day_112 rfl ?_
  exact w_iret (pc := 113) C dX10_day_113 hv
