-- the class: calls of the machine (by program: gen_parts.py)
theorem dX9_adopt_0 : decode cX9_adopt 0 = .ok (.iload_n 1, 1) := by decide +kernel
theorem dX9_adopt_1 : decode cX9_adopt 1 = .ok (.ifCond .lt 10, 3) := by decide +kernel
theorem dX9_adopt_4 : decode cX9_adopt 4 = .ok (.aload_n 0, 1) := by decide +kernel
theorem dX9_adopt_5 : decode cX9_adopt 5 = .ok (.getfield 70, 3) := by decide +kernel
theorem dX9_adopt_8 : decode cX9_adopt 8 = .ok (.ifCond .ge 5, 3) := by decide +kernel
theorem dX9_adopt_11 : decode cX9_adopt 11 = .ok (.iload_n 1, 1) := by decide +kernel
theorem dX9_adopt_12 : decode cX9_adopt 12 = .ok (.ireturn, 1) := by decide +kernel
theorem dX9_adopt_13 : decode cX9_adopt 13 = .ok (.aload_n 0, 1) := by decide +kernel
theorem dX9_adopt_14 : decode cX9_adopt 14 = .ok (.getfield 70, 3) := by decide +kernel
theorem dX9_adopt_17 : decode cX9_adopt 17 = .ok (.aload_n 0, 1) := by decide +kernel
theorem dX9_adopt_18 : decode cX9_adopt 18 = .ok (.getfield 63, 3) := by decide +kernel
theorem dX9_adopt_21 : decode cX9_adopt 21 = .ok (.arraylength, 1) := by decide +kernel
theorem dX9_adopt_22 : decode cX9_adopt 22 = .ok (.if_icmp .lt 65, 3) := by decide +kernel
theorem dX9_adopt_25 : decode cX9_adopt 25 = .ok (.aload_n 0, 1) := by decide +kernel
theorem dX9_adopt_26 : decode cX9_adopt 26 = .ok (.getfield 63, 3) := by decide +kernel
theorem dX9_adopt_29 : decode cX9_adopt 29 = .ok (.iconst 0, 1) := by decide +kernel
theorem dX9_adopt_30 : decode cX9_adopt 30 = .ok (.aaload, 1) := by decide +kernel
theorem dX9_adopt_31 : decode cX9_adopt 31 = .ok (.astore_n 2, 1) := by decide +kernel
theorem dX9_adopt_32 : decode cX9_adopt 32 = .ok (.iconst 1, 1) := by decide +kernel
theorem dX9_adopt_33 : decode cX9_adopt 33 = .ok (.istore_n 3, 1) := by decide +kernel
theorem dX9_adopt_34 : decode cX9_adopt 34 = .ok (.iload_n 3, 1) := by decide +kernel
theorem dX9_adopt_35 : decode cX9_adopt 35 = .ok (.aload_n 0, 1) := by decide +kernel
theorem dX9_adopt_36 : decode cX9_adopt 36 = .ok (.getfield 63, 3) := by decide +kernel
theorem dX9_adopt_39 : decode cX9_adopt 39 = .ok (.arraylength, 1) := by decide +kernel
theorem dX9_adopt_40 : decode cX9_adopt 40 = .ok (.if_icmp .ge 23, 3) := by decide +kernel
theorem dX9_adopt_43 : decode cX9_adopt 43 = .ok (.aload_n 0, 1) := by decide +kernel
theorem dX9_adopt_44 : decode cX9_adopt 44 = .ok (.getfield 63, 3) := by decide +kernel
theorem dX9_adopt_47 : decode cX9_adopt 47 = .ok (.iload_n 3, 1) := by decide +kernel
theorem dX9_adopt_48 : decode cX9_adopt 48 = .ok (.iconst 1, 1) := by decide +kernel
theorem dX9_adopt_49 : decode cX9_adopt 49 = .ok (.isub, 1) := by decide +kernel
theorem dX9_adopt_50 : decode cX9_adopt 50 = .ok (.aload_n 0, 1) := by decide +kernel
theorem dX9_adopt_51 : decode cX9_adopt 51 = .ok (.getfield 63, 3) := by decide +kernel
theorem dX9_adopt_54 : decode cX9_adopt 54 = .ok (.iload_n 3, 1) := by decide +kernel
theorem dX9_adopt_55 : decode cX9_adopt 55 = .ok (.aaload, 1) := by decide +kernel
theorem dX9_adopt_56 : decode cX9_adopt 56 = .ok (.aastore, 1) := by decide +kernel
theorem dX9_adopt_57 : decode cX9_adopt 57 = .ok (.iinc 3 1, 3) := by decide +kernel
theorem dX9_adopt_60 : decode cX9_adopt 60 = .ok (.goto (-26), 3) := by decide +kernel
theorem dX9_adopt_63 : decode cX9_adopt 63 = .ok (.aload_n 0, 1) := by decide +kernel
theorem dX9_adopt_64 : decode cX9_adopt 64 = .ok (.getfield 63, 3) := by decide +kernel
theorem dX9_adopt_67 : decode cX9_adopt 67 = .ok (.aload_n 0, 1) := by decide +kernel
theorem dX9_adopt_68 : decode cX9_adopt 68 = .ok (.getfield 63, 3) := by decide +kernel
theorem dX9_adopt_71 : decode cX9_adopt 71 = .ok (.arraylength, 1) := by decide +kernel
theorem dX9_adopt_72 : decode cX9_adopt 72 = .ok (.iconst 1, 1) := by decide +kernel
theorem dX9_adopt_73 : decode cX9_adopt 73 = .ok (.isub, 1) := by decide +kernel
theorem dX9_adopt_74 : decode cX9_adopt 74 = .ok (.aload_n 2, 1) := by decide +kernel
theorem dX9_adopt_75 : decode cX9_adopt 75 = .ok (.aastore, 1) := by decide +kernel
theorem dX9_adopt_76 : decode cX9_adopt 76 = .ok (.aload_n 0, 1) := by decide +kernel
theorem dX9_adopt_77 : decode cX9_adopt 77 = .ok (.aload_n 0, 1) := by decide +kernel
theorem dX9_adopt_78 : decode cX9_adopt 78 = .ok (.getfield 63, 3) := by decide +kernel
theorem dX9_adopt_81 : decode cX9_adopt 81 = .ok (.arraylength, 1) := by decide +kernel
theorem dX9_adopt_82 : decode cX9_adopt 82 = .ok (.iconst 1, 1) := by decide +kernel
theorem dX9_adopt_83 : decode cX9_adopt 83 = .ok (.isub, 1) := by decide +kernel
theorem dX9_adopt_84 : decode cX9_adopt 84 = .ok (.putfield 70, 3) := by decide +kernel
theorem dX9_adopt_87 : decode cX9_adopt 87 = .ok (.aload_n 0, 1) := by decide +kernel
theorem dX9_adopt_88 : decode cX9_adopt 88 = .ok (.getfield 63, 3) := by decide +kernel
theorem dX9_adopt_91 : decode cX9_adopt 91 = .ok (.aload_n 0, 1) := by decide +kernel
theorem dX9_adopt_92 : decode cX9_adopt 92 = .ok (.getfield 70, 3) := by decide +kernel
theorem dX9_adopt_95 : decode cX9_adopt 95 = .ok (.aaload, 1) := by decide +kernel
theorem dX9_adopt_96 : decode cX9_adopt 96 = .ok (.astore_n 2, 1) := by decide +kernel
theorem dX9_adopt_97 : decode cX9_adopt 97 = .ok (.aload_n 0, 1) := by decide +kernel
theorem dX9_adopt_98 : decode cX9_adopt 98 = .ok (.getfield 63, 3) := by decide +kernel
theorem dX9_adopt_101 : decode cX9_adopt 101 = .ok (.aload_n 0, 1) := by decide +kernel
theorem dX9_adopt_102 : decode cX9_adopt 102 = .ok (.getfield 70, 3) := by decide +kernel
theorem dX9_adopt_105 : decode cX9_adopt 105 = .ok (.aload_n 0, 1) := by decide +kernel
theorem dX9_adopt_106 : decode cX9_adopt 106 = .ok (.getfield 78, 3) := by decide +kernel
theorem dX9_adopt_109 : decode cX9_adopt 109 = .ok (.aastore, 1) := by decide +kernel
theorem dX9_adopt_110 : decode cX9_adopt 110 = .ok (.aload_n 0, 1) := by decide +kernel
theorem dX9_adopt_111 : decode cX9_adopt 111 = .ok (.dup, 1) := by decide +kernel
theorem dX9_adopt_112 : decode cX9_adopt 112 = .ok (.getfield 70, 3) := by decide +kernel
theorem dX9_adopt_115 : decode cX9_adopt 115 = .ok (.iconst 1, 1) := by decide +kernel
theorem dX9_adopt_116 : decode cX9_adopt 116 = .ok (.iadd, 1) := by decide +kernel
theorem dX9_adopt_117 : decode cX9_adopt 117 = .ok (.putfield 70, 3) := by decide +kernel
theorem dX9_adopt_120 : decode cX9_adopt 120 = .ok (.aload_n 0, 1) := by decide +kernel
theorem dX9_adopt_121 : decode cX9_adopt 121 = .ok (.aload_n 0, 1) := by decide +kernel
theorem dX9_adopt_122 : decode cX9_adopt 122 = .ok (.getfield 82, 3) := by decide +kernel
theorem dX9_adopt_125 : decode cX9_adopt 125 = .ok (.putfield 78, 3) := by decide +kernel
theorem dX9_adopt_128 : decode cX9_adopt 128 = .ok (.aload_n 0, 1) := by decide +kernel
theorem dX9_adopt_129 : decode cX9_adopt 129 = .ok (.aload_n 2, 1) := by decide +kernel
theorem dX9_adopt_130 : decode cX9_adopt 130 = .ok (.ifnonnull 13, 3) := by decide +kernel
theorem dX9_adopt_133 : decode cX9_adopt 133 = .ok (.new 61, 3) := by decide +kernel
theorem dX9_adopt_136 : decode cX9_adopt 136 = .ok (.dup, 1) := by decide +kernel
theorem dX9_adopt_137 : decode cX9_adopt 137 = .ok (.invokespecial 77, 3) := by decide +kernel
theorem dX9_adopt_140 : decode cX9_adopt 140 = .ok (.goto 4, 3) := by decide +kernel
theorem dX9_adopt_143 : decode cX9_adopt 143 = .ok (.aload_n 2, 1) := by decide +kernel
theorem dX9_adopt_144 : decode cX9_adopt 144 = .ok (.putfield 82, 3) := by decide +kernel
theorem dX9_adopt_147 : decode cX9_adopt 147 = .ok (.iload_n 1, 1) := by decide +kernel
theorem dX9_adopt_148 : decode cX9_adopt 148 = .ok (.ireturn, 1) := by decide +kernel
set_option maxRecDepth 20000 in
set_option maxHeartbeats 2000000 in
theorem V_X9_adopt_0 {X : Ctx} (C : C_X9_adopt X) {k n : Nat} {Q : Pq} {h : Hp} {v0 : Nat} {v1 : Int32}
    (hv : ((v1 < 0 → Q (some (.int v1)) h) ∧
    (¬ v1 < 0 → St9 h v0 ∧ ((0 ≤ (gi h v0 10) → (((gi h v0 10) < (Int32.ofNat 7) → Wj X k n Q 87 [(0, .ref v0), (1, .int v1)] [] h) ∧
    (¬ (gi h v0 10) < (Int32.ofNat 7) → ((gr h (v0 + 15) (ix 0) = none → Wj X k n Q 34 [(0, .ref v0), (1, .int v1), (2, .null), (3, .int 1)] [] h) ∧
    (∀ b2, gr h (v0 + 15) (ix 0) = some b2 → Wj X k n Q 34 [(0, .ref v0), (1, .int v1), (2, .ref b2), (3, .int 1)] [] h))))) ∧
    (¬ 0 ≤ (gi h v0 10) → Q (some (.int v1)) h))))) :
    Wj X k n Q 0 [(0, .ref v0), (1, .int v1)] [] h := by
  refine w_iload_n (pc := 0) C dX9_adopt_0 rfl ?_
  refine w_if_lt (pc := 1) C (tgt := 11) dX9_adopt_1 (by decide) ?_
  obtain ⟨hv1, hv2⟩ := hv
  refine ⟨fun c6 => ?_, fun c6 => ?_⟩
  · have hv := hv1 c6
    refine w_iload_n (pc := 11) C dX9_adopt_11 rfl ?_
    exact w_iret (pc := 12) C dX9_adopt_12 hv
  · have hv := hv2 c6
    refine w_aload_n (pc := 4) C dX9_adopt_4 rfl ?_
    obtain ⟨f1, hv⟩ := hv
    refine w_getI (pc := 5) C fl_X9_70 rfl dX9_adopt_5 (St9_k f1) ?_
    refine w_if_ge (pc := 8) C (tgt := 13) dX9_adopt_8 (by decide) ?_
    obtain ⟨hv1, hv2⟩ := hv
    refine ⟨fun c5 => ?_, fun c5 => ?_⟩
    · have hv := hv1 c5
      refine w_aload_n (pc := 13) C dX9_adopt_13 rfl ?_
      refine w_getI (pc := 14) C fl_X9_70 rfl dX9_adopt_14 (St9_k f1) ?_
      refine w_aload_n (pc := 17) C dX9_adopt_17 rfl ?_
      refine w_getR (pc := 18) C fl_X9_63 rfl dX9_adopt_18 (St9_k f1) (St9_r8 f1) ?_
      refine w_alen (pc := 21) 4 (by decide) C dX9_adopt_21 (St9_k8 f1) ?_
      rw [(St9_l8 f1)]
      refine w_icmp_lt (pc := 22) C (tgt := 87) dX9_adopt_22 (by decide) ?_
      obtain ⟨hv1, hv2⟩ := hv
      refine ⟨fun c4 => ?_, fun c4 => ?_⟩
      · have hv := hv1 c4
        refine w_sub ?_ hv
        exact ⟨rfl, rfl, trivial⟩
      · have hv := hv2 c4
        refine w_aload_n (pc := 25) C dX9_adopt_25 rfl ?_
        refine w_getR (pc := 26) C fl_X9_63 rfl dX9_adopt_26 (St9_k f1) (St9_r8 f1) ?_
        refine w_iconst (pc := 29) C (v := 0) dX9_adopt_29 (by decide) ?_
        refine w_aald (pc := 30) C dX9_adopt_30 (St9_k8 f1) (inbl (St9_l8 f1) (inbd (by decide))) ?_
        obtain ⟨hv1, hv2⟩ := hv
        refine ⟨fun c3 => ?_, fun b2 c3 => ?_⟩
        · have hv := hv1 c3
          refine w_astore_nN (pc := 31) C dX9_adopt_31 (by decide) ?_
          refine w_iconst (pc := 32) C (v := 1) dX9_adopt_32 (by decide) ?_
          refine w_istore_n (pc := 33) C dX9_adopt_33 (by decide) ?_
          refine w_sub ?_ hv
          exact ⟨rfl, rfl, rfl, rfl, trivial⟩
        · have hv := hv2 b2 c3
          refine w_astore_n (pc := 31) C dX9_adopt_31 (by decide) ?_
          refine w_iconst (pc := 32) C (v := 1) dX9_adopt_32 (by decide) ?_
          refine w_istore_n (pc := 33) C dX9_adopt_33 (by decide) ?_
          refine w_sub ?_ hv
          exact ⟨rfl, rfl, rfl, rfl, trivial⟩
    · have hv := hv2 c5
      refine w_iload_n (pc := 11) C dX9_adopt_11 rfl ?_
      exact w_iret (pc := 12) C dX9_adopt_12 hv
set_option maxRecDepth 20000 in
set_option maxHeartbeats 2000000 in
theorem V_X9_adopt_34 {X : Ctx} (C : C_X9_adopt X) {k n : Nat} {Q : Pq} {h : Hp} {v0 v2 : Nat} {v1 v3 : Int32}
    (hv : St9 h v0 ∧ (((Int32.ofNat 7) ≤ v3 → inb ((Int32.ofNat 7) - 1) 7 ∧ St4 h v2 ∧ St9 (sr h (v0 + 15) (ix ((Int32.ofNat 7) - 1)) (some v2)) v0 ∧ Wj X k n Q 87 [(0, .ref v0), (1, .int v1)] [] (si (sr h (v0 + 15) (ix ((Int32.ofNat 7) - 1)) (some v2)) v0 10 ((Int32.ofNat 7) - 1))) ∧
    (¬ (Int32.ofNat 7) ≤ v3 → inb v3 7 ∧ nn h (v0 + 15) (ix v3) ∧ inb (v3 - 1) 7 ∧ St4 h (gp h (v0 + 15) (ix v3)) ∧ Wj X k n Q 34 [(0, .ref v0), (1, .int v1), (2, .ref v2), (3, .int (v3 + Int32.ofInt 1))] [] (sr h (v0 + 15) (ix (v3 - 1)) (some (gp h (v0 + 15) (ix v3))))))) :
    Wj X k n Q 34 [(0, .ref v0), (1, .int v1), (2, .ref v2), (3, .int v3)] [] h := by
  refine w_iload_n (pc := 34) C dX9_adopt_34 rfl ?_
  refine w_aload_n (pc := 35) C dX9_adopt_35 rfl ?_
  obtain ⟨f1, hv⟩ := hv
  refine w_getR (pc := 36) C fl_X9_63 rfl dX9_adopt_36 (St9_k f1) (St9_r8 f1) ?_
  refine w_alen (pc := 39) 4 (by decide) C dX9_adopt_39 (St9_k8 f1) ?_
  rw [(St9_l8 f1)]
  refine w_icmp_ge (pc := 40) C (tgt := 63) dX9_adopt_40 (by decide) ?_
  obtain ⟨hv1, hv2⟩ := hv
  refine ⟨fun c9 => ?_, fun c9 => ?_⟩
  · have hv := hv1 c9
    refine w_aload_n (pc := 63) C dX9_adopt_63 rfl ?_
    refine w_getR (pc := 64) C fl_X9_63 rfl dX9_adopt_64 (St9_k f1) (St9_r8 f1) ?_
    refine w_aload_n (pc := 67) C dX9_adopt_67 rfl ?_
    refine w_getR (pc := 68) C fl_X9_63 rfl dX9_adopt_68 (St9_k f1) (St9_r8 f1) ?_
    refine w_alen (pc := 71) 4 (by decide) C dX9_adopt_71 (St9_k8 f1) ?_
    rw [(St9_l8 f1)]
    refine w_iconst (pc := 72) C (v := 1) dX9_adopt_72 (by decide) ?_
    refine w_isub (pc := 73) C dX9_adopt_73 ?_
    refine w_aload_n (pc := 74) C dX9_adopt_74 rfl ?_
    obtain ⟨f2, hv⟩ := hv
    obtain ⟨f3, hv⟩ := hv
    refine w_aast (pc := 75) C dX9_adopt_75 (St9_k8 f1) (inbl (St9_l8 f1) f2) (St4_k f3) ?_
    refine w_aload_n (pc := 76) C dX9_adopt_76 rfl ?_
    refine w_aload_n (pc := 77) C dX9_adopt_77 rfl ?_
    obtain ⟨f4, hv⟩ := hv
    refine w_getR (pc := 78) C fl_X9_63 rfl dX9_adopt_78 (St9_k f4) (St9_r8 f4) ?_
    refine w_alen (pc := 81) 4 (by decide) C dX9_adopt_81 (St9_k8 f4) ?_
    rw [(St9_l8 f4)]
    refine w_iconst (pc := 82) C (v := 1) dX9_adopt_82 (by decide) ?_
    refine w_isub (pc := 83) C dX9_adopt_83 ?_
    refine w_putI (pc := 84) C fl_X9_70 rfl rfl dX9_adopt_84 (St9_k f4) ?_
    refine w_sub ?_ hv
    exact ⟨rfl, rfl, trivial⟩
  · have hv := hv2 c9
    refine w_aload_n (pc := 43) C dX9_adopt_43 rfl ?_
    refine w_getR (pc := 44) C fl_X9_63 rfl dX9_adopt_44 (St9_k f1) (St9_r8 f1) ?_
    refine w_iload_n (pc := 47) C dX9_adopt_47 rfl ?_
    refine w_iconst (pc := 48) C (v := 1) dX9_adopt_48 (by decide) ?_
    refine w_isub (pc := 49) C dX9_adopt_49 ?_
    refine w_aload_n (pc := 50) C dX9_adopt_50 rfl ?_
    refine w_getR (pc := 51) C fl_X9_63 rfl dX9_adopt_51 (St9_k f1) (St9_r8 f1) ?_
    refine w_iload_n (pc := 54) C dX9_adopt_54 rfl ?_
    obtain ⟨f5, hv⟩ := hv
    obtain ⟨f6, hv⟩ := hv
    refine w_aaldR (pc := 55) C dX9_adopt_55 (St9_k8 f1) (inbl (St9_l8 f1) f5) f6 ?_
    obtain ⟨f7, hv⟩ := hv
    obtain ⟨f8, hv⟩ := hv
    refine w_aast (pc := 56) C dX9_adopt_56 (St9_k8 f1) (inbl (St9_l8 f1) f7) (St4_k f8) ?_
    refine w_iinc (pc := 57) C dX9_adopt_57 rfl (by decide) ?_
    refine w_goto (pc := 60) C (tgt := 34) dX9_adopt_60 (by decide) ?_
    refine w_sub ?_ hv
    exact ⟨rfl, rfl, rfl, rfl, trivial⟩
set_option maxRecDepth 20000 in
set_option maxHeartbeats 2000000 in
theorem V_X9_adopt_87 {X : Ctx} (C : C_X9_adopt X) {k n : Nat} {Q : Pq} {h : Hp} {v0 : Nat} {v1 : Int32}
    (hv : St9 h v0 ∧ inb (gi h v0 10) 7 ∧ ((gr h (v0 + 15) (ix (gi h v0 10)) = none → nn h v0 12 ∧ St4 h (gp h v0 12) ∧ St9 (sr h (v0 + 15) (ix (gi h v0 10)) (some (gp h v0 12))) v0 ∧ nn (sr h (v0 + 15) (ix (gi h v0 10)) (some (gp h v0 12))) v0 13 ∧ Wj X k n Q 128 [(0, .ref v0), (1, .int v1), (2, .null)] [] (sr (si (sr h (v0 + 15) (ix (gi h v0 10)) (some (gp h v0 12))) v0 10 ((gi h v0 10) + 1)) v0 12 (some (gp (sr h (v0 + 15) (ix (gi h v0 10)) (some (gp h v0 12))) v0 13)))) ∧
    (∀ b3, gr h (v0 + 15) (ix (gi h v0 10)) = some b3 → nn h v0 12 ∧ St4 h (gp h v0 12) ∧ St9 (sr h (v0 + 15) (ix (gi h v0 10)) (some (gp h v0 12))) v0 ∧ nn (sr h (v0 + 15) (ix (gi h v0 10)) (some (gp h v0 12))) v0 13 ∧ Wj X k n Q 128 [(0, .ref v0), (1, .int v1), (2, .ref b3)] [] (sr (si (sr h (v0 + 15) (ix (gi h v0 10)) (some (gp h v0 12))) v0 10 ((gi h v0 10) + 1)) v0 12 (some (gp (sr h (v0 + 15) (ix (gi h v0 10)) (some (gp h v0 12))) v0 13)))))) :
    Wj X k n Q 87 [(0, .ref v0), (1, .int v1)] [] h := by
  refine w_aload_n (pc := 87) C dX9_adopt_87 rfl ?_
  obtain ⟨f1, hv⟩ := hv
  refine w_getR (pc := 88) C fl_X9_63 rfl dX9_adopt_88 (St9_k f1) (St9_r8 f1) ?_
  refine w_aload_n (pc := 91) C dX9_adopt_91 rfl ?_
  refine w_getI (pc := 92) C fl_X9_70 rfl dX9_adopt_92 (St9_k f1) ?_
  obtain ⟨f2, hv⟩ := hv
  refine w_aald (pc := 95) C dX9_adopt_95 (St9_k8 f1) (inbl (St9_l8 f1) f2) ?_
  obtain ⟨hv1, hv2⟩ := hv
  refine ⟨fun c4 => ?_, fun b3 c4 => ?_⟩
  · have hv := hv1 c4
    refine w_astore_nN (pc := 96) C dX9_adopt_96 (by decide) ?_
    refine w_aload_n (pc := 97) C dX9_adopt_97 rfl ?_
    refine w_getR (pc := 98) C fl_X9_63 rfl dX9_adopt_98 (St9_k f1) (St9_r8 f1) ?_
    refine w_aload_n (pc := 101) C dX9_adopt_101 rfl ?_
    refine w_getI (pc := 102) C fl_X9_70 rfl dX9_adopt_102 (St9_k f1) ?_
    refine w_aload_n (pc := 105) C dX9_adopt_105 rfl ?_
    obtain ⟨f5, hv⟩ := hv
    refine w_getR (pc := 106) C fl_X9_78 rfl dX9_adopt_106 (St9_k f1) f5 ?_
    obtain ⟨f6, hv⟩ := hv
    refine w_aast (pc := 109) C dX9_adopt_109 (St9_k8 f1) (inbl (St9_l8 f1) f2) (St4_k f6) ?_
    refine w_aload_n (pc := 110) C dX9_adopt_110 rfl ?_
    refine w_dup (pc := 111) C dX9_adopt_111 rfl ?_
    obtain ⟨f7, hv⟩ := hv
    refine w_getI (pc := 112) C fl_X9_70 rfl dX9_adopt_112 (St9_k f7) ?_
    refine w_iconst (pc := 115) C (v := 1) dX9_adopt_115 (by decide) ?_
    refine w_iadd (pc := 116) C dX9_adopt_116 ?_
    refine w_putI (pc := 117) C fl_X9_70 rfl rfl dX9_adopt_117 (St9_k f7) ?_
    refine w_aload_n (pc := 120) C dX9_adopt_120 rfl ?_
    refine w_aload_n (pc := 121) C dX9_adopt_121 rfl ?_
    obtain ⟨f8, hv⟩ := hv
    refine w_getR (pc := 122) C fl_X9_82 rfl dX9_adopt_122 (St9_k f7) f8 ?_
    refine w_putR (pc := 125) C fl_X9_78 rfl rfl dX9_adopt_125 (St9_k f7) ?_
    refine w_sub ?_ hv
    exact ⟨rfl, rfl, rfl, trivial⟩
  · have hv := hv2 b3 c4
    refine w_astore_n (pc := 96) C dX9_adopt_96 (by decide) ?_
    refine w_aload_n (pc := 97) C dX9_adopt_97 rfl ?_
    refine w_getR (pc := 98) C fl_X9_63 rfl dX9_adopt_98 (St9_k f1) (St9_r8 f1) ?_
    refine w_aload_n (pc := 101) C dX9_adopt_101 rfl ?_
    refine w_getI (pc := 102) C fl_X9_70 rfl dX9_adopt_102 (St9_k f1) ?_
    refine w_aload_n (pc := 105) C dX9_adopt_105 rfl ?_
    obtain ⟨f9, hv⟩ := hv
    refine w_getR (pc := 106) C fl_X9_78 rfl dX9_adopt_106 (St9_k f1) f9 ?_
    obtain ⟨f10, hv⟩ := hv
    refine w_aast (pc := 109) C dX9_adopt_109 (St9_k8 f1) (inbl (St9_l8 f1) f2) (St4_k f10) ?_
    refine w_aload_n (pc := 110) C dX9_adopt_110 rfl ?_
    refine w_dup (pc := 111) C dX9_adopt_111 rfl ?_
    obtain ⟨f11, hv⟩ := hv
    refine w_getI (pc := 112) C fl_X9_70 rfl dX9_adopt_112 (St9_k f11) ?_
    refine w_iconst (pc := 115) C (v := 1) dX9_adopt_115 (by decide) ?_
    refine w_iadd (pc := 116) C dX9_adopt_116 ?_
    refine w_putI (pc := 117) C fl_X9_70 rfl rfl dX9_adopt_117 (St9_k f11) ?_
    refine w_aload_n (pc := 120) C dX9_adopt_120 rfl ?_
    refine w_aload_n (pc := 121) C dX9_adopt_121 rfl ?_
    obtain ⟨f12, hv⟩ := hv
    refine w_getR (pc := 122) C fl_X9_82 rfl dX9_adopt_122 (St9_k f11) f12 ?_
    refine w_putR (pc := 125) C fl_X9_78 rfl rfl dX9_adopt_125 (St9_k f11) ?_
    refine w_sub ?_ hv
    exact ⟨rfl, rfl, rfl, trivial⟩
set_option maxRecDepth 20000 in
set_option maxHeartbeats 2000000 in
theorem V_X9_adopt_128 {X : Ctx} (C : C_X9_adopt X) {k n : Nat} {Q : Pq} {h : Hp} {v0 v2 : Nat} {v1 : Int32}
    (hv : St9 h v0 ∧ Q (some (.int v1)) (sr h v0 13 (some v2))) :
    Wj X k n Q 128 [(0, .ref v0), (1, .int v1), (2, .ref v2)] [] h := by
  refine w_aload_n (pc := 128) C dX9_adopt_128 rfl ?_
  refine w_aload_n (pc := 129) C dX9_adopt_129 rfl ?_
  refine w_ifnonnull (pc := 130) C (tgt := 143) dX9_adopt_130 (by decide) ?_
  refine w_aload_n (pc := 143) C dX9_adopt_143 rfl ?_
  obtain ⟨f1, hv⟩ := hv
  refine w_putR (pc := 144) C fl_X9_82 rfl rfl dX9_adopt_144 (St9_k f1) ?_
  refine w_iload_n (pc := 147) C dX9_adopt_147 rfl ?_
  exact w_iret (pc := 148) C dX9_adopt_148 hv
set_option maxRecDepth 20000 in
set_option maxHeartbeats 2000000 in
theorem V_X9_adopt_128N {X : Ctx} (C : C_X9_adopt X) {k n : Nat} {Q : Pq} {h : Hp} {v0 : Nat} {v1 : Int32}
    (hv : k + 1 ≤ mcX X ∧ n + 17 ≤ msX X ∧ (∃ k4 n5, k + 1 + k4 ≤ mcX X ∧ n + 17 + n5 ≤ msX X ∧ S_X4_init (lX X) (dtX X) k4 n5 [.ref (hn h)] (nw h 5 0) (QV fun h3 =>
    St9 h3 v0 ∧ Q (some (.int v1)) (sr h3 v0 13 (some (hn h)))))) :
    Wj X k n Q 128 [(0, .ref v0), (1, .int v1), (2, .null)] [] h := by
  refine w_aload_n (pc := 128) C dX9_adopt_128 rfl ?_
  refine w_aload_nN (pc := 129) C dX9_adopt_129 rfl ?_
  refine w_ifnonnullN (pc := 130) C dX9_adopt_130 ?_
  obtain ⟨f1, hv⟩ := hv
  obtain ⟨f2, hv⟩ := hv
  refine w_new (pc := 133) C nl_X9_61 (N := 17) rfl dX9_adopt_133 f1 f2 ?_
  refine w_dup (pc := 136) C dX9_adopt_136 rfl ?_
  obtain ⟨k4, n5, hm1, hm2, hv⟩ := hv
  refine w_cIN1_0 (pc := 137) C cl_X9_77 li_X4_init (by decide) dX9_adopt_137 (Nat.le_of_ble_eq_true rfl) hm1 hm2 (hv.mono (fun v h3 hp => ?_))
  obtain ⟨rfl, hv⟩ := hp
  refine w_goto (pc := 140) C (tgt := 144) dX9_adopt_140 (by decide) ?_
  obtain ⟨f6, hv⟩ := hv
  refine w_putR (pc := 144) C fl_X9_82 rfl rfl dX9_adopt_144 (St9_k f6) ?_
  refine w_iload_n (pc := 147) C dX9_adopt_147 rfl ?_
  exact w_iret (pc := 148) C dX9_adopt_148 hv
theorem dX9_uses_0 : decode cX9_uses 0 = .ok (.aload_n 0, 1) := by decide +kernel
theorem dX9_uses_1 : decode cX9_uses 1 = .ok (.getfield 82, 3) := by decide +kernel
theorem dX9_uses_4 : decode cX9_uses 4 = .ok (.aload_n 0, 1) := by decide +kernel
theorem dX9_uses_5 : decode cX9_uses 5 = .ok (.getfield 78, 3) := by decide +kernel
theorem dX9_uses_8 : decode cX9_uses 8 = .ok (.invokevirtual 99, 3) := by decide +kernel
theorem dX9_uses_11 : decode cX9_uses 11 = .ok (.aload_n 0, 1) := by decide +kernel
theorem dX9_uses_12 : decode cX9_uses 12 = .ok (.aload_n 0, 1) := by decide +kernel
theorem dX9_uses_13 : decode cX9_uses 13 = .ok (.getfield 82, 3) := by decide +kernel
theorem dX9_uses_16 : decode cX9_uses 16 = .ok (.iload_n 1, 1) := by decide +kernel
theorem dX9_uses_17 : decode cX9_uses 17 = .ok (.invokevirtual 326, 3) := by decide +kernel
theorem dX9_uses_20 : decode cX9_uses 20 = .ok (.invokevirtual 107, 3) := by decide +kernel
theorem dX9_uses_23 : decode cX9_uses 23 = .ok (.ireturn, 1) := by decide +kernel
set_option maxRecDepth 20000 in
set_option maxHeartbeats 2000000 in
theorem V_X9_uses_0 {X : Ctx} (C : C_X9_uses X) {k n : Nat} {Q : Pq} {h : Hp} {v0 : Nat} {v1 : Int32}
    (hv : St9 h v0 ∧ nn h v0 13 ∧ nn h v0 12 ∧ St4 h (gp h v0 13) ∧ S_X4_copyFrom (lX X) (dtX X) 0 0 [.ref (gp h v0 13), .ref (gp h v0 12)] h (QV fun h5 =>
    St9 h5 v0 ∧ nn h5 v0 13 ∧ St4 h5 (gp h5 v0 13) ∧ S_X4_choose (lX X) (dtX X) 0 0 [.ref (gp h5 v0 13), .int v1] h5 (QI fun x10 h9 =>
    St9 h9 v0 ∧ (∃ k13 n14, k + k13 ≤ mcX X ∧ n + n14 ≤ msX X ∧ S_X9_adopt (lX X) (dtX X) k13 n14 [.ref v0, .int x10] h9 (QI fun x15 h12 =>
    Q (some (.int x15)) h12))))) :
    Wj X k n Q 0 [(0, .ref v0), (1, .int v1)] [] h := by
  refine w_aload_n (pc := 0) C dX9_uses_0 rfl ?_
  obtain ⟨f1, hv⟩ := hv
  obtain ⟨f2, hv⟩ := hv
  refine w_getR (pc := 1) C fl_X9_82 rfl dX9_uses_1 (St9_k f1) f2 ?_
  refine w_aload_n (pc := 4) C dX9_uses_4 rfl ?_
  obtain ⟨f3, hv⟩ := hv
  refine w_getR (pc := 5) C fl_X9_78 rfl dX9_uses_5 (St9_k f1) f3 ?_
  obtain ⟨f4, hv⟩ := hv
  refine w_cV0_1 (pc := 8) C cl_X9_99 lv_X4_copyFrom (by decide) dX9_uses_8 (Nat.le_of_ble_eq_true rfl) (c := 4) rfl (St4_k f4) (hv.mono (fun v h5 hp => ?_))
  obtain ⟨rfl, hv⟩ := hp
  refine w_aload_n (pc := 11) C dX9_uses_11 rfl ?_
  refine w_aload_n (pc := 12) C dX9_uses_12 rfl ?_
  obtain ⟨f6, hv⟩ := hv
  obtain ⟨f7, hv⟩ := hv
  refine w_getR (pc := 13) C fl_X9_82 rfl dX9_uses_13 (St9_k f6) f7 ?_
  refine w_iload_n (pc := 16) C dX9_uses_16 rfl ?_
  obtain ⟨f8, hv⟩ := hv
  refine w_cV0_1 (pc := 17) C cl_X9_326 lv_X4_choose (by decide) dX9_uses_17 (Nat.le_of_ble_eq_true rfl) (c := 4) rfl (St4_k f8) (hv.mono (fun v h9 hp => ?_))
  obtain ⟨x10, rfl, hv⟩ := hp
  obtain ⟨f11, hv⟩ := hv
  obtain ⟨k13, n14, hm1, hm2, hv⟩ := hv
  refine w_cV1_1 (pc := 20) C cl_X9_107 lv_X9_adopt (by decide) dX9_uses_20 (Nat.le_of_ble_eq_true rfl) (c := 9) rfl hm1 hm2 (St9_k f11) (hv.mono (fun v h12 hp => ?_))
  obtain ⟨x15, rfl, hv⟩ := hp
  exact w_iret (pc := 23) C dX9_uses_23 hv
theorem dX9_geared_0 : decode cX9_geared 0 = .ok (.aload_n 0, 1) := by decide +kernel
theorem dX9_geared_1 : decode cX9_geared 1 = .ok (.getfield 82, 3) := by decide +kernel
theorem dX9_geared_4 : decode cX9_geared 4 = .ok (.aload_n 0, 1) := by decide +kernel
theorem dX9_geared_5 : decode cX9_geared 5 = .ok (.getfield 78, 3) := by decide +kernel
theorem dX9_geared_8 : decode cX9_geared 8 = .ok (.invokevirtual 99, 3) := by decide +kernel
theorem dX9_geared_11 : decode cX9_geared 11 = .ok (.aload_n 0, 1) := by decide +kernel
theorem dX9_geared_12 : decode cX9_geared 12 = .ok (.aload_n 0, 1) := by decide +kernel
theorem dX9_geared_13 : decode cX9_geared 13 = .ok (.getfield 82, 3) := by decide +kernel
theorem dX9_geared_16 : decode cX9_geared 16 = .ok (.iload_n 1, 1) := by decide +kernel
theorem dX9_geared_17 : decode cX9_geared 17 = .ok (.iload_n 2, 1) := by decide +kernel
theorem dX9_geared_18 : decode cX9_geared 18 = .ok (.iload_n 3, 1) := by decide +kernel
theorem dX9_geared_19 : decode cX9_geared 19 = .ok (.iload 4, 2) := by decide +kernel
theorem dX9_geared_21 : decode cX9_geared 21 = .ok (.iload 5, 2) := by decide +kernel
theorem dX9_geared_23 : decode cX9_geared 23 = .ok (.invokevirtual 329, 3) := by decide +kernel
theorem dX9_geared_26 : decode cX9_geared 26 = .ok (.invokevirtual 107, 3) := by decide +kernel
theorem dX9_geared_29 : decode cX9_geared 29 = .ok (.istore 6, 2) := by decide +kernel
theorem dX9_geared_31 : decode cX9_geared 31 = .ok (.iload 6, 2) := by decide +kernel
theorem dX9_geared_33 : decode cX9_geared 33 = .ok (.ifCond .lt 24, 3) := by decide +kernel
theorem dX9_geared_36 : decode cX9_geared 36 = .ok (.aload_n 0, 1) := by decide +kernel
theorem dX9_geared_37 : decode cX9_geared 37 = .ok (.getfield 19, 3) := by decide +kernel
theorem dX9_geared_40 : decode cX9_geared 40 = .ok (.invokevirtual 158, 3) := by decide +kernel
theorem dX9_geared_43 : decode cX9_geared 43 = .ok (.aload_n 0, 1) := by decide +kernel
theorem dX9_geared_44 : decode cX9_geared 44 = .ok (.getfield 19, 3) := by decide +kernel
theorem dX9_geared_47 : decode cX9_geared 47 = .ok (.aload_n 0, 1) := by decide +kernel
theorem dX9_geared_48 : decode cX9_geared 48 = .ok (.getfield 78, 3) := by decide +kernel
theorem dX9_geared_51 : decode cX9_geared 51 = .ok (.getfield 333, 3) := by decide +kernel
theorem dX9_geared_54 : decode cX9_geared 54 = .ok (.invokevirtual 293, 3) := by decide +kernel
theorem dX9_geared_57 : decode cX9_geared 57 = .ok (.iload 6, 2) := by decide +kernel
theorem dX9_geared_59 : decode cX9_geared 59 = .ok (.ireturn, 1) := by decide +kernel
set_option maxRecDepth 20000 in
set_option maxHeartbeats 2000000 in
theorem V_X9_geared_0 {X : Ctx} (C : C_X9_geared X) {k n : Nat} {Q : Pq} {h : Hp} {v0 : Nat} {v1 v2 v3 v4 v5 : Int32}
    (hv : St9 h v0 ∧ nn h v0 13 ∧ nn h v0 12 ∧ St4 h (gp h v0 13) ∧ S_X4_copyFrom (lX X) (dtX X) 0 0 [.ref (gp h v0 13), .ref (gp h v0 12)] h (QV fun h5 =>
    St9 h5 v0 ∧ nn h5 v0 13 ∧ St4 h5 (gp h5 v0 13) ∧ S_X4_putIn (lX X) (dtX X) 0 0 [.ref (gp h5 v0 13), .int v1, .int v2, .int v3, .int v4, .int v5] h5 (QI fun x10 h9 =>
    St9 h9 v0 ∧ (∃ k13 n14, k + k13 ≤ mcX X ∧ n + n14 ≤ msX X ∧ S_X9_adopt (lX X) (dtX X) k13 n14 [.ref v0, .int x10] h9 (QI fun x15 h12 =>
    ((x15 < 0 → Q (some (.int x15)) h12) ∧
    (¬ x15 < 0 → St9 h12 v0 ∧ nn h12 v0 12 ∧ St4 h12 (gp h12 v0 12) ∧ S_X8_addFraction (lX X) (dtX X) 0 0 [.ref (v0 + 3), .ref ((gp h12 v0 12) + 1)] (tcl h12 (v0 + 3)) (QV fun h19 =>
    Q (some (.int x15)) h19)))))))) :
    Wj X k n Q 0 [(0, .ref v0), (1, .int v1), (2, .int v2), (3, .int v3), (4, .int v4), (5, .int v5)] [] h := by
  refine w_aload_n (pc := 0) C dX9_geared_0 rfl ?_
  obtain ⟨f1, hv⟩ := hv
  obtain ⟨f2, hv⟩ := hv
  refine w_getR (pc := 1) C fl_X9_82 rfl dX9_geared_1 (St9_k f1) f2 ?_
  refine w_aload_n (pc := 4) C dX9_geared_4 rfl ?_
  obtain ⟨f3, hv⟩ := hv
  refine w_getR (pc := 5) C fl_X9_78 rfl dX9_geared_5 (St9_k f1) f3 ?_
  obtain ⟨f4, hv⟩ := hv
  refine w_cV0_1 (pc := 8) C cl_X9_99 lv_X4_copyFrom (by decide) dX9_geared_8 (Nat.le_of_ble_eq_true rfl) (c := 4) rfl (St4_k f4) (hv.mono (fun v h5 hp => ?_))
  obtain ⟨rfl, hv⟩ := hp
  refine w_aload_n (pc := 11) C dX9_geared_11 rfl ?_
  refine w_aload_n (pc := 12) C dX9_geared_12 rfl ?_
  obtain ⟨f6, hv⟩ := hv
  obtain ⟨f7, hv⟩ := hv
  refine w_getR (pc := 13) C fl_X9_82 rfl dX9_geared_13 (St9_k f6) f7 ?_
  refine w_iload_n (pc := 16) C dX9_geared_16 rfl ?_
  refine w_iload_n (pc := 17) C dX9_geared_17 rfl ?_
  refine w_iload_n (pc := 18) C dX9_geared_18 rfl ?_
  refine w_iload (pc := 19) C dX9_geared_19 rfl ?_
  refine w_iload (pc := 21) C dX9_geared_21 rfl ?_
  obtain ⟨f8, hv⟩ := hv
  refine w_cV0_5 (pc := 23) C cl_X9_329 lv_X4_putIn (by decide) dX9_geared_23 (Nat.le_of_ble_eq_true rfl) (c := 4) rfl (St4_k f8) (hv.mono (fun v h9 hp => ?_))
  obtain ⟨x10, rfl, hv⟩ := hp
  obtain ⟨f11, hv⟩ := hv
  obtain ⟨k13, n14, hm1, hm2, hv⟩ := hv
  refine w_cV1_1 (pc := 26) C cl_X9_107 lv_X9_adopt (by decide) dX9_geared_26 (Nat.le_of_ble_eq_true rfl) (c := 9) rfl hm1 hm2 (St9_k f11) (hv.mono (fun v h12 hp => ?_))
  obtain ⟨x15, rfl, hv⟩ := hp
  refine w_istore (pc := 29) C dX9_geared_29 (by decide) ?_
  refine w_iload (pc := 31) C dX9_geared_31 rfl ?_
  refine w_if_lt (pc := 33) C (tgt := 57) dX9_geared_33 (by decide) ?_
  obtain ⟨hv1, hv2⟩ := hv
  refine ⟨fun c20 => ?_, fun c20 => ?_⟩
  · have hv := hv1 c20
    refine w_iload (pc := 57) C dX9_geared_57 rfl ?_
    exact w_iret (pc := 59) C dX9_geared_59 hv
  · have hv := hv2 c20
    refine w_aload_n (pc := 36) C dX9_geared_36 rfl ?_
    obtain ⟨f16, hv⟩ := hv
    refine w_getR (pc := 37) C fl_X9_19 rfl dX9_geared_37 (St9_k f16) (St9_r1 f16) ?_
    refine w_cV0_0 (pc := 40) C cl_X9_158 lv_X8_clear (by decide) dX9_geared_40 (Nat.le_of_ble_eq_true rfl) (c := 8) rfl (St8_k (St9_s1 f16)) ((sf_X8_clear (h := h12) (St9_s1 f16)).mono (fun v h9 hp => ?_))
    obtain ⟨e1, e2⟩ := hp
    rw [e1, e2]
    refine w_aload_n (pc := 43) C dX9_geared_43 rfl ?_
    refine w_getR (pc := 44) C fl_X9_19 rfl dX9_geared_44 (St9_k f16) (St9_r1 f16) ?_
    refine w_aload_n (pc := 47) C dX9_geared_47 rfl ?_
    obtain ⟨f17, hv⟩ := hv
    refine w_getR (pc := 48) C fl_X9_78 rfl dX9_geared_48 (St9_k f16) f17 ?_
    obtain ⟨f18, hv⟩ := hv
    refine w_getR (pc := 51) C fl_X9_333 rfl dX9_geared_51 (St4_k f18) (St4_r8 f18) ?_
    refine w_cV0_1 (pc := 54) C cl_X9_293 lv_X8_addFraction (by decide) dX9_geared_54 (Nat.le_of_ble_eq_true rfl) (c := 8) rfl (St8_k (St9_s1 f16)) (hv.mono (fun v h19 hp => ?_))
    obtain ⟨rfl, hv⟩ := hp
    refine w_iload (pc := 57) C dX9_geared_57 rfl ?_
    exact w_iret (pc := 59) C dX9_geared_59 hv
theorem dX9_ungeared_0 : decode cX9_ungeared 0 = .ok (.aload_n 0, 1) := by decide +kernel
theorem dX9_ungeared_1 : decode cX9_ungeared 1 = .ok (.getfield 82, 3) := by decide +kernel
theorem dX9_ungeared_4 : decode cX9_ungeared 4 = .ok (.aload_n 0, 1) := by decide +kernel
theorem dX9_ungeared_5 : decode cX9_ungeared 5 = .ok (.getfield 78, 3) := by decide +kernel
theorem dX9_ungeared_8 : decode cX9_ungeared 8 = .ok (.invokevirtual 99, 3) := by decide +kernel
theorem dX9_ungeared_11 : decode cX9_ungeared 11 = .ok (.aload_n 0, 1) := by decide +kernel
theorem dX9_ungeared_12 : decode cX9_ungeared 12 = .ok (.aload_n 0, 1) := by decide +kernel
theorem dX9_ungeared_13 : decode cX9_ungeared 13 = .ok (.getfield 82, 3) := by decide +kernel
theorem dX9_ungeared_16 : decode cX9_ungeared 16 = .ok (.invokevirtual 336, 3) := by decide +kernel
theorem dX9_ungeared_19 : decode cX9_ungeared 19 = .ok (.invokevirtual 107, 3) := by decide +kernel
theorem dX9_ungeared_22 : decode cX9_ungeared 22 = .ok (.ireturn, 1) := by decide +kernel
set_option maxRecDepth 20000 in
set_option maxHeartbeats 2000000 in
theorem V_X9_ungeared_0 {X : Ctx} (C : C_X9_ungeared X) {k n : Nat} {Q : Pq} {h : Hp} {v0 : Nat}
    (hv : St9 h v0 ∧ nn h v0 13 ∧ nn h v0 12 ∧ St4 h (gp h v0 13) ∧ S_X4_copyFrom (lX X) (dtX X) 0 0 [.ref (gp h v0 13), .ref (gp h v0 12)] h (QV fun h5 =>
    St9 h5 v0 ∧ nn h5 v0 13 ∧ St4 h5 (gp h5 v0 13) ∧ S_X4_takeOut (lX X) (dtX X) 0 0 [.ref (gp h5 v0 13)] h5 (QI fun x10 h9 =>
    St9 h9 v0 ∧ (∃ k13 n14, k + k13 ≤ mcX X ∧ n + n14 ≤ msX X ∧ S_X9_adopt (lX X) (dtX X) k13 n14 [.ref v0, .int x10] h9 (QI fun x15 h12 =>
    Q (some (.int x15)) h12))))) :
    Wj X k n Q 0 [(0, .ref v0)] [] h := by
  refine w_aload_n (pc := 0) C dX9_ungeared_0 rfl ?_
  obtain ⟨f1, hv⟩ := hv
  obtain ⟨f2, hv⟩ := hv
  refine w_getR (pc := 1) C fl_X9_82 rfl dX9_ungeared_1 (St9_k f1) f2 ?_
  refine w_aload_n (pc := 4) C dX9_ungeared_4 rfl ?_
  obtain ⟨f3, hv⟩ := hv
  refine w_getR (pc := 5) C fl_X9_78 rfl dX9_ungeared_5 (St9_k f1) f3 ?_
  obtain ⟨f4, hv⟩ := hv
  refine w_cV0_1 (pc := 8) C cl_X9_99 lv_X4_copyFrom (by decide) dX9_ungeared_8 (Nat.le_of_ble_eq_true rfl) (c := 4) rfl (St4_k f4) (hv.mono (fun v h5 hp => ?_))
  obtain ⟨rfl, hv⟩ := hp
  refine w_aload_n (pc := 11) C dX9_ungeared_11 rfl ?_
  refine w_aload_n (pc := 12) C dX9_ungeared_12 rfl ?_
  obtain ⟨f6, hv⟩ := hv
  obtain ⟨f7, hv⟩ := hv
  refine w_getR (pc := 13) C fl_X9_82 rfl dX9_ungeared_13 (St9_k f6) f7 ?_
  obtain ⟨f8, hv⟩ := hv
  refine w_cV0_0 (pc := 16) C cl_X9_336 lv_X4_takeOut (by decide) dX9_ungeared_16 (Nat.le_of_ble_eq_true rfl) (c := 4) rfl (St4_k f8) (hv.mono (fun v h9 hp => ?_))
  obtain ⟨x10, rfl, hv⟩ := hp
  obtain ⟨f11, hv⟩ := hv
  obtain ⟨k13, n14, hm1, hm2, hv⟩ := hv
  refine w_cV1_1 (pc := 19) C cl_X9_107 lv_X9_adopt (by decide) dX9_ungeared_19 (Nat.le_of_ble_eq_true rfl) (c := 9) rfl hm1 hm2 (St9_k f11) (hv.mono (fun v h12 hp => ?_))
  obtain ⟨x15, rfl, hv⟩ := hp
  exact w_iret (pc := 22) C dX9_ungeared_22 hv
theorem dX9_cranks_0 : decode cX9_cranks 0 = .ok (.aload_n 0, 1) := by decide +kernel
theorem dX9_cranks_1 : decode cX9_cranks 1 = .ok (.getfield 82, 3) := by decide +kernel
theorem dX9_cranks_4 : decode cX9_cranks 4 = .ok (.aload_n 0, 1) := by decide +kernel
theorem dX9_cranks_5 : decode cX9_cranks 5 = .ok (.getfield 78, 3) := by decide +kernel
theorem dX9_cranks_8 : decode cX9_cranks 8 = .ok (.invokevirtual 99, 3) := by decide +kernel
theorem dX9_cranks_11 : decode cX9_cranks 11 = .ok (.aload_n 0, 1) := by decide +kernel
theorem dX9_cranks_12 : decode cX9_cranks 12 = .ok (.aload_n 0, 1) := by decide +kernel
theorem dX9_cranks_13 : decode cX9_cranks 13 = .ok (.getfield 82, 3) := by decide +kernel
theorem dX9_cranks_16 : decode cX9_cranks 16 = .ok (.iload_n 1, 1) := by decide +kernel
theorem dX9_cranks_17 : decode cX9_cranks 17 = .ok (.iload_n 2, 1) := by decide +kernel
theorem dX9_cranks_18 : decode cX9_cranks 18 = .ok (.iload_n 3, 1) := by decide +kernel
theorem dX9_cranks_19 : decode cX9_cranks 19 = .ok (.invokevirtual 339, 3) := by decide +kernel
theorem dX9_cranks_22 : decode cX9_cranks 22 = .ok (.invokevirtual 107, 3) := by decide +kernel
theorem dX9_cranks_25 : decode cX9_cranks 25 = .ok (.istore 4, 2) := by decide +kernel
theorem dX9_cranks_27 : decode cX9_cranks 27 = .ok (.iload 4, 2) := by decide +kernel
theorem dX9_cranks_29 : decode cX9_cranks 29 = .ok (.ifCond .lt 24, 3) := by decide +kernel
theorem dX9_cranks_32 : decode cX9_cranks 32 = .ok (.aload_n 0, 1) := by decide +kernel
theorem dX9_cranks_33 : decode cX9_cranks 33 = .ok (.getfield 19, 3) := by decide +kernel
theorem dX9_cranks_36 : decode cX9_cranks 36 = .ok (.invokevirtual 158, 3) := by decide +kernel
theorem dX9_cranks_39 : decode cX9_cranks 39 = .ok (.aload_n 0, 1) := by decide +kernel
theorem dX9_cranks_40 : decode cX9_cranks 40 = .ok (.getfield 19, 3) := by decide +kernel
theorem dX9_cranks_43 : decode cX9_cranks 43 = .ok (.aload_n 0, 1) := by decide +kernel
theorem dX9_cranks_44 : decode cX9_cranks 44 = .ok (.getfield 78, 3) := by decide +kernel
theorem dX9_cranks_47 : decode cX9_cranks 47 = .ok (.getfield 343, 3) := by decide +kernel
theorem dX9_cranks_50 : decode cX9_cranks 50 = .ok (.invokevirtual 293, 3) := by decide +kernel
theorem dX9_cranks_53 : decode cX9_cranks 53 = .ok (.iload 4, 2) := by decide +kernel
theorem dX9_cranks_55 : decode cX9_cranks 55 = .ok (.ireturn, 1) := by decide +kernel
set_option maxRecDepth 20000 in
set_option maxHeartbeats 2000000 in
theorem V_X9_cranks_0 {X : Ctx} (C : C_X9_cranks X) {k n : Nat} {Q : Pq} {h : Hp} {v0 : Nat} {v1 v2 v3 : Int32}
    (hv : St9 h v0 ∧ nn h v0 13 ∧ nn h v0 12 ∧ St4 h (gp h v0 13) ∧ S_X4_copyFrom (lX X) (dtX X) 0 0 [.ref (gp h v0 13), .ref (gp h v0 12)] h (QV fun h5 =>
    St9 h5 v0 ∧ nn h5 v0 13 ∧ St4 h5 (gp h5 v0 13) ∧ S_X4_wind (lX X) (dtX X) 0 0 [.ref (gp h5 v0 13), .int v1, .int v2, .int v3] h5 (QI fun x10 h9 =>
    St9 h9 v0 ∧ (∃ k13 n14, k + k13 ≤ mcX X ∧ n + n14 ≤ msX X ∧ S_X9_adopt (lX X) (dtX X) k13 n14 [.ref v0, .int x10] h9 (QI fun x15 h12 =>
    ((x15 < 0 → Q (some (.int x15)) h12) ∧
    (¬ x15 < 0 → St9 h12 v0 ∧ nn h12 v0 12 ∧ St4 h12 (gp h12 v0 12) ∧ S_X8_addFraction (lX X) (dtX X) 0 0 [.ref (v0 + 3), .ref ((gp h12 v0 12) + 2)] (tcl h12 (v0 + 3)) (QV fun h19 =>
    Q (some (.int x15)) h19)))))))) :
    Wj X k n Q 0 [(0, .ref v0), (1, .int v1), (2, .int v2), (3, .int v3)] [] h := by
  refine w_aload_n (pc := 0) C dX9_cranks_0 rfl ?_
  obtain ⟨f1, hv⟩ := hv
  obtain ⟨f2, hv⟩ := hv
  refine w_getR (pc := 1) C fl_X9_82 rfl dX9_cranks_1 (St9_k f1) f2 ?_
  refine w_aload_n (pc := 4) C dX9_cranks_4 rfl ?_
  obtain ⟨f3, hv⟩ := hv
  refine w_getR (pc := 5) C fl_X9_78 rfl dX9_cranks_5 (St9_k f1) f3 ?_
  obtain ⟨f4, hv⟩ := hv
  refine w_cV0_1 (pc := 8) C cl_X9_99 lv_X4_copyFrom (by decide) dX9_cranks_8 (Nat.le_of_ble_eq_true rfl) (c := 4) rfl (St4_k f4) (hv.mono (fun v h5 hp => ?_))
  obtain ⟨rfl, hv⟩ := hp
  refine w_aload_n (pc := 11) C dX9_cranks_11 rfl ?_
  refine w_aload_n (pc := 12) C dX9_cranks_12 rfl ?_
  obtain ⟨f6, hv⟩ := hv
  obtain ⟨f7, hv⟩ := hv
  refine w_getR (pc := 13) C fl_X9_82 rfl dX9_cranks_13 (St9_k f6) f7 ?_
  refine w_iload_n (pc := 16) C dX9_cranks_16 rfl ?_
  refine w_iload_n (pc := 17) C dX9_cranks_17 rfl ?_
  refine w_iload_n (pc := 18) C dX9_cranks_18 rfl ?_
  obtain ⟨f8, hv⟩ := hv
  refine w_cV0_3 (pc := 19) C cl_X9_339 lv_X4_wind (by decide) dX9_cranks_19 (Nat.le_of_ble_eq_true rfl) (c := 4) rfl (St4_k f8) (hv.mono (fun v h9 hp => ?_))
  obtain ⟨x10, rfl, hv⟩ := hp
  obtain ⟨f11, hv⟩ := hv
  obtain ⟨k13, n14, hm1, hm2, hv⟩ := hv
  refine w_cV1_1 (pc := 22) C cl_X9_107 lv_X9_adopt (by decide) dX9_cranks_22 (Nat.le_of_ble_eq_true rfl) (c := 9) rfl hm1 hm2 (St9_k f11) (hv.mono (fun v h12 hp => ?_))
  obtain ⟨x15, rfl, hv⟩ := hp
  refine w_istore (pc := 25) C dX9_cranks_25 (by decide) ?_
  refine w_iload (pc := 27) C dX9_cranks_27 rfl ?_
  refine w_if_lt (pc := 29) C (tgt := 53) dX9_cranks_29 (by decide) ?_
  obtain ⟨hv1, hv2⟩ := hv
  refine ⟨fun c20 => ?_, fun c20 => ?_⟩
  · have hv := hv1 c20
    refine w_iload (pc := 53) C dX9_cranks_53 rfl ?_
    exact w_iret (pc := 55) C dX9_cranks_55 hv
  · have hv := hv2 c20
    refine w_aload_n (pc := 32) C dX9_cranks_32 rfl ?_
    obtain ⟨f16, hv⟩ := hv
    refine w_getR (pc := 33) C fl_X9_19 rfl dX9_cranks_33 (St9_k f16) (St9_r1 f16) ?_
    refine w_cV0_0 (pc := 36) C cl_X9_158 lv_X8_clear (by decide) dX9_cranks_36 (Nat.le_of_ble_eq_true rfl) (c := 8) rfl (St8_k (St9_s1 f16)) ((sf_X8_clear (h := h12) (St9_s1 f16)).mono (fun v h9 hp => ?_))
    obtain ⟨e1, e2⟩ := hp
    rw [e1, e2]
    refine w_aload_n (pc := 39) C dX9_cranks_39 rfl ?_
    refine w_getR (pc := 40) C fl_X9_19 rfl dX9_cranks_40 (St9_k f16) (St9_r1 f16) ?_
    refine w_aload_n (pc := 43) C dX9_cranks_43 rfl ?_
    obtain ⟨f17, hv⟩ := hv
    refine w_getR (pc := 44) C fl_X9_78 rfl dX9_cranks_44 (St9_k f16) f17 ?_
    obtain ⟨f18, hv⟩ := hv
    refine w_getR (pc := 47) C fl_X9_343 rfl dX9_cranks_47 (St4_k f18) (St4_r9 f18) ?_
    refine w_cV0_1 (pc := 50) C cl_X9_293 lv_X8_addFraction (by decide) dX9_cranks_50 (Nat.le_of_ble_eq_true rfl) (c := 8) rfl (St8_k (St9_s1 f16)) (hv.mono (fun v h19 hp => ?_))
    obtain ⟨rfl, hv⟩ := hp
    refine w_iload (pc := 53) C dX9_cranks_53 rfl ?_
    exact w_iret (pc := 55) C dX9_cranks_55 hv
theorem dX9_cuts_0 : decode cX9_cuts 0 = .ok (.aload_n 0, 1) := by decide +kernel
theorem dX9_cuts_1 : decode cX9_cuts 1 = .ok (.getfield 82, 3) := by decide +kernel
theorem dX9_cuts_4 : decode cX9_cuts 4 = .ok (.aload_n 0, 1) := by decide +kernel
theorem dX9_cuts_5 : decode cX9_cuts 5 = .ok (.getfield 78, 3) := by decide +kernel
theorem dX9_cuts_8 : decode cX9_cuts 8 = .ok (.invokevirtual 99, 3) := by decide +kernel
theorem dX9_cuts_11 : decode cX9_cuts 11 = .ok (.aload_n 0, 1) := by decide +kernel
theorem dX9_cuts_12 : decode cX9_cuts 12 = .ok (.aload_n 0, 1) := by decide +kernel
theorem dX9_cuts_13 : decode cX9_cuts 13 = .ok (.getfield 82, 3) := by decide +kernel
theorem dX9_cuts_16 : decode cX9_cuts 16 = .ok (.invokevirtual 346, 3) := by decide +kernel
theorem dX9_cuts_19 : decode cX9_cuts 19 = .ok (.invokevirtual 107, 3) := by decide +kernel
theorem dX9_cuts_22 : decode cX9_cuts 22 = .ok (.ireturn, 1) := by decide +kernel
set_option maxRecDepth 20000 in
set_option maxHeartbeats 2000000 in
theorem V_X9_cuts_0 {X : Ctx} (C : C_X9_cuts X) {k n : Nat} {Q : Pq} {h : Hp} {v0 : Nat}
    (hv : St9 h v0 ∧ nn h v0 13 ∧ nn h v0 12 ∧ St4 h (gp h v0 13) ∧ S_X4_copyFrom (lX X) (dtX X) 0 0 [.ref (gp h v0 13), .ref (gp h v0 12)] h (QV fun h5 =>
    St9 h5 v0 ∧ nn h5 v0 13 ∧ St4 h5 (gp h5 v0 13) ∧ S_X4_scribe (lX X) (dtX X) 0 0 [.ref (gp h5 v0 13)] h5 (QI fun x10 h9 =>
    St9 h9 v0 ∧ (∃ k13 n14, k + k13 ≤ mcX X ∧ n + n14 ≤ msX X ∧ S_X9_adopt (lX X) (dtX X) k13 n14 [.ref v0, .int x10] h9 (QI fun x15 h12 =>
    Q (some (.int x15)) h12))))) :
    Wj X k n Q 0 [(0, .ref v0)] [] h := by
  refine w_aload_n (pc := 0) C dX9_cuts_0 rfl ?_
  obtain ⟨f1, hv⟩ := hv
  obtain ⟨f2, hv⟩ := hv
  refine w_getR (pc := 1) C fl_X9_82 rfl dX9_cuts_1 (St9_k f1) f2 ?_
  refine w_aload_n (pc := 4) C dX9_cuts_4 rfl ?_
  obtain ⟨f3, hv⟩ := hv
  refine w_getR (pc := 5) C fl_X9_78 rfl dX9_cuts_5 (St9_k f1) f3 ?_
  obtain ⟨f4, hv⟩ := hv
  refine w_cV0_1 (pc := 8) C cl_X9_99 lv_X4_copyFrom (by decide) dX9_cuts_8 (Nat.le_of_ble_eq_true rfl) (c := 4) rfl (St4_k f4) (hv.mono (fun v h5 hp => ?_))
  obtain ⟨rfl, hv⟩ := hp
  refine w_aload_n (pc := 11) C dX9_cuts_11 rfl ?_
  refine w_aload_n (pc := 12) C dX9_cuts_12 rfl ?_
  obtain ⟨f6, hv⟩ := hv
  obtain ⟨f7, hv⟩ := hv
  refine w_getR (pc := 13) C fl_X9_82 rfl dX9_cuts_13 (St9_k f6) f7 ?_
  obtain ⟨f8, hv⟩ := hv
  refine w_cV0_0 (pc := 16) C cl_X9_346 lv_X4_scribe (by decide) dX9_cuts_16 (Nat.le_of_ble_eq_true rfl) (c := 4) rfl (St4_k f8) (hv.mono (fun v h9 hp => ?_))
  obtain ⟨x10, rfl, hv⟩ := hp
  obtain ⟨f11, hv⟩ := hv
  obtain ⟨k13, n14, hm1, hm2, hv⟩ := hv
  refine w_cV1_1 (pc := 19) C cl_X9_107 lv_X9_adopt (by decide) dX9_cuts_19 (Nat.le_of_ble_eq_true rfl) (c := 9) rfl hm1 hm2 (St9_k f11) (hv.mono (fun v h12 hp => ?_))
  obtain ⟨x15, rfl, hv⟩ := hp
  exact w_iret (pc := 22) C dX9_cuts_22 hv
theorem dX9_wipes_0 : decode cX9_wipes 0 = .ok (.aload_n 0, 1) := by decide +kernel
theorem dX9_wipes_1 : decode cX9_wipes 1 = .ok (.getfield 82, 3) := by decide +kernel
theorem dX9_wipes_4 : decode cX9_wipes 4 = .ok (.aload_n 0, 1) := by decide +kernel
theorem dX9_wipes_5 : decode cX9_wipes 5 = .ok (.getfield 78, 3) := by decide +kernel
theorem dX9_wipes_8 : decode cX9_wipes 8 = .ok (.invokevirtual 99, 3) := by decide +kernel
theorem dX9_wipes_11 : decode cX9_wipes 11 = .ok (.aload_n 0, 1) := by decide +kernel
theorem dX9_wipes_12 : decode cX9_wipes 12 = .ok (.aload_n 0, 1) := by decide +kernel
theorem dX9_wipes_13 : decode cX9_wipes 13 = .ok (.getfield 82, 3) := by decide +kernel
theorem dX9_wipes_16 : decode cX9_wipes 16 = .ok (.invokevirtual 349, 3) := by decide +kernel
theorem dX9_wipes_19 : decode cX9_wipes 19 = .ok (.invokevirtual 107, 3) := by decide +kernel
theorem dX9_wipes_22 : decode cX9_wipes 22 = .ok (.ireturn, 1) := by decide +kernel
set_option maxRecDepth 20000 in
set_option maxHeartbeats 2000000 in
theorem V_X9_wipes_0 {X : Ctx} (C : C_X9_wipes X) {k n : Nat} {Q : Pq} {h : Hp} {v0 : Nat}
    (hv : St9 h v0 ∧ nn h v0 13 ∧ nn h v0 12 ∧ St4 h (gp h v0 13) ∧ S_X4_copyFrom (lX X) (dtX X) 0 0 [.ref (gp h v0 13), .ref (gp h v0 12)] h (QV fun h5 =>
    St9 h5 v0 ∧ nn h5 v0 13 ∧ St4 h5 (gp h5 v0 13) ∧ S_X4_wipeAll (lX X) (dtX X) 0 0 [.ref (gp h5 v0 13)] h5 (QI fun x10 h9 =>
    St9 h9 v0 ∧ (∃ k13 n14, k + k13 ≤ mcX X ∧ n + n14 ≤ msX X ∧ S_X9_adopt (lX X) (dtX X) k13 n14 [.ref v0, .int x10] h9 (QI fun x15 h12 =>
    Q (some (.int x15)) h12))))) :
    Wj X k n Q 0 [(0, .ref v0)] [] h := by
  refine w_aload_n (pc := 0) C dX9_wipes_0 rfl ?_
  obtain ⟨f1, hv⟩ := hv
  obtain ⟨f2, hv⟩ := hv
  refine w_getR (pc := 1) C fl_X9_82 rfl dX9_wipes_1 (St9_k f1) f2 ?_
  refine w_aload_n (pc := 4) C dX9_wipes_4 rfl ?_
  obtain ⟨f3, hv⟩ := hv
  refine w_getR (pc := 5) C fl_X9_78 rfl dX9_wipes_5 (St9_k f1) f3 ?_
  obtain ⟨f4, hv⟩ := hv
  refine w_cV0_1 (pc := 8) C cl_X9_99 lv_X4_copyFrom (by decide) dX9_wipes_8 (Nat.le_of_ble_eq_true rfl) (c := 4) rfl (St4_k f4) (hv.mono (fun v h5 hp => ?_))
  obtain ⟨rfl, hv⟩ := hp
  refine w_aload_n (pc := 11) C dX9_wipes_11 rfl ?_
  refine w_aload_n (pc := 12) C dX9_wipes_12 rfl ?_
  obtain ⟨f6, hv⟩ := hv
  obtain ⟨f7, hv⟩ := hv
  refine w_getR (pc := 13) C fl_X9_82 rfl dX9_wipes_13 (St9_k f6) f7 ?_
  obtain ⟨f8, hv⟩ := hv
  refine w_cV0_0 (pc := 16) C cl_X9_349 lv_X4_wipeAll (by decide) dX9_wipes_16 (Nat.le_of_ble_eq_true rfl) (c := 4) rfl (St4_k f8) (hv.mono (fun v h9 hp => ?_))
  obtain ⟨x10, rfl, hv⟩ := hp
  obtain ⟨f11, hv⟩ := hv
  obtain ⟨k13, n14, hm1, hm2, hv⟩ := hv
  refine w_cV1_1 (pc := 19) C cl_X9_107 lv_X9_adopt (by decide) dX9_wipes_19 (Nat.le_of_ble_eq_true rfl) (c := 9) rfl hm1 hm2 (St9_k f11) (hv.mono (fun v h12 hp => ?_))
  obtain ⟨x15, rfl, hv⟩ := hp
  exact w_iret (pc := 22) C dX9_wipes_22 hv
theorem dX9_sets_0 : decode cX9_sets 0 = .ok (.aload_n 0, 1) := by decide +kernel
theorem dX9_sets_1 : decode cX9_sets 1 = .ok (.getfield 82, 3) := by decide +kernel
theorem dX9_sets_4 : decode cX9_sets 4 = .ok (.aload_n 0, 1) := by decide +kernel
theorem dX9_sets_5 : decode cX9_sets 5 = .ok (.getfield 78, 3) := by decide +kernel
theorem dX9_sets_8 : decode cX9_sets 8 = .ok (.invokevirtual 99, 3) := by decide +kernel
theorem dX9_sets_11 : decode cX9_sets 11 = .ok (.aload_n 0, 1) := by decide +kernel
theorem dX9_sets_12 : decode cX9_sets 12 = .ok (.aload_n 0, 1) := by decide +kernel
theorem dX9_sets_13 : decode cX9_sets 13 = .ok (.getfield 82, 3) := by decide +kernel
theorem dX9_sets_16 : decode cX9_sets 16 = .ok (.iload_n 1, 1) := by decide +kernel
theorem dX9_sets_17 : decode cX9_sets 17 = .ok (.iload_n 2, 1) := by decide +kernel
theorem dX9_sets_18 : decode cX9_sets 18 = .ok (.invokevirtual 149, 3) := by decide +kernel
theorem dX9_sets_21 : decode cX9_sets 21 = .ok (.invokevirtual 107, 3) := by decide +kernel
theorem dX9_sets_24 : decode cX9_sets 24 = .ok (.ireturn, 1) := by decide +kernel
set_option maxRecDepth 20000 in
set_option maxHeartbeats 2000000 in
theorem V_X9_sets_0 {X : Ctx} (C : C_X9_sets X) {k n : Nat} {Q : Pq} {h : Hp} {v0 : Nat} {v1 v2 : Int32}
    (hv : St9 h v0 ∧ nn h v0 13 ∧ nn h v0 12 ∧ St4 h (gp h v0 13) ∧ S_X4_copyFrom (lX X) (dtX X) 0 0 [.ref (gp h v0 13), .ref (gp h v0 12)] h (QV fun h5 =>
    St9 h5 v0 ∧ nn h5 v0 13 ∧ St4 h5 (gp h5 v0 13) ∧ S_X4_setTo (lX X) (dtX X) 0 0 [.ref (gp h5 v0 13), .int v1, .int v2] h5 (QI fun x10 h9 =>
    St9 h9 v0 ∧ (∃ k13 n14, k + k13 ≤ mcX X ∧ n + n14 ≤ msX X ∧ S_X9_adopt (lX X) (dtX X) k13 n14 [.ref v0, .int x10] h9 (QI fun x15 h12 =>
    Q (some (.int x15)) h12))))) :
    Wj X k n Q 0 [(0, .ref v0), (1, .int v1), (2, .int v2)] [] h := by
  refine w_aload_n (pc := 0) C dX9_sets_0 rfl ?_
  obtain ⟨f1, hv⟩ := hv
  obtain ⟨f2, hv⟩ := hv
  refine w_getR (pc := 1) C fl_X9_82 rfl dX9_sets_1 (St9_k f1) f2 ?_
  refine w_aload_n (pc := 4) C dX9_sets_4 rfl ?_
  obtain ⟨f3, hv⟩ := hv
  refine w_getR (pc := 5) C fl_X9_78 rfl dX9_sets_5 (St9_k f1) f3 ?_
  obtain ⟨f4, hv⟩ := hv
  refine w_cV0_1 (pc := 8) C cl_X9_99 lv_X4_copyFrom (by decide) dX9_sets_8 (Nat.le_of_ble_eq_true rfl) (c := 4) rfl (St4_k f4) (hv.mono (fun v h5 hp => ?_))
  obtain ⟨rfl, hv⟩ := hp
  refine w_aload_n (pc := 11) C dX9_sets_11 rfl ?_
  refine w_aload_n (pc := 12) C dX9_sets_12 rfl ?_
  obtain ⟨f6, hv⟩ := hv
  obtain ⟨f7, hv⟩ := hv
  refine w_getR (pc := 13) C fl_X9_82 rfl dX9_sets_13 (St9_k f6) f7 ?_
  refine w_iload_n (pc := 16) C dX9_sets_16 rfl ?_
  refine w_iload_n (pc := 17) C dX9_sets_17 rfl ?_
  obtain ⟨f8, hv⟩ := hv
  refine w_cV0_2 (pc := 18) C cl_X9_149 lv_X4_setTo (by decide) dX9_sets_18 (Nat.le_of_ble_eq_true rfl) (c := 4) rfl (St4_k f8) (hv.mono (fun v h9 hp => ?_))
  obtain ⟨x10, rfl, hv⟩ := hp
  obtain ⟨f11, hv⟩ := hv
  obtain ⟨k13, n14, hm1, hm2, hv⟩ := hv
  refine w_cV1_1 (pc := 21) C cl_X9_107 lv_X9_adopt (by decide) dX9_sets_21 (Nat.le_of_ble_eq_true rfl) (c := 9) rfl hm1 hm2 (St9_k f11) (hv.mono (fun v h12 hp => ?_))
  obtain ⟨x15, rfl, hv⟩ := hp
  exact w_iret (pc := 24) C dX9_sets_24 hv
theorem dX9_count_0 : decode cX9_count 0 = .ok (.iload_n 1, 1) := by decide +kernel
theorem dX9_count_1 : decode cX9_count 1 = .ok (.tableswitch 144 0 10 #[59, 67, 75, 83, 91, 99, 107, 115, 120, 128, 136], 59) := by decide +kernel
theorem dX9_count_60 : decode cX9_count 60 = .ok (.aload_n 0, 1) := by decide +kernel
theorem dX9_count_61 : decode cX9_count 61 = .ok (.getfield 78, 3) := by decide +kernel
theorem dX9_count_64 : decode cX9_count 64 = .ok (.getfield 273, 3) := by decide +kernel
theorem dX9_count_67 : decode cX9_count 67 = .ok (.ireturn, 1) := by decide +kernel
theorem dX9_count_68 : decode cX9_count 68 = .ok (.aload_n 0, 1) := by decide +kernel
theorem dX9_count_69 : decode cX9_count 69 = .ok (.getfield 78, 3) := by decide +kernel
theorem dX9_count_72 : decode cX9_count 72 = .ok (.getfield 276, 3) := by decide +kernel
theorem dX9_count_75 : decode cX9_count 75 = .ok (.ireturn, 1) := by decide +kernel
theorem dX9_count_76 : decode cX9_count 76 = .ok (.aload_n 0, 1) := by decide +kernel
theorem dX9_count_77 : decode cX9_count 77 = .ok (.getfield 78, 3) := by decide +kernel
theorem dX9_count_80 : decode cX9_count 80 = .ok (.getfield 131, 3) := by decide +kernel
theorem dX9_count_83 : decode cX9_count 83 = .ok (.ireturn, 1) := by decide +kernel
theorem dX9_count_84 : decode cX9_count 84 = .ok (.aload_n 0, 1) := by decide +kernel
theorem dX9_count_85 : decode cX9_count 85 = .ok (.getfield 78, 3) := by decide +kernel
theorem dX9_count_88 : decode cX9_count 88 = .ok (.getfield 140, 3) := by decide +kernel
theorem dX9_count_91 : decode cX9_count 91 = .ok (.ireturn, 1) := by decide +kernel
theorem dX9_count_92 : decode cX9_count 92 = .ok (.aload_n 0, 1) := by decide +kernel
theorem dX9_count_93 : decode cX9_count 93 = .ok (.getfield 78, 3) := by decide +kernel
theorem dX9_count_96 : decode cX9_count 96 = .ok (.getfield 410, 3) := by decide +kernel
theorem dX9_count_99 : decode cX9_count 99 = .ok (.ireturn, 1) := by decide +kernel
theorem dX9_count_100 : decode cX9_count 100 = .ok (.aload_n 0, 1) := by decide +kernel
theorem dX9_count_101 : decode cX9_count 101 = .ok (.getfield 78, 3) := by decide +kernel
theorem dX9_count_104 : decode cX9_count 104 = .ok (.getfield 414, 3) := by decide +kernel
theorem dX9_count_107 : decode cX9_count 107 = .ok (.ireturn, 1) := by decide +kernel
theorem dX9_count_108 : decode cX9_count 108 = .ok (.aload_n 0, 1) := by decide +kernel
theorem dX9_count_109 : decode cX9_count 109 = .ok (.getfield 78, 3) := by decide +kernel
theorem dX9_count_112 : decode cX9_count 112 = .ok (.getfield 363, 3) := by decide +kernel
theorem dX9_count_115 : decode cX9_count 115 = .ok (.ireturn, 1) := by decide +kernel
theorem dX9_count_116 : decode cX9_count 116 = .ok (.aload_n 0, 1) := by decide +kernel
theorem dX9_count_117 : decode cX9_count 117 = .ok (.getfield 70, 3) := by decide +kernel
theorem dX9_count_120 : decode cX9_count 120 = .ok (.ireturn, 1) := by decide +kernel
theorem dX9_count_121 : decode cX9_count 121 = .ok (.aload_n 0, 1) := by decide +kernel
theorem dX9_count_122 : decode cX9_count 122 = .ok (.getfield 19, 3) := by decide +kernel
theorem dX9_count_125 : decode cX9_count 125 = .ok (.getfield 416, 3) := by decide +kernel
theorem dX9_count_128 : decode cX9_count 128 = .ok (.ireturn, 1) := by decide +kernel
theorem dX9_count_129 : decode cX9_count 129 = .ok (.aload_n 0, 1) := by decide +kernel
theorem dX9_count_130 : decode cX9_count 130 = .ok (.getfield 10, 3) := by decide +kernel
theorem dX9_count_133 : decode cX9_count 133 = .ok (.getfield 96, 3) := by decide +kernel
theorem dX9_count_136 : decode cX9_count 136 = .ok (.ireturn, 1) := by decide +kernel
theorem dX9_count_137 : decode cX9_count 137 = .ok (.aload_n 0, 1) := by decide +kernel
theorem dX9_count_138 : decode cX9_count 138 = .ok (.getfield 78, 3) := by decide +kernel
theorem dX9_count_141 : decode cX9_count 141 = .ok (.getfield 137, 3) := by decide +kernel
theorem dX9_count_144 : decode cX9_count 144 = .ok (.ireturn, 1) := by decide +kernel
theorem dX9_count_145 : decode cX9_count 145 = .ok (.iconst (-1), 1) := by decide +kernel
theorem dX9_count_146 : decode cX9_count 146 = .ok (.ireturn, 1) := by decide +kernel
set_option maxRecDepth 20000 in
set_option maxHeartbeats 2000000 in
theorem V_X9_count_0 {X : Ctx} (C : C_X9_count X) {k n : Nat} {Q : Pq} {h : Hp} {v0 : Nat} {v1 : Int32}
    (hv : 
    ((v1 = 0 → St9 h v0 ∧ nn h v0 12 ∧ St4 h (gp h v0 12) ∧ Q (some (.int (gi h (gp h v0 12) 0))) h) ∧
     (v1 = 1 → St9 h v0 ∧ nn h v0 12 ∧ St4 h (gp h v0 12) ∧ Q (some (.int (gi h (gp h v0 12) 1))) h) ∧
     (v1 = 2 → St9 h v0 ∧ nn h v0 12 ∧ St4 h (gp h v0 12) ∧ Q (some (.int (gi h (gp h v0 12) 3))) h) ∧
     (v1 = 3 → St9 h v0 ∧ nn h v0 12 ∧ St4 h (gp h v0 12) ∧ Q (some (.int (gi h (gp h v0 12) 4))) h) ∧
     (v1 = 4 → St9 h v0 ∧ nn h v0 12 ∧ St4 h (gp h v0 12) ∧ Q (some (.int (gi h (gp h v0 12) 5))) h) ∧
     (v1 = 5 → St9 h v0 ∧ nn h v0 12 ∧ St4 h (gp h v0 12) ∧ Q (some (.int (gi h (gp h v0 12) 6))) h) ∧
     (v1 = 6 → St9 h v0 ∧ nn h v0 12 ∧ St4 h (gp h v0 12) ∧ Q (some (.int (gi h (gp h v0 12) 7))) h) ∧
     (v1 = 7 → St9 h v0 ∧ Q (some (.int (gi h v0 10))) h) ∧
     (v1 = 8 → St9 h v0 ∧ Q (some (.int (gi h (v0 + 3) 1))) h) ∧
     (v1 = 9 → St9 h v0 ∧ Q (some (.int (gi h (v0 + 1) 1))) h) ∧
     (v1 = 10 → St9 h v0 ∧ nn h v0 12 ∧ St4 h (gp h v0 12) ∧ Q (some (.int (gi h (gp h v0 12) 2))) h) ∧
     (¬ v1 = 0 → ¬ v1 = 1 → ¬ v1 = 2 → ¬ v1 = 3 → ¬ v1 = 4 → ¬ v1 = 5 → ¬ v1 = 6 → ¬ v1 = 7 → ¬ v1 = 8 → ¬ v1 = 9 → ¬ v1 = 10 → Q (some (.int (-1))) h))) :
    Wj X k n Q 0 [(0, .ref v0), (1, .int v1)] [] h := by
  refine w_iload_n (pc := 0) C dX9_count_0 rfl ?_
  by_cases c1 : v1 = 0
  · obtain ⟨hv, -⟩ := hv
    have hv := hv c1
    refine w_tswIn (pc := 1) (tgt := 60) (off := 59) C dX9_count_1 (by rw [c1]; decide) (by rw [c1]; decide) (by rw [c1]; decide) (by decide) ?_
    refine w_aload_n (pc := 60) C dX9_count_60 rfl ?_
    obtain ⟨f12, hv⟩ := hv
    obtain ⟨f13, hv⟩ := hv
    refine w_getR (pc := 61) C fl_X9_78 rfl dX9_count_61 (St9_k f12) f13 ?_
    obtain ⟨f14, hv⟩ := hv
    refine w_getI (pc := 64) C fl_X9_273 rfl dX9_count_64 (St4_k f14) ?_
    exact w_iret (pc := 67) C dX9_count_67 hv
  obtain ⟨-, hv⟩ := hv
  by_cases c2 : v1 = 1
  · obtain ⟨hv, -⟩ := hv
    have hv := hv c2
    refine w_tswIn (pc := 1) (tgt := 68) (off := 67) C dX9_count_1 (by rw [c2]; decide) (by rw [c2]; decide) (by rw [c2]; decide) (by decide) ?_
    refine w_aload_n (pc := 68) C dX9_count_68 rfl ?_
    obtain ⟨f15, hv⟩ := hv
    obtain ⟨f16, hv⟩ := hv
    refine w_getR (pc := 69) C fl_X9_78 rfl dX9_count_69 (St9_k f15) f16 ?_
    obtain ⟨f17, hv⟩ := hv
    refine w_getI (pc := 72) C fl_X9_276 rfl dX9_count_72 (St4_k f17) ?_
    exact w_iret (pc := 75) C dX9_count_75 hv
  obtain ⟨-, hv⟩ := hv
  by_cases c3 : v1 = 2
  · obtain ⟨hv, -⟩ := hv
    have hv := hv c3
    refine w_tswIn (pc := 1) (tgt := 76) (off := 75) C dX9_count_1 (by rw [c3]; decide) (by rw [c3]; decide) (by rw [c3]; decide) (by decide) ?_
    refine w_aload_n (pc := 76) C dX9_count_76 rfl ?_
    obtain ⟨f18, hv⟩ := hv
    obtain ⟨f19, hv⟩ := hv
    refine w_getR (pc := 77) C fl_X9_78 rfl dX9_count_77 (St9_k f18) f19 ?_
    obtain ⟨f20, hv⟩ := hv
    refine w_getI (pc := 80) C fl_X9_131 rfl dX9_count_80 (St4_k f20) ?_
    exact w_iret (pc := 83) C dX9_count_83 hv
  obtain ⟨-, hv⟩ := hv
  by_cases c4 : v1 = 3
  · obtain ⟨hv, -⟩ := hv
    have hv := hv c4
    refine w_tswIn (pc := 1) (tgt := 84) (off := 83) C dX9_count_1 (by rw [c4]; decide) (by rw [c4]; decide) (by rw [c4]; decide) (by decide) ?_
    refine w_aload_n (pc := 84) C dX9_count_84 rfl ?_
    obtain ⟨f21, hv⟩ := hv
    obtain ⟨f22, hv⟩ := hv
    refine w_getR (pc := 85) C fl_X9_78 rfl dX9_count_85 (St9_k f21) f22 ?_
    obtain ⟨f23, hv⟩ := hv
    refine w_getI (pc := 88) C fl_X9_140 rfl dX9_count_88 (St4_k f23) ?_
    exact w_iret (pc := 91) C dX9_count_91 hv
  obtain ⟨-, hv⟩ := hv
  by_cases c5 : v1 = 4
  · obtain ⟨hv, -⟩ := hv
    have hv := hv c5
    refine w_tswIn (pc := 1) (tgt := 92) (off := 91) C dX9_count_1 (by rw [c5]; decide) (by rw [c5]; decide) (by rw [c5]; decide) (by decide) ?_
    refine w_aload_n (pc := 92) C dX9_count_92 rfl ?_
    obtain ⟨f24, hv⟩ := hv
    obtain ⟨f25, hv⟩ := hv
    refine w_getR (pc := 93) C fl_X9_78 rfl dX9_count_93 (St9_k f24) f25 ?_
    obtain ⟨f26, hv⟩ := hv
    refine w_getI (pc := 96) C fl_X9_410 rfl dX9_count_96 (St4_k f26) ?_
    exact w_iret (pc := 99) C dX9_count_99 hv
  obtain ⟨-, hv⟩ := hv
  by_cases c6 : v1 = 5
  · obtain ⟨hv, -⟩ := hv
    have hv := hv c6
    refine w_tswIn (pc := 1) (tgt := 100) (off := 99) C dX9_count_1 (by rw [c6]; decide) (by rw [c6]; decide) (by rw [c6]; decide) (by decide) ?_
    refine w_aload_n (pc := 100) C dX9_count_100 rfl ?_
    obtain ⟨f27, hv⟩ := hv
    obtain ⟨f28, hv⟩ := hv
    refine w_getR (pc := 101) C fl_X9_78 rfl dX9_count_101 (St9_k f27) f28 ?_
    obtain ⟨f29, hv⟩ := hv
    refine w_getI (pc := 104) C fl_X9_414 rfl dX9_count_104 (St4_k f29) ?_
    exact w_iret (pc := 107) C dX9_count_107 hv
  obtain ⟨-, hv⟩ := hv
  by_cases c7 : v1 = 6
  · obtain ⟨hv, -⟩ := hv
    have hv := hv c7
    refine w_tswIn (pc := 1) (tgt := 108) (off := 107) C dX9_count_1 (by rw [c7]; decide) (by rw [c7]; decide) (by rw [c7]; decide) (by decide) ?_
    refine w_aload_n (pc := 108) C dX9_count_108 rfl ?_
    obtain ⟨f30, hv⟩ := hv
    obtain ⟨f31, hv⟩ := hv
    refine w_getR (pc := 109) C fl_X9_78 rfl dX9_count_109 (St9_k f30) f31 ?_
    obtain ⟨f32, hv⟩ := hv
    refine w_getI (pc := 112) C fl_X9_363 rfl dX9_count_112 (St4_k f32) ?_
    exact w_iret (pc := 115) C dX9_count_115 hv
  obtain ⟨-, hv⟩ := hv
  by_cases c8 : v1 = 7
  · obtain ⟨hv, -⟩ := hv
    have hv := hv c8
    refine w_tswIn (pc := 1) (tgt := 116) (off := 115) C dX9_count_1 (by rw [c8]; decide) (by rw [c8]; decide) (by rw [c8]; decide) (by decide) ?_
    refine w_aload_n (pc := 116) C dX9_count_116 rfl ?_
    obtain ⟨f33, hv⟩ := hv
    refine w_getI (pc := 117) C fl_X9_70 rfl dX9_count_117 (St9_k f33) ?_
    exact w_iret (pc := 120) C dX9_count_120 hv
  obtain ⟨-, hv⟩ := hv
  by_cases c9 : v1 = 8
  · obtain ⟨hv, -⟩ := hv
    have hv := hv c9
    refine w_tswIn (pc := 1) (tgt := 121) (off := 120) C dX9_count_1 (by rw [c9]; decide) (by rw [c9]; decide) (by rw [c9]; decide) (by decide) ?_
    refine w_aload_n (pc := 121) C dX9_count_121 rfl ?_
    obtain ⟨f34, hv⟩ := hv
    refine w_getR (pc := 122) C fl_X9_19 rfl dX9_count_122 (St9_k f34) (St9_r1 f34) ?_
    refine w_getI (pc := 125) C fl_X9_416 rfl dX9_count_125 (St8_k (St9_s1 f34)) ?_
    exact w_iret (pc := 128) C dX9_count_128 hv
  obtain ⟨-, hv⟩ := hv
  by_cases c10 : v1 = 9
  · obtain ⟨hv, -⟩ := hv
    have hv := hv c10
    refine w_tswIn (pc := 1) (tgt := 129) (off := 128) C dX9_count_1 (by rw [c10]; decide) (by rw [c10]; decide) (by rw [c10]; decide) (by decide) ?_
    refine w_aload_n (pc := 129) C dX9_count_129 rfl ?_
    obtain ⟨f35, hv⟩ := hv
    refine w_getR (pc := 130) C fl_X9_10 rfl dX9_count_130 (St9_k f35) (St9_r0 f35) ?_
    refine w_getI (pc := 133) C fl_X9_96 rfl dX9_count_133 (St7_k (St9_s0 f35)) ?_
    exact w_iret (pc := 136) C dX9_count_136 hv
  obtain ⟨-, hv⟩ := hv
  by_cases c11 : v1 = 10
  · obtain ⟨hv, -⟩ := hv
    have hv := hv c11
    refine w_tswIn (pc := 1) (tgt := 137) (off := 136) C dX9_count_1 (by rw [c11]; decide) (by rw [c11]; decide) (by rw [c11]; decide) (by decide) ?_
    refine w_aload_n (pc := 137) C dX9_count_137 rfl ?_
    obtain ⟨f36, hv⟩ := hv
    obtain ⟨f37, hv⟩ := hv
    refine w_getR (pc := 138) C fl_X9_78 rfl dX9_count_138 (St9_k f36) f37 ?_
    obtain ⟨f38, hv⟩ := hv
    refine w_getI (pc := 141) C fl_X9_137 rfl dX9_count_141 (St4_k f38) ?_
    exact w_iret (pc := 144) C dX9_count_144 hv
  obtain ⟨-, hv⟩ := hv
  have hv := hv c1 c2 c3 c4 c5 c6 c7 c8 c9 c10 c11
  refine w_tswOut (pc := 1) (tgt := 145) C dX9_count_1 ?_ (by decide) ?_
  · have e0 := lv_neT (a := 0) c1 rfl; have e1 := lv_neT (a := 1) c2 rfl; have e2 := lv_neT (a := 2) c3 rfl; have e3 := lv_neT (a := 3) c4 rfl; have e4 := lv_neT (a := 4) c5 rfl; have e5 := lv_neT (a := 5) c6 rfl; have e6 := lv_neT (a := 6) c7 rfl; have e7 := lv_neT (a := 7) c8 rfl; have e8 := lv_neT (a := 8) c9 rfl; have e9 := lv_neT (a := 9) c10 rfl; have e10 := lv_neT (a := 10) c11 rfl; omega
  refine w_iconst (pc := 145) C (v := (-1)) dX9_count_145 (by decide) ?_
  exact w_iret (pc := 146) C dX9_count_146 hv
theorem dX9_mark_0 : decode cX9_mark 0 = .ok (.aload_n 0, 1) := by decide +kernel
theorem dX9_mark_1 : decode cX9_mark 1 = .ok (.getfield 78, 3) := by decide +kernel
theorem dX9_mark_4 : decode cX9_mark 4 = .ok (.iload_n 1, 1) := by decide +kernel
theorem dX9_mark_5 : decode cX9_mark 5 = .ok (.invokevirtual 368, 3) := by decide +kernel
theorem dX9_mark_8 : decode cX9_mark 8 = .ok (.ifCond .ne 5, 3) := by decide +kernel
theorem dX9_mark_11 : decode cX9_mark 11 = .ok (.iconst (-1), 1) := by decide +kernel
theorem dX9_mark_12 : decode cX9_mark 12 = .ok (.ireturn, 1) := by decide +kernel
theorem dX9_mark_13 : decode cX9_mark 13 = .ok (.aload_n 0, 1) := by decide +kernel
theorem dX9_mark_14 : decode cX9_mark 14 = .ok (.getfield 19, 3) := by decide +kernel
theorem dX9_mark_17 : decode cX9_mark 17 = .ok (.invokevirtual 158, 3) := by decide +kernel
theorem dX9_mark_20 : decode cX9_mark 20 = .ok (.aload_n 0, 1) := by decide +kernel
theorem dX9_mark_21 : decode cX9_mark 21 = .ok (.getfield 19, 3) := by decide +kernel
theorem dX9_mark_24 : decode cX9_mark 24 = .ok (.aload_n 0, 1) := by decide +kernel
theorem dX9_mark_25 : decode cX9_mark 25 = .ok (.getfield 78, 3) := by decide +kernel
theorem dX9_mark_28 : decode cX9_mark 28 = .ok (.iload_n 1, 1) := by decide +kernel
theorem dX9_mark_29 : decode cX9_mark 29 = .ok (.invokevirtual 371, 3) := by decide +kernel
theorem dX9_mark_32 : decode cX9_mark 32 = .ok (.invokevirtual 164, 3) := by decide +kernel
theorem dX9_mark_35 : decode cX9_mark 35 = .ok (.aload_n 0, 1) := by decide +kernel
theorem dX9_mark_36 : decode cX9_mark 36 = .ok (.getfield 19, 3) := by decide +kernel
theorem dX9_mark_39 : decode cX9_mark 39 = .ok (.aload_n 0, 1) := by decide +kernel
theorem dX9_mark_40 : decode cX9_mark 40 = .ok (.getfield 78, 3) := by decide +kernel
theorem dX9_mark_43 : decode cX9_mark 43 = .ok (.iload_n 1, 1) := by decide +kernel
theorem dX9_mark_44 : decode cX9_mark 44 = .ok (.invokevirtual 375, 3) := by decide +kernel
theorem dX9_mark_47 : decode cX9_mark 47 = .ok (.invokevirtual 164, 3) := by decide +kernel
theorem dX9_mark_50 : decode cX9_mark 50 = .ok (.aload_n 0, 1) := by decide +kernel
theorem dX9_mark_51 : decode cX9_mark 51 = .ok (.getfield 78, 3) := by decide +kernel
theorem dX9_mark_54 : decode cX9_mark 54 = .ok (.iload_n 1, 1) := by decide +kernel
theorem dX9_mark_55 : decode cX9_mark 55 = .ok (.aload_n 0, 1) := by decide +kernel
theorem dX9_mark_56 : decode cX9_mark 56 = .ok (.getfield 54, 3) := by decide +kernel
theorem dX9_mark_59 : decode cX9_mark 59 = .ok (.invokevirtual 378, 3) := by decide +kernel
theorem dX9_mark_62 : decode cX9_mark 62 = .ok (.aload_n 0, 1) := by decide +kernel
theorem dX9_mark_63 : decode cX9_mark 63 = .ok (.getfield 19, 3) := by decide +kernel
theorem dX9_mark_66 : decode cX9_mark 66 = .ok (.aload_n 0, 1) := by decide +kernel
theorem dX9_mark_67 : decode cX9_mark 67 = .ok (.getfield 54, 3) := by decide +kernel
theorem dX9_mark_70 : decode cX9_mark 70 = .ok (.invokevirtual 293, 3) := by decide +kernel
theorem dX9_mark_73 : decode cX9_mark 73 = .ok (.iconst 0, 1) := by decide +kernel
theorem dX9_mark_74 : decode cX9_mark 74 = .ok (.ireturn, 1) := by decide +kernel
set_option maxRecDepth 20000 in
set_option maxHeartbeats 2000000 in
theorem V_X9_mark_0 {X : Ctx} (C : C_X9_mark X) {k n : Nat} {Q : Pq} {h : Hp} {v0 : Nat} {v1 : Int32}
    (hv : St9 h v0 ∧ nn h v0 12 ∧ St4 h (gp h v0 12) ∧ ((¬ (hIs h (gp h v0 12) 7 v1) = 0 → S_X8_add (lX X) (dtX X) 0 0 [.ref (v0 + 3), .long (hMu (tcl h (v0 + 3)) (gp h v0 12) v1)] (tcl h (v0 + 3)) (QV fun h4 =>
    St9 h4 v0 ∧ nn h4 v0 12 ∧ St4 h4 (gp h4 v0 12) ∧ S_X8_add (lX X) (dtX X) 0 0 [.ref (v0 + 3), .long (hMl h4 (gp h4 v0 12) v1)] h4 (QV fun h8 =>
    St9 h8 v0 ∧ nn h8 v0 12 ∧ St4 h8 (gp h8 v0 12) ∧ S_X4_gapBehind (lX X) (dtX X) 0 0 [.ref (gp h8 v0 12), .int v1, .ref (v0 + 13)] h8 (QV fun h12 =>
    St9 h12 v0 ∧ S_X8_addFraction (lX X) (dtX X) 0 0 [.ref (v0 + 3), .ref (v0 + 13)] h12 (QV fun h14 =>
    Q (some (.int 0)) h14))))) ∧
    ((hIs h (gp h v0 12) 7 v1) = 0 → Q (some (.int (-1))) h))) :
    Wj X k n Q 0 [(0, .ref v0), (1, .int v1)] [] h := by
  refine w_aload_n (pc := 0) C dX9_mark_0 rfl ?_
  obtain ⟨f1, hv⟩ := hv
  obtain ⟨f2, hv⟩ := hv
  refine w_getR (pc := 1) C fl_X9_78 rfl dX9_mark_1 (St9_k f1) f2 ?_
  refine w_iload_n (pc := 4) C dX9_mark_4 rfl ?_
  obtain ⟨f3, hv⟩ := hv
  refine w_cV0_1 (pc := 5) C cl_X9_368 lv_X4_isMark (by decide) dX9_mark_5 (Nat.le_of_ble_eq_true rfl) (c := 4) rfl (St4_k f3) ((sf_X4_isMark (h := h) f3).mono (fun v h9 hp => ?_))
  obtain ⟨e1, e2⟩ := hp
  rw [e1, e2]
  refine w_if_ne (pc := 8) C (tgt := 13) dX9_mark_8 (by decide) ?_
  obtain ⟨hv1, hv2⟩ := hv
  refine ⟨fun c15 => ?_, fun c15 => ?_⟩
  · have hv := hv1 c15
    refine w_aload_n (pc := 13) C dX9_mark_13 rfl ?_
    refine w_getR (pc := 14) C fl_X9_19 rfl dX9_mark_14 (St9_k f1) (St9_r1 f1) ?_
    refine w_cV0_0 (pc := 17) C cl_X9_158 lv_X8_clear (by decide) dX9_mark_17 (Nat.le_of_ble_eq_true rfl) (c := 8) rfl (St8_k (St9_s1 f1)) ((sf_X8_clear (h := h) (St9_s1 f1)).mono (fun v h9 hp => ?_))
    obtain ⟨e1, e2⟩ := hp
    rw [e1, e2]
    refine w_aload_n (pc := 20) C dX9_mark_20 rfl ?_
    refine w_getR (pc := 21) C fl_X9_19 rfl dX9_mark_21 (St9_k f1) (St9_r1 f1) ?_
    refine w_aload_n (pc := 24) C dX9_mark_24 rfl ?_
    refine w_getR (pc := 25) C fl_X9_78 rfl dX9_mark_25 (St9_k f1) f2 ?_
    refine w_iload_n (pc := 28) C dX9_mark_28 rfl ?_
    refine w_cV0_1 (pc := 29) C cl_X9_371 lv_X4_markUp (by decide) dX9_mark_29 (Nat.le_of_ble_eq_true rfl) (c := 4) rfl (St4_k f3) ((sf_X4_markUp (h := (tcl h (v0 + 3))) f3).mono (fun v h9 hp => ?_))
    obtain ⟨e1, e2⟩ := hp
    rw [e1, e2]
    refine w_cV0_1 (pc := 32) C cl_X9_164 lv_X8_add (by decide) dX9_mark_32 (Nat.le_of_ble_eq_true rfl) (c := 8) rfl (St8_k (St9_s1 f1)) (hv.mono (fun v h4 hp => ?_))
    obtain ⟨rfl, hv⟩ := hp
    refine w_aload_n (pc := 35) C dX9_mark_35 rfl ?_
    obtain ⟨f5, hv⟩ := hv
    refine w_getR (pc := 36) C fl_X9_19 rfl dX9_mark_36 (St9_k f5) (St9_r1 f5) ?_
    refine w_aload_n (pc := 39) C dX9_mark_39 rfl ?_
    obtain ⟨f6, hv⟩ := hv
    refine w_getR (pc := 40) C fl_X9_78 rfl dX9_mark_40 (St9_k f5) f6 ?_
    refine w_iload_n (pc := 43) C dX9_mark_43 rfl ?_
    obtain ⟨f7, hv⟩ := hv
    refine w_cV0_1 (pc := 44) C cl_X9_375 lv_X4_markLow (by decide) dX9_mark_44 (Nat.le_of_ble_eq_true rfl) (c := 4) rfl (St4_k f7) ((sf_X4_markLow (h := h4) f7).mono (fun v h9 hp => ?_))
    obtain ⟨e1, e2⟩ := hp
    rw [e1, e2]
    refine w_cV0_1 (pc := 47) C cl_X9_164 lv_X8_add (by decide) dX9_mark_47 (Nat.le_of_ble_eq_true rfl) (c := 8) rfl (St8_k (St9_s1 f5)) (hv.mono (fun v h8 hp => ?_))
    obtain ⟨rfl, hv⟩ := hp
    refine w_aload_n (pc := 50) C dX9_mark_50 rfl ?_
    obtain ⟨f9, hv⟩ := hv
    obtain ⟨f10, hv⟩ := hv
    refine w_getR (pc := 51) C fl_X9_78 rfl dX9_mark_51 (St9_k f9) f10 ?_
    refine w_iload_n (pc := 54) C dX9_mark_54 rfl ?_
    refine w_aload_n (pc := 55) C dX9_mark_55 rfl ?_
    refine w_getR (pc := 56) C fl_X9_54 rfl dX9_mark_56 (St9_k f9) (St9_r6 f9) ?_
    obtain ⟨f11, hv⟩ := hv
    refine w_cV0_2 (pc := 59) C cl_X9_378 lv_X4_gapBehind (by decide) dX9_mark_59 (Nat.le_of_ble_eq_true rfl) (c := 4) rfl (St4_k f11) (hv.mono (fun v h12 hp => ?_))
    obtain ⟨rfl, hv⟩ := hp
    refine w_aload_n (pc := 62) C dX9_mark_62 rfl ?_
    obtain ⟨f13, hv⟩ := hv
    refine w_getR (pc := 63) C fl_X9_19 rfl dX9_mark_63 (St9_k f13) (St9_r1 f13) ?_
    refine w_aload_n (pc := 66) C dX9_mark_66 rfl ?_
    refine w_getR (pc := 67) C fl_X9_54 rfl dX9_mark_67 (St9_k f13) (St9_r6 f13) ?_
    refine w_cV0_1 (pc := 70) C cl_X9_293 lv_X8_addFraction (by decide) dX9_mark_70 (Nat.le_of_ble_eq_true rfl) (c := 8) rfl (St8_k (St9_s1 f13)) (hv.mono (fun v h14 hp => ?_))
    obtain ⟨rfl, hv⟩ := hp
    refine w_iconst (pc := 73) C (v := 0) dX9_mark_73 (by decide) ?_
    exact w_iret (pc := 74) C dX9_mark_74 hv
  · have hv := hv2 c15
    refine w_iconst (pc := 11) C (v := (-1)) dX9_mark_11 (by decide) ?_
    exact w_iret (pc := 12) C dX9_mark_12 hv
theorem dX9_sign_0 : decode cX9_sign 0 = .ok (.aload_n 0, 1) := by decide +kernel
theorem dX9_sign_1 : decode cX9_sign 1 = .ok (.getfield 10, 3) := by decide +kernel
theorem dX9_sign_4 : decode cX9_sign 4 = .ok (.iload_n 1, 1) := by decide +kernel
theorem dX9_sign_5 : decode cX9_sign 5 = .ok (.invokevirtual 92, 3) := by decide +kernel
theorem dX9_sign_8 : decode cX9_sign 8 = .ok (.ifCond .eq 13, 3) := by decide +kernel
theorem dX9_sign_11 : decode cX9_sign 11 = .ok (.aload_n 0, 1) := by decide +kernel
theorem dX9_sign_12 : decode cX9_sign 12 = .ok (.getfield 10, 3) := by decide +kernel
theorem dX9_sign_15 : decode cX9_sign 15 = .ok (.getfield 96, 3) := by decide +kernel
theorem dX9_sign_18 : decode cX9_sign 18 = .ok (.goto 4, 3) := by decide +kernel
theorem dX9_sign_21 : decode cX9_sign 21 = .ok (.iconst (-1), 1) := by decide +kernel
theorem dX9_sign_22 : decode cX9_sign 22 = .ok (.ireturn, 1) := by decide +kernel
set_option maxRecDepth 20000 in
set_option maxHeartbeats 2000000 in
theorem V_X9_sign_0 {X : Ctx} (C : C_X9_sign X) {k n : Nat} {Q : Pq} {h : Hp} {v0 : Nat} {v1 : Int32}
    (hv : St9 h v0 ∧ S_X7_addFour (lX X) (dtX X) 0 0 [.ref (v0 + 1), .int v1] h (QI fun x3 h2 =>
    ((x3 = 0 → Q (some (.int (-1))) h2) ∧
    (¬ x3 = 0 → St9 h2 v0 ∧ Q (some (.int (gi h2 (v0 + 1) 1))) h2)))) :
    Wj X k n Q 0 [(0, .ref v0), (1, .int v1)] [] h := by
  refine w_aload_n (pc := 0) C dX9_sign_0 rfl ?_
  obtain ⟨f1, hv⟩ := hv
  refine w_getR (pc := 1) C fl_X9_10 rfl dX9_sign_1 (St9_k f1) (St9_r0 f1) ?_
  refine w_iload_n (pc := 4) C dX9_sign_4 rfl ?_
  refine w_cV0_1 (pc := 5) C cl_X9_92 lv_X7_addFour (by decide) dX9_sign_5 (Nat.le_of_ble_eq_true rfl) (c := 7) rfl (St7_k (St9_s0 f1)) (hv.mono (fun v h2 hp => ?_))
  obtain ⟨x3, rfl, hv⟩ := hp
  refine w_if_eq (pc := 8) C (tgt := 21) dX9_sign_8 (by decide) ?_
  obtain ⟨hv1, hv2⟩ := hv
  refine ⟨fun c5 => ?_, fun c5 => ?_⟩
  · have hv := hv1 c5
    refine w_iconst (pc := 21) C (v := (-1)) dX9_sign_21 (by decide) ?_
    exact w_iret (pc := 22) C dX9_sign_22 hv
  · have hv := hv2 c5
    refine w_aload_n (pc := 11) C dX9_sign_11 rfl ?_
    obtain ⟨f4, hv⟩ := hv
    refine w_getR (pc := 12) C fl_X9_10 rfl dX9_sign_12 (St9_k f4) (St9_r0 f4) ?_
    refine w_getI (pc := 15) C fl_X9_96 rfl dX9_sign_15 (St7_k (St9_s0 f4)) ?_
    refine w_goto (pc := 18) C (tgt := 22) dX9_sign_18 (by decide) ?_
    exact w_iret (pc := 22) C dX9_sign_22 hv
theorem dX9_end_0 : decode cX9_end 0 = .ok (.iload_n 1, 1) := by decide +kernel
theorem dX9_end_1 : decode cX9_end 1 = .ok (.ifCond .lt 14, 3) := by decide +kernel
theorem dX9_end_4 : decode cX9_end 4 = .ok (.iload_n 1, 1) := by decide +kernel
theorem dX9_end_5 : decode cX9_end 5 = .ok (.aload_n 0, 1) := by decide +kernel
theorem dX9_end_6 : decode cX9_end 6 = .ok (.getfield 10, 3) := by decide +kernel
theorem dX9_end_9 : decode cX9_end 9 = .ok (.getfield 96, 3) := by decide +kernel
theorem dX9_end_12 : decode cX9_end 12 = .ok (.if_icmp .le 5, 3) := by decide +kernel
theorem dX9_end_15 : decode cX9_end 15 = .ok (.iconst 0, 1) := by decide +kernel
theorem dX9_end_16 : decode cX9_end 16 = .ok (.ireturn, 1) := by decide +kernel
theorem dX9_end_17 : decode cX9_end 17 = .ok (.aload_n 0, 1) := by decide +kernel
theorem dX9_end_18 : decode cX9_end 18 = .ok (.getfield 10, 3) := by decide +kernel
theorem dX9_end_21 : decode cX9_end 21 = .ok (.iload_n 1, 1) := by decide +kernel
theorem dX9_end_22 : decode cX9_end 22 = .ok (.putfield 96, 3) := by decide +kernel
theorem dX9_end_25 : decode cX9_end 25 = .ok (.iconst 1, 1) := by decide +kernel
theorem dX9_end_26 : decode cX9_end 26 = .ok (.ireturn, 1) := by decide +kernel
set_option maxRecDepth 20000 in
set_option maxHeartbeats 2000000 in
theorem V_X9_end_0 {X : Ctx} (C : C_X9_end X) {k n : Nat} {Q : Pq} {h : Hp} {v0 : Nat} {v1 : Int32}
    (hv : ((v1 < 0 → Q (some (.int 0)) h) ∧
    (¬ v1 < 0 → St9 h v0 ∧ ((v1 ≤ (gi h (v0 + 1) 1) → Q (some (.int 1)) (si h (v0 + 1) 1 v1)) ∧
    (¬ v1 ≤ (gi h (v0 + 1) 1) → Q (some (.int 0)) h))))) :
    Wj X k n Q 0 [(0, .ref v0), (1, .int v1)] [] h := by
  refine w_iload_n (pc := 0) C dX9_end_0 rfl ?_
  refine w_if_lt (pc := 1) C (tgt := 15) dX9_end_1 (by decide) ?_
  obtain ⟨hv1, hv2⟩ := hv
  refine ⟨fun c3 => ?_, fun c3 => ?_⟩
  · have hv := hv1 c3
    refine w_iconst (pc := 15) C (v := 0) dX9_end_15 (by decide) ?_
    exact w_zret (pc := 16) C dX9_end_16 (by decide) hv
  · have hv := hv2 c3
    refine w_iload_n (pc := 4) C dX9_end_4 rfl ?_
    refine w_aload_n (pc := 5) C dX9_end_5 rfl ?_
    obtain ⟨f1, hv⟩ := hv
    refine w_getR (pc := 6) C fl_X9_10 rfl dX9_end_6 (St9_k f1) (St9_r0 f1) ?_
    refine w_getI (pc := 9) C fl_X9_96 rfl dX9_end_9 (St7_k (St9_s0 f1)) ?_
    refine w_icmp_le (pc := 12) C (tgt := 17) dX9_end_12 (by decide) ?_
    obtain ⟨hv1, hv2⟩ := hv
    refine ⟨fun c2 => ?_, fun c2 => ?_⟩
    · have hv := hv1 c2
      refine w_aload_n (pc := 17) C dX9_end_17 rfl ?_
      refine w_getR (pc := 18) C fl_X9_10 rfl dX9_end_18 (St9_k f1) (St9_r0 f1) ?_
      refine w_iload_n (pc := 21) C dX9_end_21 rfl ?_
      refine w_putI (pc := 22) C fl_X9_96 rfl rfl dX9_end_22 (St7_k (St9_s0 f1)) ?_
      refine w_iconst (pc := 25) C (v := 1) dX9_end_25 (by decide) ?_
      exact w_zret (pc := 26) C dX9_end_26 (by decide) hv
    · have hv := hv2 c2
      refine w_iconst (pc := 15) C (v := 0) dX9_end_15 (by decide) ?_
      exact w_zret (pc := 16) C dX9_end_16 (by decide) hv
theorem dX9_undo_0 : decode cX9_undo 0 = .ok (.aload_n 0, 1) := by decide +kernel
theorem dX9_undo_1 : decode cX9_undo 1 = .ok (.getfield 70, 3) := by decide +kernel
theorem dX9_undo_4 : decode cX9_undo 4 = .ok (.ifCond .le 15, 3) := by decide +kernel
theorem dX9_undo_7 : decode cX9_undo 7 = .ok (.aload_n 0, 1) := by decide +kernel
theorem dX9_undo_8 : decode cX9_undo 8 = .ok (.getfield 70, 3) := by decide +kernel
theorem dX9_undo_11 : decode cX9_undo 11 = .ok (.aload_n 0, 1) := by decide +kernel
theorem dX9_undo_12 : decode cX9_undo 12 = .ok (.getfield 63, 3) := by decide +kernel
theorem dX9_undo_15 : decode cX9_undo 15 = .ok (.arraylength, 1) := by decide +kernel
theorem dX9_undo_16 : decode cX9_undo 16 = .ok (.if_icmp .le 5, 3) := by decide +kernel
theorem dX9_undo_19 : decode cX9_undo 19 = .ok (.iconst (-1), 1) := by decide +kernel
theorem dX9_undo_20 : decode cX9_undo 20 = .ok (.ireturn, 1) := by decide +kernel
theorem dX9_undo_21 : decode cX9_undo 21 = .ok (.aload_n 0, 1) := by decide +kernel
theorem dX9_undo_22 : decode cX9_undo 22 = .ok (.getfield 63, 3) := by decide +kernel
theorem dX9_undo_25 : decode cX9_undo 25 = .ok (.aload_n 0, 1) := by decide +kernel
theorem dX9_undo_26 : decode cX9_undo 26 = .ok (.getfield 70, 3) := by decide +kernel
theorem dX9_undo_29 : decode cX9_undo 29 = .ok (.iconst 1, 1) := by decide +kernel
theorem dX9_undo_30 : decode cX9_undo 30 = .ok (.isub, 1) := by decide +kernel
theorem dX9_undo_31 : decode cX9_undo 31 = .ok (.aaload, 1) := by decide +kernel
theorem dX9_undo_32 : decode cX9_undo 32 = .ok (.astore_n 1, 1) := by decide +kernel
theorem dX9_undo_33 : decode cX9_undo 33 = .ok (.aload_n 1, 1) := by decide +kernel
theorem dX9_undo_34 : decode cX9_undo 34 = .ok (.ifnonnull 5, 3) := by decide +kernel
theorem dX9_undo_37 : decode cX9_undo 37 = .ok (.iconst (-1), 1) := by decide +kernel
theorem dX9_undo_38 : decode cX9_undo 38 = .ok (.ireturn, 1) := by decide +kernel
theorem dX9_undo_39 : decode cX9_undo 39 = .ok (.aload_n 0, 1) := by decide +kernel
theorem dX9_undo_40 : decode cX9_undo 40 = .ok (.dup, 1) := by decide +kernel
theorem dX9_undo_41 : decode cX9_undo 41 = .ok (.getfield 70, 3) := by decide +kernel
theorem dX9_undo_44 : decode cX9_undo 44 = .ok (.iconst 1, 1) := by decide +kernel
theorem dX9_undo_45 : decode cX9_undo 45 = .ok (.isub, 1) := by decide +kernel
theorem dX9_undo_46 : decode cX9_undo 46 = .ok (.putfield 70, 3) := by decide +kernel
theorem dX9_undo_49 : decode cX9_undo 49 = .ok (.aload_n 0, 1) := by decide +kernel
theorem dX9_undo_50 : decode cX9_undo 50 = .ok (.getfield 63, 3) := by decide +kernel
theorem dX9_undo_53 : decode cX9_undo 53 = .ok (.aload_n 0, 1) := by decide +kernel
theorem dX9_undo_54 : decode cX9_undo 54 = .ok (.getfield 70, 3) := by decide +kernel
theorem dX9_undo_57 : decode cX9_undo 57 = .ok (.aload_n 0, 1) := by decide +kernel
theorem dX9_undo_58 : decode cX9_undo 58 = .ok (.getfield 78, 3) := by decide +kernel
theorem dX9_undo_61 : decode cX9_undo 61 = .ok (.aastore, 1) := by decide +kernel
theorem dX9_undo_62 : decode cX9_undo 62 = .ok (.aload_n 0, 1) := by decide +kernel
theorem dX9_undo_63 : decode cX9_undo 63 = .ok (.aload_n 1, 1) := by decide +kernel
theorem dX9_undo_64 : decode cX9_undo 64 = .ok (.putfield 78, 3) := by decide +kernel
theorem dX9_undo_67 : decode cX9_undo 67 = .ok (.aload_n 0, 1) := by decide +kernel
theorem dX9_undo_68 : decode cX9_undo 68 = .ok (.getfield 70, 3) := by decide +kernel
theorem dX9_undo_71 : decode cX9_undo 71 = .ok (.ireturn, 1) := by decide +kernel
set_option maxRecDepth 20000 in
set_option maxHeartbeats 2000000 in
theorem V_X9_undo_0 {X : Ctx} (C : C_X9_undo X) {k n : Nat} {Q : Pq} {h : Hp} {v0 : Nat}
    (hv : St9 h v0 ∧ (((gi h v0 10) ≤ 0 → Q (some (.int (-1))) h) ∧
    (¬ (gi h v0 10) ≤ 0 → (((gi h v0 10) ≤ (Int32.ofNat 7) → inb ((gi h v0 10) - 1) 7 ∧ ((gr h (v0 + 15) (ix ((gi h v0 10) - 1)) = none → Q (some (.int (-1))) h) ∧
    (∀ b3, gr h (v0 + 15) (ix ((gi h v0 10) - 1)) = some b3 → nn h v0 12 ∧ inb (gi (si h v0 10 ((gi h v0 10) - 1)) v0 10) 7 ∧ St4 h (gp h v0 12) ∧ St9 (sr h (v0 + 15) (ix (gi (si h v0 10 ((gi h v0 10) - 1)) v0 10)) (some (gp h v0 12))) v0 ∧ St9 (sr (sr h (v0 + 15) (ix (gi (si h v0 10 ((gi h v0 10) - 1)) v0 10)) (some (gp h v0 12))) v0 12 (some b3)) v0 ∧ Q (some (.int (gi (si h v0 10 ((gi h v0 10) - 1)) v0 10))) (sr (sr (si h v0 10 ((gi h v0 10) - 1)) (v0 + 15) (ix (gi (si h v0 10 ((gi h v0 10) - 1)) v0 10)) (some (gp h v0 12))) v0 12 (some b3))))) ∧
    (¬ (gi h v0 10) ≤ (Int32.ofNat 7) → Q (some (.int (-1))) h))))) :
    Wj X k n Q 0 [(0, .ref v0)] [] h := by
  refine w_aload_n (pc := 0) C dX9_undo_0 rfl ?_
  obtain ⟨f1, hv⟩ := hv
  refine w_getI (pc := 1) C fl_X9_70 rfl dX9_undo_1 (St9_k f1) ?_
  refine w_if_le (pc := 4) C (tgt := 19) dX9_undo_4 (by decide) ?_
  obtain ⟨hv1, hv2⟩ := hv
  refine ⟨fun c11 => ?_, fun c11 => ?_⟩
  · have hv := hv1 c11
    refine w_iconst (pc := 19) C (v := (-1)) dX9_undo_19 (by decide) ?_
    exact w_iret (pc := 20) C dX9_undo_20 hv
  · have hv := hv2 c11
    refine w_aload_n (pc := 7) C dX9_undo_7 rfl ?_
    refine w_getI (pc := 8) C fl_X9_70 rfl dX9_undo_8 (St9_k f1) ?_
    refine w_aload_n (pc := 11) C dX9_undo_11 rfl ?_
    refine w_getR (pc := 12) C fl_X9_63 rfl dX9_undo_12 (St9_k f1) (St9_r8 f1) ?_
    refine w_alen (pc := 15) 4 (by decide) C dX9_undo_15 (St9_k8 f1) ?_
    rw [(St9_l8 f1)]
    refine w_icmp_le (pc := 16) C (tgt := 21) dX9_undo_16 (by decide) ?_
    obtain ⟨hv1, hv2⟩ := hv
    refine ⟨fun c10 => ?_, fun c10 => ?_⟩
    · have hv := hv1 c10
      refine w_aload_n (pc := 21) C dX9_undo_21 rfl ?_
      refine w_getR (pc := 22) C fl_X9_63 rfl dX9_undo_22 (St9_k f1) (St9_r8 f1) ?_
      refine w_aload_n (pc := 25) C dX9_undo_25 rfl ?_
      refine w_getI (pc := 26) C fl_X9_70 rfl dX9_undo_26 (St9_k f1) ?_
      refine w_iconst (pc := 29) C (v := 1) dX9_undo_29 (by decide) ?_
      refine w_isub (pc := 30) C dX9_undo_30 ?_
      obtain ⟨f2, hv⟩ := hv
      refine w_aald (pc := 31) C dX9_undo_31 (St9_k8 f1) (inbl (St9_l8 f1) f2) ?_
      obtain ⟨hv1, hv2⟩ := hv
      refine ⟨fun c4 => ?_, fun b3 c4 => ?_⟩
      · have hv := hv1 c4
        refine w_astore_nN (pc := 32) C dX9_undo_32 (by decide) ?_
        refine w_aload_nN (pc := 33) C dX9_undo_33 rfl ?_
        refine w_ifnonnullN (pc := 34) C dX9_undo_34 ?_
        refine w_iconst (pc := 37) C (v := (-1)) dX9_undo_37 (by decide) ?_
        exact w_iret (pc := 38) C dX9_undo_38 hv
      · have hv := hv2 b3 c4
        refine w_astore_n (pc := 32) C dX9_undo_32 (by decide) ?_
        refine w_aload_n (pc := 33) C dX9_undo_33 rfl ?_
        refine w_ifnonnull (pc := 34) C (tgt := 39) dX9_undo_34 (by decide) ?_
        refine w_aload_n (pc := 39) C dX9_undo_39 rfl ?_
        refine w_dup (pc := 40) C dX9_undo_40 rfl ?_
        refine w_getI (pc := 41) C fl_X9_70 rfl dX9_undo_41 (St9_k f1) ?_
        refine w_iconst (pc := 44) C (v := 1) dX9_undo_44 (by decide) ?_
        refine w_isub (pc := 45) C dX9_undo_45 ?_
        refine w_putI (pc := 46) C fl_X9_70 rfl rfl dX9_undo_46 (St9_k f1) ?_
        refine w_aload_n (pc := 49) C dX9_undo_49 rfl ?_
        refine w_getR (pc := 50) C fl_X9_63 rfl dX9_undo_50 (St9_k f1) (St9_r8 f1) ?_
        refine w_aload_n (pc := 53) C dX9_undo_53 rfl ?_
        refine w_getI (pc := 54) C fl_X9_70 rfl dX9_undo_54 (St9_k f1) ?_
        refine w_aload_n (pc := 57) C dX9_undo_57 rfl ?_
        obtain ⟨f5, hv⟩ := hv
        refine w_getR (pc := 58) C fl_X9_78 rfl dX9_undo_58 (St9_k f1) f5 ?_
        obtain ⟨f6, hv⟩ := hv
        obtain ⟨f7, hv⟩ := hv
        refine w_aast (pc := 61) C dX9_undo_61 (St9_k8 f1) (inbl (St9_l8 f1) f6) (St4_k f7) ?_
        refine w_aload_n (pc := 62) C dX9_undo_62 rfl ?_
        refine w_aload_n (pc := 63) C dX9_undo_63 rfl ?_
        obtain ⟨f8, hv⟩ := hv
        refine w_putR (pc := 64) C fl_X9_78 rfl rfl dX9_undo_64 (St9_k f8) ?_
        refine w_aload_n (pc := 67) C dX9_undo_67 rfl ?_
        obtain ⟨f9, hv⟩ := hv
        refine w_getI (pc := 68) C fl_X9_70 rfl dX9_undo_68 (St9_k f9) ?_
        exact w_iret (pc := 71) C dX9_undo_71 hv
    · have hv := hv2 c10
      refine w_iconst (pc := 19) C (v := (-1)) dX9_undo_19 (by decide) ?_
      exact w_iret (pc := 20) C dX9_undo_20 hv
theorem dX9_keep_0 : decode cX9_keep 0 = .ok (.iload_n 1, 1) := by decide +kernel
theorem dX9_keep_1 : decode cX9_keep 1 = .ok (.ifCond .lt 12, 3) := by decide +kernel
theorem dX9_keep_4 : decode cX9_keep 4 = .ok (.iload_n 1, 1) := by decide +kernel
theorem dX9_keep_5 : decode cX9_keep 5 = .ok (.aload_n 0, 1) := by decide +kernel
theorem dX9_keep_6 : decode cX9_keep 6 = .ok (.getfield 67, 3) := by decide +kernel
theorem dX9_keep_9 : decode cX9_keep 9 = .ok (.arraylength, 1) := by decide +kernel
theorem dX9_keep_10 : decode cX9_keep 10 = .ok (.if_icmp .lt 5, 3) := by decide +kernel
theorem dX9_keep_13 : decode cX9_keep 13 = .ok (.iconst 0, 1) := by decide +kernel
theorem dX9_keep_14 : decode cX9_keep 14 = .ok (.ireturn, 1) := by decide +kernel
theorem dX9_keep_15 : decode cX9_keep 15 = .ok (.aload_n 0, 1) := by decide +kernel
theorem dX9_keep_16 : decode cX9_keep 16 = .ok (.getfield 67, 3) := by decide +kernel
theorem dX9_keep_19 : decode cX9_keep 19 = .ok (.iload_n 1, 1) := by decide +kernel
theorem dX9_keep_20 : decode cX9_keep 20 = .ok (.aaload, 1) := by decide +kernel
theorem dX9_keep_21 : decode cX9_keep 21 = .ok (.astore_n 2, 1) := by decide +kernel
theorem dX9_keep_22 : decode cX9_keep 22 = .ok (.aload_n 2, 1) := by decide +kernel
theorem dX9_keep_23 : decode cX9_keep 23 = .ok (.ifnonnull 18, 3) := by decide +kernel
theorem dX9_keep_26 : decode cX9_keep 26 = .ok (.new 61, 3) := by decide +kernel
theorem dX9_keep_29 : decode cX9_keep 29 = .ok (.dup, 1) := by decide +kernel
theorem dX9_keep_30 : decode cX9_keep 30 = .ok (.invokespecial 77, 3) := by decide +kernel
theorem dX9_keep_33 : decode cX9_keep 33 = .ok (.astore_n 2, 1) := by decide +kernel
theorem dX9_keep_34 : decode cX9_keep 34 = .ok (.aload_n 0, 1) := by decide +kernel
theorem dX9_keep_35 : decode cX9_keep 35 = .ok (.getfield 67, 3) := by decide +kernel
theorem dX9_keep_38 : decode cX9_keep 38 = .ok (.iload_n 1, 1) := by decide +kernel
theorem dX9_keep_39 : decode cX9_keep 39 = .ok (.aload_n 2, 1) := by decide +kernel
theorem dX9_keep_40 : decode cX9_keep 40 = .ok (.aastore, 1) := by decide +kernel
theorem dX9_keep_41 : decode cX9_keep 41 = .ok (.aload_n 2, 1) := by decide +kernel
theorem dX9_keep_42 : decode cX9_keep 42 = .ok (.aload_n 0, 1) := by decide +kernel
theorem dX9_keep_43 : decode cX9_keep 43 = .ok (.getfield 78, 3) := by decide +kernel
theorem dX9_keep_46 : decode cX9_keep 46 = .ok (.invokevirtual 99, 3) := by decide +kernel
theorem dX9_keep_49 : decode cX9_keep 49 = .ok (.iconst 1, 1) := by decide +kernel
theorem dX9_keep_50 : decode cX9_keep 50 = .ok (.ireturn, 1) := by decide +kernel
set_option maxRecDepth 20000 in
set_option maxHeartbeats 2000000 in
theorem V_X9_keep_0 {X : Ctx} (C : C_X9_keep X) {k n : Nat} {Q : Pq} {h : Hp} {v0 : Nat} {v1 : Int32}
    (hv : ((v1 < 0 → Q (some (.int 0)) h) ∧
    (¬ v1 < 0 → St9 h v0 ∧ ((v1 < (Int32.ofNat 2) → inb v1 2 ∧ ((gr h (v0 + 16) (ix v1) = none → k + 1 ≤ mcX X ∧ n + 17 ≤ msX X ∧ (∃ k8 n9, k + 1 + k8 ≤ mcX X ∧ n + 17 + n9 ≤ msX X ∧ S_X4_init (lX X) (dtX X) k8 n9 [.ref (hn h)] (nw h 5 0) (QV fun h7 =>
    St9 h7 v0 ∧ inb v1 2 ∧ St4 h7 (hn h) ∧ Wj X (k + 1 + k8) (n + 17 + n9) Q 41 [(0, .ref v0), (2, .ref (hn h))] [] (sr h7 (v0 + 16) (ix v1) (some (hn h)))))) ∧
    (∀ b3, gr h (v0 + 16) (ix v1) = some b3 → Wj X k n Q 41 [(0, .ref v0), (2, .ref b3)] [] h))) ∧
    (¬ v1 < (Int32.ofNat 2) → Q (some (.int 0)) h))))) :
    Wj X k n Q 0 [(0, .ref v0), (1, .int v1)] [] h := by
  refine w_iload_n (pc := 0) C dX9_keep_0 rfl ?_
  refine w_if_lt (pc := 1) C (tgt := 13) dX9_keep_1 (by decide) ?_
  obtain ⟨hv1, hv2⟩ := hv
  refine ⟨fun c14 => ?_, fun c14 => ?_⟩
  · have hv := hv1 c14
    refine w_iconst (pc := 13) C (v := 0) dX9_keep_13 (by decide) ?_
    exact w_zret (pc := 14) C dX9_keep_14 (by decide) hv
  · have hv := hv2 c14
    refine w_iload_n (pc := 4) C dX9_keep_4 rfl ?_
    refine w_aload_n (pc := 5) C dX9_keep_5 rfl ?_
    obtain ⟨f1, hv⟩ := hv
    refine w_getR (pc := 6) C fl_X9_67 rfl dX9_keep_6 (St9_k f1) (St9_r9 f1) ?_
    refine w_alen (pc := 9) 4 (by decide) C dX9_keep_9 (St9_k9 f1) ?_
    rw [(St9_l9 f1)]
    refine w_icmp_lt (pc := 10) C (tgt := 15) dX9_keep_10 (by decide) ?_
    obtain ⟨hv1, hv2⟩ := hv
    refine ⟨fun c13 => ?_, fun c13 => ?_⟩
    · have hv := hv1 c13
      refine w_aload_n (pc := 15) C dX9_keep_15 rfl ?_
      refine w_getR (pc := 16) C fl_X9_67 rfl dX9_keep_16 (St9_k f1) (St9_r9 f1) ?_
      refine w_iload_n (pc := 19) C dX9_keep_19 rfl ?_
      obtain ⟨f2, hv⟩ := hv
      refine w_aald (pc := 20) C dX9_keep_20 (St9_k9 f1) (inbl (St9_l9 f1) f2) ?_
      obtain ⟨hv1, hv2⟩ := hv
      refine ⟨fun c4 => ?_, fun b3 c4 => ?_⟩
      · have hv := hv1 c4
        refine w_astore_nN (pc := 21) C dX9_keep_21 (by decide) ?_
        refine w_aload_nN (pc := 22) C dX9_keep_22 rfl ?_
        refine w_ifnonnullN (pc := 23) C dX9_keep_23 ?_
        obtain ⟨f5, hv⟩ := hv
        obtain ⟨f6, hv⟩ := hv
        refine w_new (pc := 26) C nl_X9_61 (N := 17) rfl dX9_keep_26 f5 f6 ?_
        refine w_dup (pc := 29) C dX9_keep_29 rfl ?_
        obtain ⟨k8, n9, hm1, hm2, hv⟩ := hv
        refine w_cIN1_0 (pc := 30) C cl_X9_77 li_X4_init (by decide) dX9_keep_30 (Nat.le_of_ble_eq_true rfl) hm1 hm2 (hv.mono (fun v h7 hp => ?_))
        obtain ⟨rfl, hv⟩ := hp
        refine w_astore_n (pc := 33) C dX9_keep_33 (by decide) ?_
        refine w_aload_n (pc := 34) C dX9_keep_34 rfl ?_
        obtain ⟨f10, hv⟩ := hv
        refine w_getR (pc := 35) C fl_X9_67 rfl dX9_keep_35 (St9_k f10) (St9_r9 f10) ?_
        refine w_iload_n (pc := 38) C dX9_keep_38 rfl ?_
        refine w_aload_n (pc := 39) C dX9_keep_39 rfl ?_
        obtain ⟨f11, hv⟩ := hv
        obtain ⟨f12, hv⟩ := hv
        refine w_aast (pc := 40) C dX9_keep_40 (St9_k9 f10) (inbl (St9_l9 f10) f11) (St4_k f12) ?_
        refine w_sub ?_ hv
        exact ⟨rfl, rfl, trivial⟩
      · have hv := hv2 b3 c4
        refine w_astore_n (pc := 21) C dX9_keep_21 (by decide) ?_
        refine w_aload_n (pc := 22) C dX9_keep_22 rfl ?_
        refine w_ifnonnull (pc := 23) C (tgt := 41) dX9_keep_23 (by decide) ?_
        refine w_sub ?_ hv
        exact ⟨rfl, rfl, trivial⟩
    · have hv := hv2 c13
      refine w_iconst (pc := 13) C (v := 0) dX9_keep_13 (by decide) ?_
      exact w_zret (pc := 14) C dX9_keep_14 (by decide) hv
set_option maxRecDepth 20000 in
set_option maxHeartbeats 2000000 in
theorem V_X9_keep_41 {X : Ctx} (C : C_X9_keep X) {k n : Nat} {Q : Pq} {h : Hp} {v0 v2 : Nat}
    (hv : St9 h v0 ∧ nn h v0 12 ∧ St4 h v2 ∧ S_X4_copyFrom (lX X) (dtX X) 0 0 [.ref v2, .ref (gp h v0 12)] h (QV fun h4 =>
    Q (some (.int 1)) h4)) :
    Wj X k n Q 41 [(0, .ref v0), (2, .ref v2)] [] h := by
  refine w_aload_n (pc := 41) C dX9_keep_41 rfl ?_
  refine w_aload_n (pc := 42) C dX9_keep_42 rfl ?_
  obtain ⟨f1, hv⟩ := hv
  obtain ⟨f2, hv⟩ := hv
  refine w_getR (pc := 43) C fl_X9_78 rfl dX9_keep_43 (St9_k f1) f2 ?_
  obtain ⟨f3, hv⟩ := hv
  refine w_cV0_1 (pc := 46) C cl_X9_99 lv_X4_copyFrom (by decide) dX9_keep_46 (Nat.le_of_ble_eq_true rfl) (c := 4) rfl (St4_k f3) (hv.mono (fun v h4 hp => ?_))
  obtain ⟨rfl, hv⟩ := hp
  refine w_iconst (pc := 49) C (v := 1) dX9_keep_49 (by decide) ?_
  exact w_zret (pc := 50) C dX9_keep_50 (by decide) hv
theorem dX9_again_0 : decode cX9_again 0 = .ok (.iload_n 1, 1) := by decide +kernel
theorem dX9_again_1 : decode cX9_again 1 = .ok (.ifCond .lt 12, 3) := by decide +kernel
theorem dX9_again_4 : decode cX9_again 4 = .ok (.iload_n 1, 1) := by decide +kernel
theorem dX9_again_5 : decode cX9_again 5 = .ok (.aload_n 0, 1) := by decide +kernel
theorem dX9_again_6 : decode cX9_again 6 = .ok (.getfield 67, 3) := by decide +kernel
theorem dX9_again_9 : decode cX9_again 9 = .ok (.arraylength, 1) := by decide +kernel
theorem dX9_again_10 : decode cX9_again 10 = .ok (.if_icmp .lt 5, 3) := by decide +kernel
theorem dX9_again_13 : decode cX9_again 13 = .ok (.iconst 0, 1) := by decide +kernel
theorem dX9_again_14 : decode cX9_again 14 = .ok (.ireturn, 1) := by decide +kernel
theorem dX9_again_15 : decode cX9_again 15 = .ok (.aload_n 0, 1) := by decide +kernel
theorem dX9_again_16 : decode cX9_again 16 = .ok (.getfield 67, 3) := by decide +kernel
theorem dX9_again_19 : decode cX9_again 19 = .ok (.iload_n 1, 1) := by decide +kernel
theorem dX9_again_20 : decode cX9_again 20 = .ok (.aaload, 1) := by decide +kernel
theorem dX9_again_21 : decode cX9_again 21 = .ok (.astore_n 2, 1) := by decide +kernel
theorem dX9_again_22 : decode cX9_again 22 = .ok (.aload_n 2, 1) := by decide +kernel
theorem dX9_again_23 : decode cX9_again 23 = .ok (.ifnonnull 5, 3) := by decide +kernel
theorem dX9_again_26 : decode cX9_again 26 = .ok (.iconst 0, 1) := by decide +kernel
theorem dX9_again_27 : decode cX9_again 27 = .ok (.ireturn, 1) := by decide +kernel
theorem dX9_again_28 : decode cX9_again 28 = .ok (.aload_n 0, 1) := by decide +kernel
theorem dX9_again_29 : decode cX9_again 29 = .ok (.getfield 78, 3) := by decide +kernel
theorem dX9_again_32 : decode cX9_again 32 = .ok (.aload_n 2, 1) := by decide +kernel
theorem dX9_again_33 : decode cX9_again 33 = .ok (.invokevirtual 99, 3) := by decide +kernel
theorem dX9_again_36 : decode cX9_again 36 = .ok (.aload_n 0, 1) := by decide +kernel
theorem dX9_again_37 : decode cX9_again 37 = .ok (.iconst 0, 1) := by decide +kernel
theorem dX9_again_38 : decode cX9_again 38 = .ok (.putfield 70, 3) := by decide +kernel
theorem dX9_again_41 : decode cX9_again 41 = .ok (.iconst 1, 1) := by decide +kernel
theorem dX9_again_42 : decode cX9_again 42 = .ok (.ireturn, 1) := by decide +kernel
set_option maxRecDepth 20000 in
set_option maxHeartbeats 2000000 in
theorem V_X9_again_0 {X : Ctx} (C : C_X9_again X) {k n : Nat} {Q : Pq} {h : Hp} {v0 : Nat} {v1 : Int32}
    (hv : ((v1 < 0 → Q (some (.int 0)) h) ∧
    (¬ v1 < 0 → St9 h v0 ∧ ((v1 < (Int32.ofNat 2) → inb v1 2 ∧ ((gr h (v0 + 16) (ix v1) = none → Q (some (.int 0)) h) ∧
    (∀ b3, gr h (v0 + 16) (ix v1) = some b3 → nn h v0 12 ∧ St4 h (gp h v0 12) ∧ S_X4_copyFrom (lX X) (dtX X) 0 0 [.ref (gp h v0 12), .ref b3] h (QV fun h7 =>
    St9 h7 v0 ∧ Q (some (.int 1)) (si h7 v0 10 0))))) ∧
    (¬ v1 < (Int32.ofNat 2) → Q (some (.int 0)) h))))) :
    Wj X k n Q 0 [(0, .ref v0), (1, .int v1)] [] h := by
  refine w_iload_n (pc := 0) C dX9_again_0 rfl ?_
  refine w_if_lt (pc := 1) C (tgt := 13) dX9_again_1 (by decide) ?_
  obtain ⟨hv1, hv2⟩ := hv
  refine ⟨fun c10 => ?_, fun c10 => ?_⟩
  · have hv := hv1 c10
    refine w_iconst (pc := 13) C (v := 0) dX9_again_13 (by decide) ?_
    exact w_zret (pc := 14) C dX9_again_14 (by decide) hv
  · have hv := hv2 c10
    refine w_iload_n (pc := 4) C dX9_again_4 rfl ?_
    refine w_aload_n (pc := 5) C dX9_again_5 rfl ?_
    obtain ⟨f1, hv⟩ := hv
    refine w_getR (pc := 6) C fl_X9_67 rfl dX9_again_6 (St9_k f1) (St9_r9 f1) ?_
    refine w_alen (pc := 9) 4 (by decide) C dX9_again_9 (St9_k9 f1) ?_
    rw [(St9_l9 f1)]
    refine w_icmp_lt (pc := 10) C (tgt := 15) dX9_again_10 (by decide) ?_
    obtain ⟨hv1, hv2⟩ := hv
    refine ⟨fun c9 => ?_, fun c9 => ?_⟩
    · have hv := hv1 c9
      refine w_aload_n (pc := 15) C dX9_again_15 rfl ?_
      refine w_getR (pc := 16) C fl_X9_67 rfl dX9_again_16 (St9_k f1) (St9_r9 f1) ?_
      refine w_iload_n (pc := 19) C dX9_again_19 rfl ?_
      obtain ⟨f2, hv⟩ := hv
      refine w_aald (pc := 20) C dX9_again_20 (St9_k9 f1) (inbl (St9_l9 f1) f2) ?_
      obtain ⟨hv1, hv2⟩ := hv
      refine ⟨fun c4 => ?_, fun b3 c4 => ?_⟩
      · have hv := hv1 c4
        refine w_astore_nN (pc := 21) C dX9_again_21 (by decide) ?_
        refine w_aload_nN (pc := 22) C dX9_again_22 rfl ?_
        refine w_ifnonnullN (pc := 23) C dX9_again_23 ?_
        refine w_iconst (pc := 26) C (v := 0) dX9_again_26 (by decide) ?_
        exact w_zret (pc := 27) C dX9_again_27 (by decide) hv
      · have hv := hv2 b3 c4
        refine w_astore_n (pc := 21) C dX9_again_21 (by decide) ?_
        refine w_aload_n (pc := 22) C dX9_again_22 rfl ?_
        refine w_ifnonnull (pc := 23) C (tgt := 28) dX9_again_23 (by decide) ?_
        refine w_aload_n (pc := 28) C dX9_again_28 rfl ?_
        obtain ⟨f5, hv⟩ := hv
        refine w_getR (pc := 29) C fl_X9_78 rfl dX9_again_29 (St9_k f1) f5 ?_
        refine w_aload_n (pc := 32) C dX9_again_32 rfl ?_
        obtain ⟨f6, hv⟩ := hv
        refine w_cV0_1 (pc := 33) C cl_X9_99 lv_X4_copyFrom (by decide) dX9_again_33 (Nat.le_of_ble_eq_true rfl) (c := 4) rfl (St4_k f6) (hv.mono (fun v h7 hp => ?_))
        obtain ⟨rfl, hv⟩ := hp
        refine w_aload_n (pc := 36) C dX9_again_36 rfl ?_
        refine w_iconst (pc := 37) C (v := 0) dX9_again_37 (by decide) ?_
        obtain ⟨f8, hv⟩ := hv
        refine w_putI (pc := 38) C fl_X9_70 rfl rfl dX9_again_38 (St9_k f8) ?_
        refine w_iconst (pc := 41) C (v := 1) dX9_again_41 (by decide) ?_
        exact w_zret (pc := 42) C dX9_again_42 (by decide) hv
    · have hv := hv2 c9
      refine w_iconst (pc := 13) C (v := 0) dX9_again_13 (by decide) ?_
      exact w_zret (pc := 14) C dX9_again_14 (by decide) hv
theorem dX7_addFour_0 : decode cX7_addFour 0 = .ok (.aload_n 0, 1) := by decide +kernel
theorem dX7_addFour_1 : decode cX7_addFour 1 = .ok (.getfield 15, 3) := by decide +kernel
theorem dX7_addFour_4 : decode cX7_addFour 4 = .ok (.ifCond .lt 17, 3) := by decide +kernel
theorem dX7_addFour_7 : decode cX7_addFour 7 = .ok (.aload_n 0, 1) := by decide +kernel
theorem dX7_addFour_8 : decode cX7_addFour 8 = .ok (.getfield 15, 3) := by decide +kernel
theorem dX7_addFour_11 : decode cX7_addFour 11 = .ok (.iconst 4, 1) := by decide +kernel
theorem dX7_addFour_12 : decode cX7_addFour 12 = .ok (.iadd, 1) := by decide +kernel
theorem dX7_addFour_13 : decode cX7_addFour 13 = .ok (.aload_n 0, 1) := by decide +kernel
theorem dX7_addFour_14 : decode cX7_addFour 14 = .ok (.getfield 9, 3) := by decide +kernel
theorem dX7_addFour_17 : decode cX7_addFour 17 = .ok (.arraylength, 1) := by decide +kernel
theorem dX7_addFour_18 : decode cX7_addFour 18 = .ok (.if_icmp .le 5, 3) := by decide +kernel
theorem dX7_addFour_21 : decode cX7_addFour 21 = .ok (.iconst 0, 1) := by decide +kernel
theorem dX7_addFour_22 : decode cX7_addFour 22 = .ok (.ireturn, 1) := by decide +kernel
theorem dX7_addFour_23 : decode cX7_addFour 23 = .ok (.iconst 0, 1) := by decide +kernel
theorem dX7_addFour_24 : decode cX7_addFour 24 = .ok (.istore_n 2, 1) := by decide +kernel
theorem dX7_addFour_25 : decode cX7_addFour 25 = .ok (.iload_n 2, 1) := by decide +kernel
theorem dX7_addFour_26 : decode cX7_addFour 26 = .ok (.iconst 4, 1) := by decide +kernel
theorem dX7_addFour_27 : decode cX7_addFour 27 = .ok (.if_icmp .ge 34, 3) := by decide +kernel
theorem dX7_addFour_30 : decode cX7_addFour 30 = .ok (.aload_n 0, 1) := by decide +kernel
theorem dX7_addFour_31 : decode cX7_addFour 31 = .ok (.getfield 9, 3) := by decide +kernel
theorem dX7_addFour_34 : decode cX7_addFour 34 = .ok (.aload_n 0, 1) := by decide +kernel
theorem dX7_addFour_35 : decode cX7_addFour 35 = .ok (.getfield 15, 3) := by decide +kernel
theorem dX7_addFour_38 : decode cX7_addFour 38 = .ok (.iload_n 2, 1) := by decide +kernel
theorem dX7_addFour_39 : decode cX7_addFour 39 = .ok (.iadd, 1) := by decide +kernel
theorem dX7_addFour_40 : decode cX7_addFour 40 = .ok (.iload_n 1, 1) := by decide +kernel
theorem dX7_addFour_41 : decode cX7_addFour 41 = .ok (.bipush 24, 2) := by decide +kernel
theorem dX7_addFour_43 : decode cX7_addFour 43 = .ok (.bipush 8, 2) := by decide +kernel
theorem dX7_addFour_45 : decode cX7_addFour 45 = .ok (.iload_n 2, 1) := by decide +kernel
theorem dX7_addFour_46 : decode cX7_addFour 46 = .ok (.imul, 1) := by decide +kernel
theorem dX7_addFour_47 : decode cX7_addFour 47 = .ok (.isub, 1) := by decide +kernel
theorem dX7_addFour_48 : decode cX7_addFour 48 = .ok (.iushr, 1) := by decide +kernel
theorem dX7_addFour_49 : decode cX7_addFour 49 = .ok (.sipush 255, 3) := by decide +kernel
theorem dX7_addFour_52 : decode cX7_addFour 52 = .ok (.iand, 1) := by decide +kernel
theorem dX7_addFour_53 : decode cX7_addFour 53 = .ok (.i2c, 1) := by decide +kernel
theorem dX7_addFour_54 : decode cX7_addFour 54 = .ok (.castore, 1) := by decide +kernel
theorem dX7_addFour_55 : decode cX7_addFour 55 = .ok (.iinc 2 1, 3) := by decide +kernel
theorem dX7_addFour_58 : decode cX7_addFour 58 = .ok (.goto (-33), 3) := by decide +kernel
theorem dX7_addFour_61 : decode cX7_addFour 61 = .ok (.aload_n 0, 1) := by decide +kernel
theorem dX7_addFour_62 : decode cX7_addFour 62 = .ok (.dup, 1) := by decide +kernel
theorem dX7_addFour_63 : decode cX7_addFour 63 = .ok (.getfield 15, 3) := by decide +kernel
theorem dX7_addFour_66 : decode cX7_addFour 66 = .ok (.iconst 4, 1) := by decide +kernel
theorem dX7_addFour_67 : decode cX7_addFour 67 = .ok (.iadd, 1) := by decide +kernel
theorem dX7_addFour_68 : decode cX7_addFour 68 = .ok (.putfield 15, 3) := by decide +kernel
theorem dX7_addFour_71 : decode cX7_addFour 71 = .ok (.iconst 1, 1) := by decide +kernel
theorem dX7_addFour_72 : decode cX7_addFour 72 = .ok (.ireturn, 1) := by decide +kernel
set_option maxRecDepth 20000 in
set_option maxHeartbeats 2000000 in
theorem V_X7_addFour_0 {X : Ctx} (C : C_X7_addFour X) {k n : Nat} {Q : Pq} {h : Hp} {v0 : Nat} {v1 : Int32}
    (hv : St7 h v0 ∧ (((gi h v0 1) < 0 → Q (some (.int 0)) h) ∧
    (¬ (gi h v0 1) < 0 → ((((gi h v0 1) + 4) ≤ (Int32.ofNat 80) → Wj X k n Q 25 [(0, .ref v0), (1, .int v1), (2, .int 0)] [] h) ∧
    (¬ ((gi h v0 1) + 4) ≤ (Int32.ofNat 80) → Q (some (.int 0)) h))))) :
    Wj X k n Q 0 [(0, .ref v0), (1, .int v1)] [] h := by
  refine w_aload_n (pc := 0) C dX7_addFour_0 rfl ?_
  obtain ⟨f1, hv⟩ := hv
  refine w_getI (pc := 1) C fl_X7_15 rfl dX7_addFour_1 (St7_k f1) ?_
  refine w_if_lt (pc := 4) C (tgt := 21) dX7_addFour_4 (by decide) ?_
  obtain ⟨hv1, hv2⟩ := hv
  refine ⟨fun c3 => ?_, fun c3 => ?_⟩
  · have hv := hv1 c3
    refine w_iconst (pc := 21) C (v := 0) dX7_addFour_21 (by decide) ?_
    exact w_zret (pc := 22) C dX7_addFour_22 (by decide) hv
  · have hv := hv2 c3
    refine w_aload_n (pc := 7) C dX7_addFour_7 rfl ?_
    refine w_getI (pc := 8) C fl_X7_15 rfl dX7_addFour_8 (St7_k f1) ?_
    refine w_iconst (pc := 11) C (v := 4) dX7_addFour_11 (by decide) ?_
    refine w_iadd (pc := 12) C dX7_addFour_12 ?_
    refine w_aload_n (pc := 13) C dX7_addFour_13 rfl ?_
    refine w_getR (pc := 14) C fl_X7_9 rfl dX7_addFour_14 (St7_k f1) (St7_r0 f1) ?_
    refine w_alen (pc := 17) 2 (by decide) C dX7_addFour_17 (St7_k0 f1) ?_
    rw [(St7_l0 f1)]
    refine w_icmp_le (pc := 18) C (tgt := 23) dX7_addFour_18 (by decide) ?_
    obtain ⟨hv1, hv2⟩ := hv
    refine ⟨fun c2 => ?_, fun c2 => ?_⟩
    · have hv := hv1 c2
      refine w_iconst (pc := 23) C (v := 0) dX7_addFour_23 (by decide) ?_
      refine w_istore_n (pc := 24) C dX7_addFour_24 (by decide) ?_
      refine w_sub ?_ hv
      exact ⟨rfl, rfl, rfl, trivial⟩
    · have hv := hv2 c2
      refine w_iconst (pc := 21) C (v := 0) dX7_addFour_21 (by decide) ?_
      exact w_zret (pc := 22) C dX7_addFour_22 (by decide) hv
set_option maxRecDepth 20000 in
set_option maxHeartbeats 2000000 in
theorem V_X7_addFour_25 {X : Ctx} (C : C_X7_addFour X) {k n : Nat} {Q : Pq} {h : Hp} {v0 : Nat} {v1 v2 : Int32}
    (hv : ((4 ≤ v2 → St7 h v0 ∧ Q (some (.int 1)) (si h v0 1 ((gi h v0 1) + 4))) ∧
    (¬ 4 ≤ v2 → St7 h v0 ∧ inb ((gi h v0 1) + v2) 80 ∧ Wj X k n Q 25 [(0, .ref v0), (1, .int v1), (2, .int (v2 + Int32.ofInt 1))] [] (si h (v0 + 1) (ix ((gi h v0 1) + v2)) (vp_nar .char (i2c ((iushr v1 (24 - (8 * v2))) &&& 255))))))) :
    Wj X k n Q 25 [(0, .ref v0), (1, .int v1), (2, .int v2)] [] h := by
  refine w_iload_n (pc := 25) C dX7_addFour_25 rfl ?_
  refine w_iconst (pc := 26) C (v := 4) dX7_addFour_26 (by decide) ?_
  refine w_icmp_ge (pc := 27) C (tgt := 61) dX7_addFour_27 (by decide) ?_
  obtain ⟨hv1, hv2⟩ := hv
  refine ⟨fun c4 => ?_, fun c4 => ?_⟩
  · have hv := hv1 c4
    refine w_aload_n (pc := 61) C dX7_addFour_61 rfl ?_
    refine w_dup (pc := 62) C dX7_addFour_62 rfl ?_
    obtain ⟨f1, hv⟩ := hv
    refine w_getI (pc := 63) C fl_X7_15 rfl dX7_addFour_63 (St7_k f1) ?_
    refine w_iconst (pc := 66) C (v := 4) dX7_addFour_66 (by decide) ?_
    refine w_iadd (pc := 67) C dX7_addFour_67 ?_
    refine w_putI (pc := 68) C fl_X7_15 rfl rfl dX7_addFour_68 (St7_k f1) ?_
    refine w_iconst (pc := 71) C (v := 1) dX7_addFour_71 (by decide) ?_
    exact w_zret (pc := 72) C dX7_addFour_72 (by decide) hv
  · have hv := hv2 c4
    refine w_aload_n (pc := 30) C dX7_addFour_30 rfl ?_
    obtain ⟨f2, hv⟩ := hv
    refine w_getR (pc := 31) C fl_X7_9 rfl dX7_addFour_31 (St7_k f2) (St7_r0 f2) ?_
    refine w_aload_n (pc := 34) C dX7_addFour_34 rfl ?_
    refine w_getI (pc := 35) C fl_X7_15 rfl dX7_addFour_35 (St7_k f2) ?_
    refine w_iload_n (pc := 38) C dX7_addFour_38 rfl ?_
    refine w_iadd (pc := 39) C dX7_addFour_39 ?_
    refine w_iload_n (pc := 40) C dX7_addFour_40 rfl ?_
    refine w_bipush (pc := 41) C (v := 24) dX7_addFour_41 (by decide) ?_
    refine w_bipush (pc := 43) C (v := 8) dX7_addFour_43 (by decide) ?_
    refine w_iload_n (pc := 45) C dX7_addFour_45 rfl ?_
    refine w_imul (pc := 46) C dX7_addFour_46 ?_
    refine w_isub (pc := 47) C dX7_addFour_47 ?_
    refine w_iushr (pc := 48) C dX7_addFour_48 ?_
    refine w_sipush (pc := 49) C (v := 255) dX7_addFour_49 (by decide) ?_
    refine w_iand (pc := 52) C dX7_addFour_52 ?_
    refine w_i2c (pc := 53) C dX7_addFour_53 ?_
    obtain ⟨f3, hv⟩ := hv
    refine w_cast (pc := 54) C dX7_addFour_54 (St7_k0 f2) (inbl (St7_l0 f2) f3) ?_
    refine w_iinc (pc := 55) C dX7_addFour_55 rfl (by decide) ?_
    refine w_goto (pc := 58) C (tgt := 25) dX7_addFour_58 (by decide) ?_
    refine w_sub ?_ hv
    exact ⟨rfl, rfl, rfl, trivial⟩
