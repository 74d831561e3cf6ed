-- the law's calls: cuts, wipes, divides, mark, gaps, missing, reaches
theorem dL_law_949 : decode cL_law 949 = .ok (.aload_n 1, 1) := by decide +kernel
theorem dL_law_950 : decode cL_law 950 = .ok (.invokevirtual 127, 3) := by decide +kernel
theorem dL_law_953 : decode cL_law 953 = .ok (.aload_n 2, 1) := by decide +kernel
theorem dL_law_954 : decode cL_law 954 = .ok (.invokevirtual 130, 3) := by decide +kernel
theorem dL_law_957 : decode cL_law 957 = .ok (.if_icmp .eq 324, 3) := by decide +kernel
theorem dL_law_960 : decode cL_law 960 = .ok (.iconst 0, 1) := by decide +kernel
theorem dL_law_961 : decode cL_law 961 = .ok (.ireturn, 1) := by decide +kernel
theorem dL_law_962 : decode cL_law 962 = .ok (.aload_n 1, 1) := by decide +kernel
theorem dL_law_963 : decode cL_law 963 = .ok (.invokevirtual 131, 3) := by decide +kernel
theorem dL_law_966 : decode cL_law 966 = .ok (.aload_n 2, 1) := by decide +kernel
theorem dL_law_967 : decode cL_law 967 = .ok (.invokevirtual 134, 3) := by decide +kernel
theorem dL_law_970 : decode cL_law 970 = .ok (.if_icmp .eq 311, 3) := by decide +kernel
theorem dL_law_973 : decode cL_law 973 = .ok (.iconst 0, 1) := by decide +kernel
theorem dL_law_974 : decode cL_law 974 = .ok (.ireturn, 1) := by decide +kernel
theorem dL_law_975 : decode cL_law 975 = .ok (.aload_n 1, 1) := by decide +kernel
theorem dL_law_976 : decode cL_law 976 = .ok (.aload_n 0, 1) := by decide +kernel
theorem dL_law_977 : decode cL_law 977 = .ok (.iload 4, 2) := by decide +kernel
theorem dL_law_979 : decode cL_law 979 = .ok (.iconst 1, 1) := by decide +kernel
theorem dL_law_980 : decode cL_law 980 = .ok (.iadd, 1) := by decide +kernel
theorem dL_law_981 : decode cL_law 981 = .ok (.iaload, 1) := by decide +kernel
theorem dL_law_982 : decode cL_law 982 = .ok (.aload_n 0, 1) := by decide +kernel
theorem dL_law_983 : decode cL_law 983 = .ok (.iload 4, 2) := by decide +kernel
theorem dL_law_985 : decode cL_law 985 = .ok (.iconst 2, 1) := by decide +kernel
theorem dL_law_986 : decode cL_law 986 = .ok (.iadd, 1) := by decide +kernel
theorem dL_law_987 : decode cL_law 987 = .ok (.iaload, 1) := by decide +kernel
theorem dL_law_988 : decode cL_law 988 = .ok (.invokevirtual 135, 3) := by decide +kernel
theorem dL_law_991 : decode cL_law 991 = .ok (.aload_n 2, 1) := by decide +kernel
theorem dL_law_992 : decode cL_law 992 = .ok (.aload_n 0, 1) := by decide +kernel
theorem dL_law_993 : decode cL_law 993 = .ok (.iload 4, 2) := by decide +kernel
theorem dL_law_995 : decode cL_law 995 = .ok (.iconst 1, 1) := by decide +kernel
theorem dL_law_996 : decode cL_law 996 = .ok (.iadd, 1) := by decide +kernel
theorem dL_law_997 : decode cL_law 997 = .ok (.iaload, 1) := by decide +kernel
theorem dL_law_998 : decode cL_law 998 = .ok (.aload_n 0, 1) := by decide +kernel
theorem dL_law_999 : decode cL_law 999 = .ok (.iload 4, 2) := by decide +kernel
theorem dL_law_1001 : decode cL_law 1001 = .ok (.iconst 2, 1) := by decide +kernel
theorem dL_law_1002 : decode cL_law 1002 = .ok (.iadd, 1) := by decide +kernel
theorem dL_law_1003 : decode cL_law 1003 = .ok (.iaload, 1) := by decide +kernel
theorem dL_law_1004 : decode cL_law 1004 = .ok (.invokevirtual 138, 3) := by decide +kernel
theorem dL_law_1007 : decode cL_law 1007 = .ok (.if_icmp .eq 274, 3) := by decide +kernel
theorem dL_law_1010 : decode cL_law 1010 = .ok (.iconst 0, 1) := by decide +kernel
theorem dL_law_1011 : decode cL_law 1011 = .ok (.ireturn, 1) := by decide +kernel
theorem dL_law_1012 : decode cL_law 1012 = .ok (.aload_n 1, 1) := by decide +kernel
theorem dL_law_1013 : decode cL_law 1013 = .ok (.aload_n 0, 1) := by decide +kernel
theorem dL_law_1014 : decode cL_law 1014 = .ok (.iload 4, 2) := by decide +kernel
theorem dL_law_1016 : decode cL_law 1016 = .ok (.iconst 1, 1) := by decide +kernel
theorem dL_law_1017 : decode cL_law 1017 = .ok (.iadd, 1) := by decide +kernel
theorem dL_law_1018 : decode cL_law 1018 = .ok (.iaload, 1) := by decide +kernel
theorem dL_law_1019 : decode cL_law 1019 = .ok (.invokevirtual 139, 3) := by decide +kernel
theorem dL_law_1022 : decode cL_law 1022 = .ok (.aload_n 2, 1) := by decide +kernel
theorem dL_law_1023 : decode cL_law 1023 = .ok (.aload_n 0, 1) := by decide +kernel
theorem dL_law_1024 : decode cL_law 1024 = .ok (.iload 4, 2) := by decide +kernel
theorem dL_law_1026 : decode cL_law 1026 = .ok (.iconst 1, 1) := by decide +kernel
theorem dL_law_1027 : decode cL_law 1027 = .ok (.iadd, 1) := by decide +kernel
theorem dL_law_1028 : decode cL_law 1028 = .ok (.iaload, 1) := by decide +kernel
theorem dL_law_1029 : decode cL_law 1029 = .ok (.invokevirtual 142, 3) := by decide +kernel
theorem dL_law_1032 : decode cL_law 1032 = .ok (.if_icmp .eq 249, 3) := by decide +kernel
theorem dL_law_1035 : decode cL_law 1035 = .ok (.iconst 0, 1) := by decide +kernel
theorem dL_law_1036 : decode cL_law 1036 = .ok (.ireturn, 1) := by decide +kernel
theorem dL_law_1037 : decode cL_law 1037 = .ok (.aload_n 1, 1) := by decide +kernel
theorem dL_law_1038 : decode cL_law 1038 = .ok (.invokevirtual 143, 3) := by decide +kernel
theorem dL_law_1041 : decode cL_law 1041 = .ok (.aload_n 2, 1) := by decide +kernel
theorem dL_law_1042 : decode cL_law 1042 = .ok (.invokevirtual 146, 3) := by decide +kernel
theorem dL_law_1045 : decode cL_law 1045 = .ok (.if_icmp .eq 236, 3) := by decide +kernel
theorem dL_law_1048 : decode cL_law 1048 = .ok (.iconst 0, 1) := by decide +kernel
theorem dL_law_1049 : decode cL_law 1049 = .ok (.ireturn, 1) := by decide +kernel
theorem dL_law_1050 : decode cL_law 1050 = .ok (.aload_n 1, 1) := by decide +kernel
theorem dL_law_1051 : decode cL_law 1051 = .ok (.aload_n 0, 1) := by decide +kernel
theorem dL_law_1052 : decode cL_law 1052 = .ok (.iload 4, 2) := by decide +kernel
theorem dL_law_1054 : decode cL_law 1054 = .ok (.iconst 1, 1) := by decide +kernel
theorem dL_law_1055 : decode cL_law 1055 = .ok (.iadd, 1) := by decide +kernel
theorem dL_law_1056 : decode cL_law 1056 = .ok (.iaload, 1) := by decide +kernel
theorem dL_law_1057 : decode cL_law 1057 = .ok (.invokevirtual 147, 3) := by decide +kernel
theorem dL_law_1060 : decode cL_law 1060 = .ok (.aload_n 2, 1) := by decide +kernel
theorem dL_law_1061 : decode cL_law 1061 = .ok (.aload_n 0, 1) := by decide +kernel
theorem dL_law_1062 : decode cL_law 1062 = .ok (.iload 4, 2) := by decide +kernel
theorem dL_law_1064 : decode cL_law 1064 = .ok (.iconst 1, 1) := by decide +kernel
theorem dL_law_1065 : decode cL_law 1065 = .ok (.iadd, 1) := by decide +kernel
theorem dL_law_1066 : decode cL_law 1066 = .ok (.iaload, 1) := by decide +kernel
theorem dL_law_1067 : decode cL_law 1067 = .ok (.invokevirtual 150, 3) := by decide +kernel
theorem dL_law_1070 : decode cL_law 1070 = .ok (.if_icmp .eq 211, 3) := by decide +kernel
theorem dL_law_1073 : decode cL_law 1073 = .ok (.iconst 0, 1) := by decide +kernel
theorem dL_law_1074 : decode cL_law 1074 = .ok (.ireturn, 1) := by decide +kernel
theorem dL_law_1075 : decode cL_law 1075 = .ok (.aload_n 1, 1) := by decide +kernel
theorem dL_law_1076 : decode cL_law 1076 = .ok (.invokevirtual 151, 3) := by decide +kernel
theorem dL_law_1079 : decode cL_law 1079 = .ok (.aload_n 2, 1) := by decide +kernel
theorem dL_law_1080 : decode cL_law 1080 = .ok (.invokevirtual 154, 3) := by decide +kernel
theorem dL_law_1083 : decode cL_law 1083 = .ok (.if_icmp .eq 198, 3) := by decide +kernel
theorem dL_law_1086 : decode cL_law 1086 = .ok (.iconst 0, 1) := by decide +kernel
theorem dL_law_1087 : decode cL_law 1087 = .ok (.ireturn, 1) := by decide +kernel
section Lc
variable {X : Ctx} {nm : String} {b L x m d k n : Nat} {xs : Nat → Int32} {i : Int32} {Q : Pq} {h : Hp} {s : Sv}
theorem lc_23 (C : CLw X nm) (E : SX X b L xs) (z : 0 < (dtX X).2.2.size) (i0 : 0 ≤ i.toInt) (iL : i.toInt + 6 ≤ L) (L3 : L ≤ 3072) (J : Jn h x m s) (bk : k + shC h x + 9 * (d + 1) ≤ mcX X) (bn : n + shM h x + 191 * (d + 1) ≤ msX X) (hk : LK X Q b x m i d) : Wj X k n Q 949 (LV b x m i) [] h := by
  refine w_aload_n (pc := 949) C dL_law_949 rfl ?_
  refine w_cV1_0 (pc := 950) (k' := 9) (n' := 191) (c := 9) C cl_L_127 lv_X9_cuts (by decide) dL_law_950 (Nat.le_of_ble_eq_true rfl) rfl (by omega) (by omega) (St9_k J.1.1) ((cc_cuts z J.1).mono (fun v h1 hp => ?_))
  obtain ⟨⟨y, rfl, ey⟩, S1, f1, c1, c2⟩ := hp
  obtain ⟨M1, o1⟩ := J.mid f1 (fun b q => Or.inl q)
  show Wj X _ _ Q 953 (LV b x m i) [.int y] h1
  refine w_aload_n (pc := 953) C dL_law_953 rfl ?_
  refine w_cV1_0 (pc := 954) (k' := 0) (n' := 0) (c := 10) C cl_L_130 lv_X10_cuts (by decide) dL_law_954 (Nat.le_of_ble_eq_true rfl) rfl (by omega) (by omega) (St10_k M1.1.1) ((ma_cuts M1).mono (fun v h2 hp => ?_))
  obtain ⟨y2, rfl, ey2, M2, f2⟩ := hp
  obtain ⟨J2, g1, g2⟩ := Jn.two S1 o1 M2 f2
  show Wj X _ _ Q 957 (LV b x m i) [.int y2, .int y] h2
  exact w_icmp_eq (pc := 957) (tgt := 1281) C dL_law_957 rfl ⟨fun _ => hk _ _ h2 _ J2 (by omega) (by omega), fun q => absurd (i32_eq.mpr (ey.trans ey2.symm)) q⟩
theorem lc_24 (C : CLw X nm) (E : SX X b L xs) (z : 0 < (dtX X).2.2.size) (i0 : 0 ≤ i.toInt) (iL : i.toInt + 6 ≤ L) (L3 : L ≤ 3072) (J : Jn h x m s) (bk : k + shC h x + 9 * (d + 1) ≤ mcX X) (bn : n + shM h x + 191 * (d + 1) ≤ msX X) (hk : LK X Q b x m i d) : Wj X k n Q 962 (LV b x m i) [] h := by
  refine w_aload_n (pc := 962) C dL_law_962 rfl ?_
  refine w_cV1_0 (pc := 963) (k' := 9) (n' := 191) (c := 9) C cl_L_131 lv_X9_wipes (by decide) dL_law_963 (Nat.le_of_ble_eq_true rfl) rfl (by omega) (by omega) (St9_k J.1.1) ((cc_wipes z J.1).mono (fun v h1 hp => ?_))
  obtain ⟨⟨y, rfl, ey⟩, S1, f1, c1, c2⟩ := hp
  obtain ⟨M1, o1⟩ := J.mid f1 (fun b q => Or.inl q)
  show Wj X _ _ Q 966 (LV b x m i) [.int y] h1
  refine w_aload_n (pc := 966) C dL_law_966 rfl ?_
  refine w_cV1_0 (pc := 967) (k' := 0) (n' := 0) (c := 10) C cl_L_134 lv_X10_wipes (by decide) dL_law_967 (Nat.le_of_ble_eq_true rfl) rfl (by omega) (by omega) (St10_k M1.1.1) ((ma_wipes M1).mono (fun v h2 hp => ?_))
  obtain ⟨y2, rfl, ey2, M2, f2⟩ := hp
  obtain ⟨J2, g1, g2⟩ := Jn.two S1 o1 M2 f2
  show Wj X _ _ Q 970 (LV b x m i) [.int y2, .int y] h2
  exact w_icmp_eq (pc := 970) (tgt := 1281) C dL_law_970 rfl ⟨fun _ => hk _ _ h2 _ J2 (by omega) (by omega), fun q => absurd (i32_eq.mpr (ey.trans ey2.symm)) q⟩
theorem lc_25 (C : CLw X nm) (E : SX X b L xs) (z : 0 < (dtX X).2.2.size) (i0 : 0 ≤ i.toInt) (iL : i.toInt + 6 ≤ L) (L3 : L ≤ 3072) (J : Jn h x m s) (bk : k + shC h x + 9 * (d + 1) ≤ mcX X) (bn : n + shM h x + 191 * (d + 1) ≤ msX X) (hk : LK X Q b x m i d) : Wj X k n Q 975 (LV b x m i) [] h := by
  obtain ⟨k3, n4, hk3, hn4, hs⟩ := cc_divides (l := lX X) (D := dtX X) z J.1 (n := xs (ix (i + 1))) (v := xs (ix (i + 2)))
  refine w_aload_n (pc := 975) C dL_law_975 rfl ?_
  refine lw_ld (pc := 976) (v := 1) C E rfl dL_law_976 dL_law_977 dL_law_979 dL_law_980 dL_law_981 rfl rfl (inb_arg i0 iL L3 (by decide) (by decide)) ?_
  refine lw_ld (pc := 982) (v := 2) C E rfl dL_law_982 dL_law_983 dL_law_985 dL_law_986 dL_law_987 rfl rfl (inb_arg i0 iL L3 (by decide) (by decide)) ?_
  refine w_cV1_2 (pc := 988) (k' := k3) (n' := n4) (c := 9) C cl_L_135 lv_X9_divides (by decide) dL_law_988 (Nat.le_of_ble_eq_true rfl) rfl (by omega) (by omega) (St9_k J.1.1) (hs.mono (fun v h1 hp => ?_))
  obtain ⟨⟨y, rfl, ey⟩, S1, f1, c1, c2⟩ := hp
  obtain ⟨M1, o1⟩ := J.mid f1 (fun b q => Or.inl q)
  show Wj X _ _ Q 991 (LV b x m i) [.int y] h1
  refine w_aload_n (pc := 991) C dL_law_991 rfl ?_
  refine lw_ld (pc := 992) (v := 1) C E rfl dL_law_992 dL_law_993 dL_law_995 dL_law_996 dL_law_997 rfl rfl (inb_arg i0 iL L3 (by decide) (by decide)) ?_
  refine lw_ld (pc := 998) (v := 2) C E rfl dL_law_998 dL_law_999 dL_law_1001 dL_law_1002 dL_law_1003 rfl rfl (inb_arg i0 iL L3 (by decide) (by decide)) ?_
  refine w_cV1_2 (pc := 1004) (k' := 0) (n' := 0) (c := 10) C cl_L_138 lv_X10_divides (by decide) dL_law_1004 (Nat.le_of_ble_eq_true rfl) rfl (by omega) (by omega) (St10_k M1.1.1) ((ma_divides M1).mono (fun v h2 hp => ?_))
  obtain ⟨y2, rfl, ey2, M2, f2⟩ := hp
  obtain ⟨J2, g1, g2⟩ := Jn.two S1 o1 M2 f2
  show Wj X _ _ Q 1007 (LV b x m i) [.int y2, .int y] h2
  exact w_icmp_eq (pc := 1007) (tgt := 1281) C dL_law_1007 rfl ⟨fun _ => hk _ _ h2 _ J2 (by omega) (by omega), fun q => absurd (i32_eq.mpr (ey.trans ey2.symm)) q⟩
theorem lc_26 (C : CLw X nm) (E : SX X b L xs) (z : 0 < (dtX X).2.2.size) (i0 : 0 ≤ i.toInt) (iL : i.toInt + 6 ≤ L) (L3 : L ≤ 3072) (J : Jn h x m s) (bk : k + shC h x + 9 * (d + 1) ≤ mcX X) (bn : n + shM h x + 191 * (d + 1) ≤ msX X) (hk : LK X Q b x m i d) : Wj X k n Q 1012 (LV b x m i) [] h := by
  refine w_aload_n (pc := 1012) C dL_law_1012 rfl ?_
  refine lw_ld (pc := 1013) (v := 1) C E rfl dL_law_1013 dL_law_1014 dL_law_1016 dL_law_1017 dL_law_1018 rfl rfl (inb_arg i0 iL L3 (by decide) (by decide)) ?_
  refine w_cV1_1 (pc := 1019) (k' := 0) (n' := 0) (c := 9) C cl_L_139 lv_X9_mark (by decide) dL_law_1019 (Nat.le_of_ble_eq_true rfl) rfl (by omega) (by omega) (St9_k J.1.1) ((cc_mark z J.1).mono (fun v h1 hp => ?_))
  obtain ⟨⟨y, rfl, ey⟩, S1, f1, c1, c2⟩ := hp
  obtain ⟨M1, o1⟩ := J.mid f1 (fun b q => Or.inl q)
  show Wj X _ _ Q 1022 (LV b x m i) [.int y] h1
  refine w_aload_n (pc := 1022) C dL_law_1022 rfl ?_
  refine lw_ld (pc := 1023) (v := 1) C E rfl dL_law_1023 dL_law_1024 dL_law_1026 dL_law_1027 dL_law_1028 rfl rfl (inb_arg i0 iL L3 (by decide) (by decide)) ?_
  refine w_cV1_1 (pc := 1029) (k' := 0) (n' := 0) (c := 10) C cl_L_142 lv_X10_mark (by decide) dL_law_1029 (Nat.le_of_ble_eq_true rfl) rfl (by omega) (by omega) (St10_k M1.1.1) ((ma_mark M1).mono (fun v h2 hp => ?_))
  obtain ⟨y2, rfl, ey2, M2, f2⟩ := hp
  obtain ⟨J2, g1, g2⟩ := Jn.two S1 o1 M2 f2
  show Wj X _ _ Q 1032 (LV b x m i) [.int y2, .int y] h2
  exact w_icmp_eq (pc := 1032) (tgt := 1281) C dL_law_1032 rfl ⟨fun _ => hk _ _ h2 _ J2 (by omega) (by omega), fun q => absurd (i32_eq.mpr (ey.trans ey2.symm)) q⟩
theorem lc_27 (C : CLw X nm) (E : SX X b L xs) (z : 0 < (dtX X).2.2.size) (i0 : 0 ≤ i.toInt) (iL : i.toInt + 6 ≤ L) (L3 : L ≤ 3072) (J : Jn h x m s) (bk : k + shC h x + 9 * (d + 1) ≤ mcX X) (bn : n + shM h x + 191 * (d + 1) ≤ msX X) (hk : LK X Q b x m i d) : Wj X k n Q 1037 (LV b x m i) [] h := by
  refine w_aload_n (pc := 1037) C dL_law_1037 rfl ?_
  refine w_cV1_0 (pc := 1038) (k' := 0) (n' := 0) (c := 9) C cl_L_143 lv_X9_gaps (by decide) dL_law_1038 (Nat.le_of_ble_eq_true rfl) rfl (by omega) (by omega) (St9_k J.1.1) ((cc_gaps z J.1).mono (fun v h1 hp => ?_))
  obtain ⟨⟨y, rfl, ey⟩, S1, f1, c1, c2⟩ := hp
  obtain ⟨M1, o1⟩ := J.mid f1 (fun b q => Or.inl q)
  show Wj X _ _ Q 1041 (LV b x m i) [.int y] h1
  refine w_aload_n (pc := 1041) C dL_law_1041 rfl ?_
  refine w_cV1_0 (pc := 1042) (k' := 0) (n' := 0) (c := 10) C cl_L_146 lv_X10_gaps (by decide) dL_law_1042 (Nat.le_of_ble_eq_true rfl) rfl (by omega) (by omega) (St10_k M1.1.1) ((ma_gaps M1).mono (fun v h2 hp => ?_))
  obtain ⟨y2, rfl, ey2, M2, f2⟩ := hp
  obtain ⟨J2, g1, g2⟩ := Jn.two S1 o1 M2 f2
  show Wj X _ _ Q 1045 (LV b x m i) [.int y2, .int y] h2
  exact w_icmp_eq (pc := 1045) (tgt := 1281) C dL_law_1045 rfl ⟨fun _ => hk _ _ h2 _ J2 (by omega) (by omega), fun q => absurd (i32_eq.mpr (ey.trans ey2.symm)) q⟩
theorem lc_28 (C : CLw X nm) (E : SX X b L xs) (z : 0 < (dtX X).2.2.size) (i0 : 0 ≤ i.toInt) (iL : i.toInt + 6 ≤ L) (L3 : L ≤ 3072) (J : Jn h x m s) (bk : k + shC h x + 9 * (d + 1) ≤ mcX X) (bn : n + shM h x + 191 * (d + 1) ≤ msX X) (hk : LK X Q b x m i d) : Wj X k n Q 1050 (LV b x m i) [] h := by
  refine w_aload_n (pc := 1050) C dL_law_1050 rfl ?_
  refine lw_ld (pc := 1051) (v := 1) C E rfl dL_law_1051 dL_law_1052 dL_law_1054 dL_law_1055 dL_law_1056 rfl rfl (inb_arg i0 iL L3 (by decide) (by decide)) ?_
  refine w_cV1_1 (pc := 1057) (k' := 0) (n' := 0) (c := 9) C cl_L_147 lv_X9_missing (by decide) dL_law_1057 (Nat.le_of_ble_eq_true rfl) rfl (by omega) (by omega) (St9_k J.1.1) ((cc_missing z J.1).mono (fun v h1 hp => ?_))
  obtain ⟨⟨y, rfl, ey⟩, S1, f1, c1, c2⟩ := hp
  obtain ⟨M1, o1⟩ := J.mid f1 (fun b q => Or.inl q)
  show Wj X _ _ Q 1060 (LV b x m i) [.int y] h1
  refine w_aload_n (pc := 1060) C dL_law_1060 rfl ?_
  refine lw_ld (pc := 1061) (v := 1) C E rfl dL_law_1061 dL_law_1062 dL_law_1064 dL_law_1065 dL_law_1066 rfl rfl (inb_arg i0 iL L3 (by decide) (by decide)) ?_
  refine w_cV1_1 (pc := 1067) (k' := 0) (n' := 0) (c := 10) C cl_L_150 lv_X10_missing (by decide) dL_law_1067 (Nat.le_of_ble_eq_true rfl) rfl (by omega) (by omega) (St10_k M1.1.1) ((ma_missing M1).mono (fun v h2 hp => ?_))
  obtain ⟨y2, rfl, ey2, M2, f2⟩ := hp
  obtain ⟨J2, g1, g2⟩ := Jn.two S1 o1 M2 f2
  show Wj X _ _ Q 1070 (LV b x m i) [.int y2, .int y] h2
  exact w_icmp_eq (pc := 1070) (tgt := 1281) C dL_law_1070 rfl ⟨fun _ => hk _ _ h2 _ J2 (by omega) (by omega), fun q => absurd (i32_eq.mpr (ey.trans ey2.symm)) q⟩
theorem lc_29 (C : CLw X nm) (E : SX X b L xs) (z : 0 < (dtX X).2.2.size) (i0 : 0 ≤ i.toInt) (iL : i.toInt + 6 ≤ L) (L3 : L ≤ 3072) (J : Jn h x m s) (bk : k + shC h x + 9 * (d + 1) ≤ mcX X) (bn : n + shM h x + 191 * (d + 1) ≤ msX X) (hk : LK X Q b x m i d) : Wj X k n Q 1075 (LV b x m i) [] h := by
  refine w_aload_n (pc := 1075) C dL_law_1075 rfl ?_
  refine w_cV1_0 (pc := 1076) (k' := 0) (n' := 0) (c := 9) C cl_L_151 lv_X9_reaches (by decide) dL_law_1076 (Nat.le_of_ble_eq_true rfl) rfl (by omega) (by omega) (St9_k J.1.1) ((cc_reaches z J.1).mono (fun v h1 hp => ?_))
  obtain ⟨⟨y, rfl, ey⟩, S1, f1, c1, c2⟩ := hp
  obtain ⟨M1, o1⟩ := J.mid f1 (fun b q => Or.inl q)
  show Wj X _ _ Q 1079 (LV b x m i) [.int y] h1
  refine w_aload_n (pc := 1079) C dL_law_1079 rfl ?_
  refine w_cV1_0 (pc := 1080) (k' := 0) (n' := 0) (c := 10) C cl_L_154 lv_X10_reaches (by decide) dL_law_1080 (Nat.le_of_ble_eq_true rfl) rfl (by omega) (by omega) (St10_k M1.1.1) ((ma_reaches M1).mono (fun v h2 hp => ?_))
  obtain ⟨y2, rfl, ey2, M2, f2⟩ := hp
  obtain ⟨J2, g1, g2⟩ := Jn.two S1 o1 M2 f2
  show Wj X _ _ Q 1083 (LV b x m i) [.int y2, .int y] h2
  exact w_icmp_eq (pc := 1083) (tgt := 1281) C dL_law_1083 rfl ⟨fun _ => hk _ _ h2 _ J2 (by omega) (by omega), fun q => absurd (i32_eq.mpr (ey.trans ey2.symm)) q⟩
end Lc
