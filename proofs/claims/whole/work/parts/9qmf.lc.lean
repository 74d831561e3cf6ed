-- the law's calls: day, undo, years, keep, again, count
theorem dL_law_1088 : decode cL_law 1088 = .ok (.aload_n 1, 1) := by decide +kernel
theorem dL_law_1089 : decode cL_law 1089 = .ok (.invokevirtual 155, 3) := by decide +kernel
theorem dL_law_1092 : decode cL_law 1092 = .ok (.aload_n 2, 1) := by decide +kernel
theorem dL_law_1093 : decode cL_law 1093 = .ok (.invokevirtual 158, 3) := by decide +kernel
theorem dL_law_1096 : decode cL_law 1096 = .ok (.if_icmp .eq 185, 3) := by decide +kernel
theorem dL_law_1099 : decode cL_law 1099 = .ok (.iconst 0, 1) := by decide +kernel
theorem dL_law_1100 : decode cL_law 1100 = .ok (.ireturn, 1) := by decide +kernel
theorem dL_law_1101 : decode cL_law 1101 = .ok (.aload_n 1, 1) := by decide +kernel
theorem dL_law_1102 : decode cL_law 1102 = .ok (.invokevirtual 159, 3) := by decide +kernel
theorem dL_law_1105 : decode cL_law 1105 = .ok (.aload_n 2, 1) := by decide +kernel
theorem dL_law_1106 : decode cL_law 1106 = .ok (.invokevirtual 162, 3) := by decide +kernel
theorem dL_law_1109 : decode cL_law 1109 = .ok (.if_icmp .eq 172, 3) := by decide +kernel
theorem dL_law_1112 : decode cL_law 1112 = .ok (.iconst 0, 1) := by decide +kernel
theorem dL_law_1113 : decode cL_law 1113 = .ok (.ireturn, 1) := by decide +kernel
theorem dL_law_1114 : decode cL_law 1114 = .ok (.aload_n 1, 1) := by decide +kernel
theorem dL_law_1115 : decode cL_law 1115 = .ok (.aload_n 0, 1) := by decide +kernel
theorem dL_law_1116 : decode cL_law 1116 = .ok (.iload 4, 2) := by decide +kernel
theorem dL_law_1118 : decode cL_law 1118 = .ok (.iconst 1, 1) := by decide +kernel
theorem dL_law_1119 : decode cL_law 1119 = .ok (.iadd, 1) := by decide +kernel
theorem dL_law_1120 : decode cL_law 1120 = .ok (.iaload, 1) := by decide +kernel
theorem dL_law_1121 : decode cL_law 1121 = .ok (.aload_n 0, 1) := by decide +kernel
theorem dL_law_1122 : decode cL_law 1122 = .ok (.iload 4, 2) := by decide +kernel
theorem dL_law_1124 : decode cL_law 1124 = .ok (.iconst 2, 1) := by decide +kernel
theorem dL_law_1125 : decode cL_law 1125 = .ok (.iadd, 1) := by decide +kernel
theorem dL_law_1126 : decode cL_law 1126 = .ok (.iaload, 1) := by decide +kernel
theorem dL_law_1127 : decode cL_law 1127 = .ok (.invokevirtual 163, 3) := by decide +kernel
theorem dL_law_1130 : decode cL_law 1130 = .ok (.aload_n 2, 1) := by decide +kernel
theorem dL_law_1131 : decode cL_law 1131 = .ok (.aload_n 0, 1) := by decide +kernel
theorem dL_law_1132 : decode cL_law 1132 = .ok (.iload 4, 2) := by decide +kernel
theorem dL_law_1134 : decode cL_law 1134 = .ok (.iconst 1, 1) := by decide +kernel
theorem dL_law_1135 : decode cL_law 1135 = .ok (.iadd, 1) := by decide +kernel
theorem dL_law_1136 : decode cL_law 1136 = .ok (.iaload, 1) := by decide +kernel
theorem dL_law_1137 : decode cL_law 1137 = .ok (.aload_n 0, 1) := by decide +kernel
theorem dL_law_1138 : decode cL_law 1138 = .ok (.iload 4, 2) := by decide +kernel
theorem dL_law_1140 : decode cL_law 1140 = .ok (.iconst 2, 1) := by decide +kernel
theorem dL_law_1141 : decode cL_law 1141 = .ok (.iadd, 1) := by decide +kernel
theorem dL_law_1142 : decode cL_law 1142 = .ok (.iaload, 1) := by decide +kernel
theorem dL_law_1143 : decode cL_law 1143 = .ok (.invokevirtual 166, 3) := by decide +kernel
theorem dL_law_1146 : decode cL_law 1146 = .ok (.if_icmp .eq 135, 3) := by decide +kernel
theorem dL_law_1149 : decode cL_law 1149 = .ok (.iconst 0, 1) := by decide +kernel
theorem dL_law_1150 : decode cL_law 1150 = .ok (.ireturn, 1) := by decide +kernel
theorem dL_law_1151 : decode cL_law 1151 = .ok (.aload_n 1, 1) := by decide +kernel
theorem dL_law_1152 : decode cL_law 1152 = .ok (.aload_n 0, 1) := by decide +kernel
theorem dL_law_1153 : decode cL_law 1153 = .ok (.iload 4, 2) := by decide +kernel
theorem dL_law_1155 : decode cL_law 1155 = .ok (.iconst 1, 1) := by decide +kernel
theorem dL_law_1156 : decode cL_law 1156 = .ok (.iadd, 1) := by decide +kernel
theorem dL_law_1157 : decode cL_law 1157 = .ok (.iaload, 1) := by decide +kernel
theorem dL_law_1158 : decode cL_law 1158 = .ok (.invokevirtual 167, 3) := by decide +kernel
theorem dL_law_1161 : decode cL_law 1161 = .ok (.aload_n 2, 1) := by decide +kernel
theorem dL_law_1162 : decode cL_law 1162 = .ok (.aload_n 0, 1) := by decide +kernel
theorem dL_law_1163 : decode cL_law 1163 = .ok (.iload 4, 2) := by decide +kernel
theorem dL_law_1165 : decode cL_law 1165 = .ok (.iconst 1, 1) := by decide +kernel
theorem dL_law_1166 : decode cL_law 1166 = .ok (.iadd, 1) := by decide +kernel
theorem dL_law_1167 : decode cL_law 1167 = .ok (.iaload, 1) := by decide +kernel
theorem dL_law_1168 : decode cL_law 1168 = .ok (.invokevirtual 170, 3) := by decide +kernel
theorem dL_law_1171 : decode cL_law 1171 = .ok (.if_icmp .eq 110, 3) := by decide +kernel
theorem dL_law_1174 : decode cL_law 1174 = .ok (.iconst 0, 1) := by decide +kernel
theorem dL_law_1175 : decode cL_law 1175 = .ok (.ireturn, 1) := by decide +kernel
theorem dL_law_1176 : decode cL_law 1176 = .ok (.aload_n 1, 1) := by decide +kernel
theorem dL_law_1177 : decode cL_law 1177 = .ok (.aload_n 0, 1) := by decide +kernel
theorem dL_law_1178 : decode cL_law 1178 = .ok (.iload 4, 2) := by decide +kernel
theorem dL_law_1180 : decode cL_law 1180 = .ok (.iconst 1, 1) := by decide +kernel
theorem dL_law_1181 : decode cL_law 1181 = .ok (.iadd, 1) := by decide +kernel
theorem dL_law_1182 : decode cL_law 1182 = .ok (.iaload, 1) := by decide +kernel
theorem dL_law_1183 : decode cL_law 1183 = .ok (.invokevirtual 171, 3) := by decide +kernel
theorem dL_law_1186 : decode cL_law 1186 = .ok (.aload_n 2, 1) := by decide +kernel
theorem dL_law_1187 : decode cL_law 1187 = .ok (.aload_n 0, 1) := by decide +kernel
theorem dL_law_1188 : decode cL_law 1188 = .ok (.iload 4, 2) := by decide +kernel
theorem dL_law_1190 : decode cL_law 1190 = .ok (.iconst 1, 1) := by decide +kernel
theorem dL_law_1191 : decode cL_law 1191 = .ok (.iadd, 1) := by decide +kernel
theorem dL_law_1192 : decode cL_law 1192 = .ok (.iaload, 1) := by decide +kernel
theorem dL_law_1193 : decode cL_law 1193 = .ok (.invokevirtual 174, 3) := by decide +kernel
theorem dL_law_1196 : decode cL_law 1196 = .ok (.if_icmp .eq 85, 3) := by decide +kernel
theorem dL_law_1199 : decode cL_law 1199 = .ok (.iconst 0, 1) := by decide +kernel
theorem dL_law_1200 : decode cL_law 1200 = .ok (.ireturn, 1) := by decide +kernel
theorem dL_law_1201 : decode cL_law 1201 = .ok (.aload_n 1, 1) := by decide +kernel
theorem dL_law_1202 : decode cL_law 1202 = .ok (.aload_n 0, 1) := by decide +kernel
theorem dL_law_1203 : decode cL_law 1203 = .ok (.iload 4, 2) := by decide +kernel
theorem dL_law_1205 : decode cL_law 1205 = .ok (.iconst 1, 1) := by decide +kernel
theorem dL_law_1206 : decode cL_law 1206 = .ok (.iadd, 1) := by decide +kernel
theorem dL_law_1207 : decode cL_law 1207 = .ok (.iaload, 1) := by decide +kernel
theorem dL_law_1208 : decode cL_law 1208 = .ok (.invokevirtual 175, 3) := by decide +kernel
theorem dL_law_1211 : decode cL_law 1211 = .ok (.aload_n 2, 1) := by decide +kernel
theorem dL_law_1212 : decode cL_law 1212 = .ok (.aload_n 0, 1) := by decide +kernel
theorem dL_law_1213 : decode cL_law 1213 = .ok (.iload 4, 2) := by decide +kernel
theorem dL_law_1215 : decode cL_law 1215 = .ok (.iconst 1, 1) := by decide +kernel
theorem dL_law_1216 : decode cL_law 1216 = .ok (.iadd, 1) := by decide +kernel
theorem dL_law_1217 : decode cL_law 1217 = .ok (.iaload, 1) := by decide +kernel
theorem dL_law_1218 : decode cL_law 1218 = .ok (.invokevirtual 178, 3) := by decide +kernel
theorem dL_law_1221 : decode cL_law 1221 = .ok (.if_icmp .eq 60, 3) := by decide +kernel
theorem dL_law_1224 : decode cL_law 1224 = .ok (.iconst 0, 1) := by decide +kernel
theorem dL_law_1225 : decode cL_law 1225 = .ok (.ireturn, 1) := by decide +kernel
section Lc
variable {X : Ctx} {nm : String} {b L x m d k n : Nat} {xs : Nat → Int32} {i : Int32} {Q : Pq} {h : Hp} {s : Sv}
theorem lc_30 (C : CLw X nm) (E : SX X b L xs) (z : 0 < (dtX X).2.2.size) (i0 : 0 ≤ i.toInt) (iL : i.toInt + 6 ≤ L) (L3 : L ≤ 3072) (J : Jn h x m s) (bk : k + shC h x + 9 * (d + 1) ≤ mcX X) (bn : n + shM h x + 191 * (d + 1) ≤ msX X) (hk : LK X Q b x m i d) : Wj X k n Q 1088 (LV b x m i) [] h := by
  refine w_aload_n (pc := 1088) C dL_law_1088 rfl ?_
  refine w_cV1_0 (pc := 1089) (k' := 9) (n' := 191) (c := 9) C cl_L_155 lv_X9_day (by decide) dL_law_1089 (Nat.le_of_ble_eq_true rfl) rfl (by omega) (by omega) (St9_k J.1.1) ((cc_day z J.1).mono (fun v h1 hp => ?_))
  obtain ⟨⟨y, rfl, ey⟩, S1, f1, c1, c2⟩ := hp
  obtain ⟨M1, o1⟩ := J.mid f1 (fun b q => Or.inl q)
  show Wj X _ _ Q 1092 (LV b x m i) [.int y] h1
  refine w_aload_n (pc := 1092) C dL_law_1092 rfl ?_
  refine w_cV1_0 (pc := 1093) (k' := 0) (n' := 0) (c := 10) C cl_L_158 lv_X10_day (by decide) dL_law_1093 (Nat.le_of_ble_eq_true rfl) rfl (by omega) (by omega) (St10_k M1.1.1) ((ma_day M1).mono (fun v h2 hp => ?_))
  obtain ⟨y2, rfl, ey2, M2, f2⟩ := hp
  obtain ⟨J2, g1, g2⟩ := Jn.two S1 o1 M2 f2
  show Wj X _ _ Q 1096 (LV b x m i) [.int y2, .int y] h2
  exact w_icmp_eq (pc := 1096) (tgt := 1281) C dL_law_1096 rfl ⟨fun _ => hk _ _ h2 _ J2 (by omega) (by omega), fun q => absurd (i32_eq.mpr (ey.trans ey2.symm)) q⟩
theorem lc_31 (C : CLw X nm) (E : SX X b L xs) (z : 0 < (dtX X).2.2.size) (i0 : 0 ≤ i.toInt) (iL : i.toInt + 6 ≤ L) (L3 : L ≤ 3072) (J : Jn h x m s) (bk : k + shC h x + 9 * (d + 1) ≤ mcX X) (bn : n + shM h x + 191 * (d + 1) ≤ msX X) (hk : LK X Q b x m i d) : Wj X k n Q 1101 (LV b x m i) [] h := by
  refine w_aload_n (pc := 1101) C dL_law_1101 rfl ?_
  refine w_cV1_0 (pc := 1102) (k' := 0) (n' := 0) (c := 9) C cl_L_159 lv_X9_undo (by decide) dL_law_1102 (Nat.le_of_ble_eq_true rfl) rfl (by omega) (by omega) (St9_k J.1.1) ((cc_undo z J.1).mono (fun v h1 hp => ?_))
  obtain ⟨⟨y, rfl, ey⟩, S1, f1, c1, c2⟩ := hp
  obtain ⟨M1, o1⟩ := J.mid f1 (fun b q => Or.inl q)
  show Wj X _ _ Q 1105 (LV b x m i) [.int y] h1
  refine w_aload_n (pc := 1105) C dL_law_1105 rfl ?_
  refine w_cV1_0 (pc := 1106) (k' := 0) (n' := 0) (c := 10) C cl_L_162 lv_X10_undo (by decide) dL_law_1106 (Nat.le_of_ble_eq_true rfl) rfl (by omega) (by omega) (St10_k M1.1.1) ((ma_undo M1).mono (fun v h2 hp => ?_))
  obtain ⟨y2, rfl, ey2, M2, f2⟩ := hp
  obtain ⟨J2, g1, g2⟩ := Jn.two S1 o1 M2 f2
  show Wj X _ _ Q 1109 (LV b x m i) [.int y2, .int y] h2
  exact w_icmp_eq (pc := 1109) (tgt := 1281) C dL_law_1109 rfl ⟨fun _ => hk _ _ h2 _ J2 (by omega) (by omega), fun q => absurd (i32_eq.mpr (ey.trans ey2.symm)) q⟩
theorem lc_32 (C : CLw X nm) (E : SX X b L xs) (z : 0 < (dtX X).2.2.size) (i0 : 0 ≤ i.toInt) (iL : i.toInt + 6 ≤ L) (L3 : L ≤ 3072) (J : Jn h x m s) (bk : k + shC h x + 9 * (d + 1) ≤ mcX X) (bn : n + shM h x + 191 * (d + 1) ≤ msX X) (hk : LK X Q b x m i d) : Wj X k n Q 1114 (LV b x m i) [] h := by
  refine w_aload_n (pc := 1114) C dL_law_1114 rfl ?_
  refine lw_ld (pc := 1115) (v := 1) C E rfl dL_law_1115 dL_law_1116 dL_law_1118 dL_law_1119 dL_law_1120 rfl rfl (inb_arg i0 iL L3 (by decide) (by decide)) ?_
  refine lw_ld (pc := 1121) (v := 2) C E rfl dL_law_1121 dL_law_1122 dL_law_1124 dL_law_1125 dL_law_1126 rfl rfl (inb_arg i0 iL L3 (by decide) (by decide)) ?_
  refine w_cV1_2 (pc := 1127) (k' := 0) (n' := 0) (c := 9) C cl_L_163 lv_X9_years (by decide) dL_law_1127 (Nat.le_of_ble_eq_true rfl) rfl (by omega) (by omega) (St9_k J.1.1) ((cc_years z J.1).mono (fun v h1 hp => ?_))
  obtain ⟨⟨y, rfl, ey⟩, S1, f1, c1, c2⟩ := hp
  obtain ⟨M1, o1⟩ := J.mid f1 (fun b q => Or.inl q)
  show Wj X _ _ Q 1130 (LV b x m i) [.int y] h1
  refine w_aload_n (pc := 1130) C dL_law_1130 rfl ?_
  refine lw_ld (pc := 1131) (v := 1) C E rfl dL_law_1131 dL_law_1132 dL_law_1134 dL_law_1135 dL_law_1136 rfl rfl (inb_arg i0 iL L3 (by decide) (by decide)) ?_
  refine lw_ld (pc := 1137) (v := 2) C E rfl dL_law_1137 dL_law_1138 dL_law_1140 dL_law_1141 dL_law_1142 rfl rfl (inb_arg i0 iL L3 (by decide) (by decide)) ?_
  refine w_cV1_2 (pc := 1143) (k' := 0) (n' := 0) (c := 10) C cl_L_166 lv_X10_years (by decide) dL_law_1143 (Nat.le_of_ble_eq_true rfl) rfl (by omega) (by omega) (St10_k M1.1.1) ((ma_years M1).mono (fun v h2 hp => ?_))
  obtain ⟨y2, rfl, ey2, M2, f2⟩ := hp
  obtain ⟨J2, g1, g2⟩ := Jn.two S1 o1 M2 f2
  show Wj X _ _ Q 1146 (LV b x m i) [.int y2, .int y] h2
  exact w_icmp_eq (pc := 1146) (tgt := 1281) C dL_law_1146 rfl ⟨fun _ => hk _ _ h2 _ J2 (by omega) (by omega), fun q => absurd (i32_eq.mpr (ey.trans ey2.symm)) q⟩
theorem lc_33 (C : CLw X nm) (E : SX X b L xs) (z : 0 < (dtX X).2.2.size) (i0 : 0 ≤ i.toInt) (iL : i.toInt + 6 ≤ L) (L3 : L ≤ 3072) (J : Jn h x m s) (bk : k + shC h x + 9 * (d + 1) ≤ mcX X) (bn : n + shM h x + 191 * (d + 1) ≤ msX X) (hk : LK X Q b x m i d) : Wj X k n Q 1151 (LV b x m i) [] h := by
  refine w_aload_n (pc := 1151) C dL_law_1151 rfl ?_
  refine lw_ld (pc := 1152) (v := 1) C E rfl dL_law_1152 dL_law_1153 dL_law_1155 dL_law_1156 dL_law_1157 rfl rfl (inb_arg i0 iL L3 (by decide) (by decide)) ?_
  refine w_cV1_1 (pc := 1158) (k' := 9) (n' := 191) (c := 9) C cl_L_167 lv_X9_keep (by decide) dL_law_1158 (Nat.le_of_ble_eq_true rfl) rfl (by omega) (by omega) (St9_k J.1.1) ((cc_keep z J.1).mono (fun v h1 hp => ?_))
  obtain ⟨⟨y, rfl, ey⟩, S1, f1, c1, c2⟩ := hp
  obtain ⟨M1, o1⟩ := J.mid f1 (fun b q => Or.inl q)
  show Wj X _ _ Q 1161 (LV b x m i) [.int y] h1
  refine w_aload_n (pc := 1161) C dL_law_1161 rfl ?_
  refine lw_ld (pc := 1162) (v := 1) C E rfl dL_law_1162 dL_law_1163 dL_law_1165 dL_law_1166 dL_law_1167 rfl rfl (inb_arg i0 iL L3 (by decide) (by decide)) ?_
  refine w_cV1_1 (pc := 1168) (k' := 0) (n' := 0) (c := 10) C cl_L_170 lv_X10_keep (by decide) dL_law_1168 (Nat.le_of_ble_eq_true rfl) rfl (by omega) (by omega) (St10_k M1.1.1) ((ma_keep M1).mono (fun v h2 hp => ?_))
  obtain ⟨y2, rfl, ey2, M2, f2⟩ := hp
  obtain ⟨J2, g1, g2⟩ := Jn.two S1 o1 M2 f2
  show Wj X _ _ Q 1171 (LV b x m i) [.int y2, .int y] h2
  exact w_icmp_eq (pc := 1171) (tgt := 1281) C dL_law_1171 rfl ⟨fun _ => hk _ _ h2 _ J2 (by omega) (by omega), fun q => absurd (i32_eq.mpr (ey.trans ey2.symm)) q⟩
theorem lc_34 (C : CLw X nm) (E : SX X b L xs) (z : 0 < (dtX X).2.2.size) (i0 : 0 ≤ i.toInt) (iL : i.toInt + 6 ≤ L) (L3 : L ≤ 3072) (J : Jn h x m s) (bk : k + shC h x + 9 * (d + 1) ≤ mcX X) (bn : n + shM h x + 191 * (d + 1) ≤ msX X) (hk : LK X Q b x m i d) : Wj X k n Q 1176 (LV b x m i) [] h := by
  refine w_aload_n (pc := 1176) C dL_law_1176 rfl ?_
  refine lw_ld (pc := 1177) (v := 1) C E rfl dL_law_1177 dL_law_1178 dL_law_1180 dL_law_1181 dL_law_1182 rfl rfl (inb_arg i0 iL L3 (by decide) (by decide)) ?_
  refine w_cV1_1 (pc := 1183) (k' := 0) (n' := 0) (c := 9) C cl_L_171 lv_X9_again (by decide) dL_law_1183 (Nat.le_of_ble_eq_true rfl) rfl (by omega) (by omega) (St9_k J.1.1) ((cc_again z J.1).mono (fun v h1 hp => ?_))
  obtain ⟨⟨y, rfl, ey⟩, S1, f1, c1, c2⟩ := hp
  obtain ⟨M1, o1⟩ := J.mid f1 (fun b q => Or.inl q)
  show Wj X _ _ Q 1186 (LV b x m i) [.int y] h1
  refine w_aload_n (pc := 1186) C dL_law_1186 rfl ?_
  refine lw_ld (pc := 1187) (v := 1) C E rfl dL_law_1187 dL_law_1188 dL_law_1190 dL_law_1191 dL_law_1192 rfl rfl (inb_arg i0 iL L3 (by decide) (by decide)) ?_
  refine w_cV1_1 (pc := 1193) (k' := 0) (n' := 0) (c := 10) C cl_L_174 lv_X10_again (by decide) dL_law_1193 (Nat.le_of_ble_eq_true rfl) rfl (by omega) (by omega) (St10_k M1.1.1) ((ma_again M1).mono (fun v h2 hp => ?_))
  obtain ⟨y2, rfl, ey2, M2, f2⟩ := hp
  obtain ⟨J2, g1, g2⟩ := Jn.two S1 o1 M2 f2
  show Wj X _ _ Q 1196 (LV b x m i) [.int y2, .int y] h2
  exact w_icmp_eq (pc := 1196) (tgt := 1281) C dL_law_1196 rfl ⟨fun _ => hk _ _ h2 _ J2 (by omega) (by omega), fun q => absurd (i32_eq.mpr (ey.trans ey2.symm)) q⟩
theorem lc_35 (C : CLw X nm) (E : SX X b L xs) (z : 0 < (dtX X).2.2.size) (i0 : 0 ≤ i.toInt) (iL : i.toInt + 6 ≤ L) (L3 : L ≤ 3072) (J : Jn h x m s) (bk : k + shC h x + 9 * (d + 1) ≤ mcX X) (bn : n + shM h x + 191 * (d + 1) ≤ msX X) (hk : LK X Q b x m i d) : Wj X k n Q 1201 (LV b x m i) [] h := by
  refine w_aload_n (pc := 1201) C dL_law_1201 rfl ?_
  refine lw_ld (pc := 1202) (v := 1) C E rfl dL_law_1202 dL_law_1203 dL_law_1205 dL_law_1206 dL_law_1207 rfl rfl (inb_arg i0 iL L3 (by decide) (by decide)) ?_
  refine w_cV1_1 (pc := 1208) (k' := 0) (n' := 0) (c := 9) C cl_L_175 lv_X9_count (by decide) dL_law_1208 (Nat.le_of_ble_eq_true rfl) rfl (by omega) (by omega) (St9_k J.1.1) ((cc_count z J.1).mono (fun v h1 hp => ?_))
  obtain ⟨⟨y, rfl, ey⟩, S1, f1, c1, c2⟩ := hp
  obtain ⟨M1, o1⟩ := J.mid f1 (fun b q => Or.inl q)
  show Wj X _ _ Q 1211 (LV b x m i) [.int y] h1
  refine w_aload_n (pc := 1211) C dL_law_1211 rfl ?_
  refine lw_ld (pc := 1212) (v := 1) C E rfl dL_law_1212 dL_law_1213 dL_law_1215 dL_law_1216 dL_law_1217 rfl rfl (inb_arg i0 iL L3 (by decide) (by decide)) ?_
  refine w_cV1_1 (pc := 1218) (k' := 0) (n' := 0) (c := 10) C cl_L_178 lv_X10_count (by decide) dL_law_1218 (Nat.le_of_ble_eq_true rfl) rfl (by omega) (by omega) (St10_k M1.1.1) ((ma_count M1).mono (fun v h2 hp => ?_))
  obtain ⟨y2, rfl, ey2, M2, f2⟩ := hp
  obtain ⟨J2, g1, g2⟩ := Jn.two S1 o1 M2 f2
  show Wj X _ _ Q 1221 (LV b x m i) [.int y2, .int y] h2
  exact w_icmp_eq (pc := 1221) (tgt := 1281) C dL_law_1221 rfl ⟨fun _ => hk _ _ h2 _ J2 (by omega) (by omega), fun q => absurd (i32_eq.mpr (ey.trans ey2.symm)) q⟩
end Lc
