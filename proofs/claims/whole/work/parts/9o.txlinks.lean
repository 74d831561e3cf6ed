-- texts: names and links of the JDK's methods (by program: gen_tx.py)
def RJ3 : String := "jdk/internal/util/Preconditions"
def RJ0 : String := "java/lang/String"
def RJ1 : String := "java/lang/StringLatin1"
abbrev cJ3_checkIndex_8e157 : ByteArray := prog_30_method_11_code
def yJ3_checkIndex_8e157 : MethodName := ⟨RJ3, "checkIndex", "(IILjava/util/function/BiFunction;)I"⟩
theorem dJ3_checkIndex_8e157_0 : decode cJ3_checkIndex_8e157 0 = .ok (.iload_n 0, 1) := by decide +kernel
theorem dJ3_checkIndex_8e157_1 : decode cJ3_checkIndex_8e157 1 = .ok (.ifCond .lt 8, 3) := by decide +kernel
theorem dJ3_checkIndex_8e157_4 : decode cJ3_checkIndex_8e157 4 = .ok (.iload_n 0, 1) := by decide +kernel
theorem dJ3_checkIndex_8e157_5 : decode cJ3_checkIndex_8e157 5 = .ok (.iload_n 1, 1) := by decide +kernel
theorem dJ3_checkIndex_8e157_6 : decode cJ3_checkIndex_8e157 6 = .ok (.if_icmp .lt 10, 3) := by decide +kernel
theorem dJ3_checkIndex_8e157_9 : decode cJ3_checkIndex_8e157 9 = .ok (.aload_n 2, 1) := by decide +kernel
theorem dJ3_checkIndex_8e157_10 : decode cJ3_checkIndex_8e157 10 = .ok (.iload_n 0, 1) := by decide +kernel
theorem dJ3_checkIndex_8e157_11 : decode cJ3_checkIndex_8e157 11 = .ok (.iload_n 1, 1) := by decide +kernel
theorem dJ3_checkIndex_8e157_12 : decode cJ3_checkIndex_8e157 12 = .ok (.invokestatic 95, 3) := by decide +kernel
theorem dJ3_checkIndex_8e157_15 : decode cJ3_checkIndex_8e157 15 = .ok (.athrow, 1) := by decide +kernel
theorem dJ3_checkIndex_8e157_16 : decode cJ3_checkIndex_8e157 16 = .ok (.iload_n 0, 1) := by decide +kernel
theorem dJ3_checkIndex_8e157_17 : decode cJ3_checkIndex_8e157 17 = .ok (.ireturn, 1) := by decide +kernel
theorem cd_J3_checkIndex_8e157 : Cond.code yJ3_checkIndex_8e157 cJ3_checkIndex_8e157 3 (some .int) ∈ gwd := inT5 224 (by rfl) rfl
theorem ls_J3_checkIndex_8e157 : Cond.static yJ3_checkIndex_8e157 ∈ gwd := inT5 223 (by rfl) rfl
abbrev C_J3_checkIndex_8e157 (X : Ctx) : Prop := Cx X RJ3 cJ3_checkIndex_8e157 3 (some .int) "checkIndex" 0 0
abbrev S_J3_checkIndex_8e157 (l : Launch) (D : Dt) (mc ms : Nat) (av : List Value) (h : Hp) (Q : Pq) : Prop := Sp l D yJ3_checkIndex_8e157 cJ3_checkIndex_8e157 3 (some .int) 0 0 mc ms av h Q
abbrev cJ0_checkIndex_df160 : ByteArray := prog_21_method_155_code
def yJ0_checkIndex_df160 : MethodName := ⟨RJ0, "checkIndex", "(II)V"⟩
theorem dJ0_checkIndex_df160_0 : decode cJ0_checkIndex_df160 0 = .ok (.iload_n 0, 1) := by decide +kernel
theorem dJ0_checkIndex_df160_1 : decode cJ0_checkIndex_df160 1 = .ok (.iload_n 1, 1) := by decide +kernel
theorem dJ0_checkIndex_df160_2 : decode cJ0_checkIndex_df160 2 = .ok (.getstatic 1053, 3) := by decide +kernel
theorem dJ0_checkIndex_df160_5 : decode cJ0_checkIndex_df160 5 = .ok (.invokestatic 1059, 3) := by decide +kernel
theorem dJ0_checkIndex_df160_8 : decode cJ0_checkIndex_df160 8 = .ok (.pop, 1) := by decide +kernel
theorem dJ0_checkIndex_df160_9 : decode cJ0_checkIndex_df160 9 = .ok (.return_, 1) := by decide +kernel
theorem cd_J0_checkIndex_df160 : Cond.code yJ0_checkIndex_df160 cJ0_checkIndex_df160 2 none ∈ gwd := inT5 219 (by rfl) rfl
theorem ls_J0_checkIndex_df160 : Cond.static yJ0_checkIndex_df160 ∈ gwd := inT5 218 (by rfl) rfl
abbrev C_J0_checkIndex_df160 (X : Ctx) : Prop := Cx X RJ0 cJ0_checkIndex_df160 2 none "checkIndex" 1 22
abbrev S_J0_checkIndex_df160 (l : Launch) (D : Dt) (mc ms : Nat) (av : List Value) (h : Hp) (Q : Pq) : Prop := Sp l D yJ0_checkIndex_df160 cJ0_checkIndex_df160 2 none 1 22 mc ms av h Q
abbrev cJ1_charAt_3b067 : ByteArray := prog_22_method_2_code
def yJ1_charAt_3b067 : MethodName := ⟨RJ1, "charAt", "([BI)C"⟩
theorem dJ1_charAt_3b067_0 : decode cJ1_charAt_3b067 0 = .ok (.iload_n 1, 1) := by decide +kernel
theorem dJ1_charAt_3b067_1 : decode cJ1_charAt_3b067 1 = .ok (.aload_n 0, 1) := by decide +kernel
theorem dJ1_charAt_3b067_2 : decode cJ1_charAt_3b067 2 = .ok (.arraylength, 1) := by decide +kernel
theorem dJ1_charAt_3b067_3 : decode cJ1_charAt_3b067 3 = .ok (.invokestatic 9, 3) := by decide +kernel
theorem dJ1_charAt_3b067_6 : decode cJ1_charAt_3b067 6 = .ok (.aload_n 0, 1) := by decide +kernel
theorem dJ1_charAt_3b067_7 : decode cJ1_charAt_3b067 7 = .ok (.iload_n 1, 1) := by decide +kernel
theorem dJ1_charAt_3b067_8 : decode cJ1_charAt_3b067 8 = .ok (.baload, 1) := by decide +kernel
theorem dJ1_charAt_3b067_9 : decode cJ1_charAt_3b067 9 = .ok (.sipush 255, 3) := by decide +kernel
theorem dJ1_charAt_3b067_12 : decode cJ1_charAt_3b067 12 = .ok (.iand, 1) := by decide +kernel
theorem dJ1_charAt_3b067_13 : decode cJ1_charAt_3b067 13 = .ok (.i2c, 1) := by decide +kernel
theorem dJ1_charAt_3b067_14 : decode cJ1_charAt_3b067 14 = .ok (.ireturn, 1) := by decide +kernel
theorem cd_J1_charAt_3b067 : Cond.code yJ1_charAt_3b067 cJ1_charAt_3b067 2 (some .char) ∈ gwd := inT5 216 (by rfl) rfl
theorem ls_J1_charAt_3b067 : Cond.static yJ1_charAt_3b067 ∈ gwd := inT5 215 (by rfl) rfl
abbrev C_J1_charAt_3b067 (X : Ctx) : Prop := Cx X RJ1 cJ1_charAt_3b067 2 (some .char) "charAt" 2 43
abbrev S_J1_charAt_3b067 (l : Launch) (D : Dt) (mc ms : Nat) (av : List Value) (h : Hp) (Q : Pq) : Prop := Sp l D yJ1_charAt_3b067 cJ1_charAt_3b067 2 (some .char) 2 43 mc ms av h Q
abbrev cJ0_isLatin1_aae02 : ByteArray := prog_21_method_154_code
def yJ0_isLatin1_aae02 : MethodName := ⟨RJ0, "isLatin1", "()Z"⟩
theorem dJ0_isLatin1_aae02_0 : decode cJ0_isLatin1_aae02 0 = .ok (.getstatic 38, 3) := by decide +kernel
theorem dJ0_isLatin1_aae02_3 : decode cJ0_isLatin1_aae02 3 = .ok (.ifCond .eq 14, 3) := by decide +kernel
theorem dJ0_isLatin1_aae02_6 : decode cJ0_isLatin1_aae02 6 = .ok (.aload_n 0, 1) := by decide +kernel
theorem dJ0_isLatin1_aae02_7 : decode cJ0_isLatin1_aae02 7 = .ok (.getfield 15, 3) := by decide +kernel
theorem dJ0_isLatin1_aae02_10 : decode cJ0_isLatin1_aae02 10 = .ok (.ifCond .ne 7, 3) := by decide +kernel
theorem dJ0_isLatin1_aae02_13 : decode cJ0_isLatin1_aae02 13 = .ok (.iconst 1, 1) := by decide +kernel
theorem dJ0_isLatin1_aae02_14 : decode cJ0_isLatin1_aae02 14 = .ok (.goto 4, 3) := by decide +kernel
theorem dJ0_isLatin1_aae02_17 : decode cJ0_isLatin1_aae02 17 = .ok (.iconst 0, 1) := by decide +kernel
theorem dJ0_isLatin1_aae02_18 : decode cJ0_isLatin1_aae02 18 = .ok (.ireturn, 1) := by decide +kernel
theorem cd_J0_isLatin1_aae02 : Cond.code yJ0_isLatin1_aae02 cJ0_isLatin1_aae02 1 (some .boolean) ∈ gwd := inT5 213 (by rfl) rfl
theorem lv_J0_isLatin1_aae02 : Cond.instanceMethod yJ0_isLatin1_aae02 ∈ gwd ∧ Cond.selects yJ0_isLatin1_aae02.cls yJ0_isLatin1_aae02 yJ0_isLatin1_aae02 ∈ gwd := ⟨inT5 211 (by rfl) rfl, inT5 212 (by rfl) rfl⟩
abbrev C_J0_isLatin1_aae02 (X : Ctx) : Prop := Cx X RJ0 cJ0_isLatin1_aae02 1 (some .boolean) "isLatin1" 0 0
abbrev S_J0_isLatin1_aae02 (l : Launch) (D : Dt) (mc ms : Nat) (av : List Value) (h : Hp) (Q : Pq) : Prop := Sp l D yJ0_isLatin1_aae02 cJ0_isLatin1_aae02 1 (some .boolean) 0 0 mc ms av h Q
abbrev cJ0_coder_7d493 : ByteArray := prog_21_method_152_code
def yJ0_coder_7d493 : MethodName := ⟨RJ0, "coder", "()B"⟩
theorem dJ0_coder_7d493_0 : decode cJ0_coder_7d493 0 = .ok (.getstatic 38, 3) := by decide +kernel
theorem dJ0_coder_7d493_3 : decode cJ0_coder_7d493 3 = .ok (.ifCond .eq 10, 3) := by decide +kernel
theorem dJ0_coder_7d493_6 : decode cJ0_coder_7d493 6 = .ok (.aload_n 0, 1) := by decide +kernel
theorem dJ0_coder_7d493_7 : decode cJ0_coder_7d493 7 = .ok (.getfield 15, 3) := by decide +kernel
theorem dJ0_coder_7d493_10 : decode cJ0_coder_7d493 10 = .ok (.goto 4, 3) := by decide +kernel
theorem dJ0_coder_7d493_13 : decode cJ0_coder_7d493 13 = .ok (.iconst 1, 1) := by decide +kernel
theorem dJ0_coder_7d493_14 : decode cJ0_coder_7d493 14 = .ok (.ireturn, 1) := by decide +kernel
theorem cd_J0_coder_7d493 : Cond.code yJ0_coder_7d493 cJ0_coder_7d493 1 (some .byte) ∈ gwd := inT5 203 (by rfl) rfl
theorem lv_J0_coder_7d493 : Cond.instanceMethod yJ0_coder_7d493 ∈ gwd ∧ Cond.selects yJ0_coder_7d493.cls yJ0_coder_7d493 yJ0_coder_7d493 ∈ gwd := ⟨inT5 201 (by rfl) rfl, inT5 202 (by rfl) rfl⟩
abbrev C_J0_coder_7d493 (X : Ctx) : Prop := Cx X RJ0 cJ0_coder_7d493 1 (some .byte) "coder" 0 0
abbrev S_J0_coder_7d493 (l : Launch) (D : Dt) (mc ms : Nat) (av : List Value) (h : Hp) (Q : Pq) : Prop := Sp l D yJ0_coder_7d493 cJ0_coder_7d493 1 (some .byte) 0 0 mc ms av h Q
abbrev cJ0_charAt_5068e : ByteArray := prog_21_method_56_code
def yJ0_charAt_5068e : MethodName := ⟨RJ0, "charAt", "(I)C"⟩
theorem dJ0_charAt_5068e_0 : decode cJ0_charAt_5068e 0 = .ok (.aload_n 0, 1) := by decide +kernel
theorem dJ0_charAt_5068e_1 : decode cJ0_charAt_5068e 1 = .ok (.invokevirtual 492, 3) := by decide +kernel
theorem dJ0_charAt_5068e_4 : decode cJ0_charAt_5068e 4 = .ok (.ifCond .eq 12, 3) := by decide +kernel
theorem dJ0_charAt_5068e_7 : decode cJ0_charAt_5068e 7 = .ok (.aload_n 0, 1) := by decide +kernel
theorem dJ0_charAt_5068e_8 : decode cJ0_charAt_5068e 8 = .ok (.getfield 9, 3) := by decide +kernel
theorem dJ0_charAt_5068e_11 : decode cJ0_charAt_5068e 11 = .ok (.iload_n 1, 1) := by decide +kernel
theorem dJ0_charAt_5068e_12 : decode cJ0_charAt_5068e 12 = .ok (.invokestatic 495, 3) := by decide +kernel
theorem dJ0_charAt_5068e_15 : decode cJ0_charAt_5068e 15 = .ok (.ireturn, 1) := by decide +kernel
theorem dJ0_charAt_5068e_16 : decode cJ0_charAt_5068e 16 = .ok (.aload_n 0, 1) := by decide +kernel
theorem dJ0_charAt_5068e_17 : decode cJ0_charAt_5068e 17 = .ok (.getfield 9, 3) := by decide +kernel
theorem dJ0_charAt_5068e_20 : decode cJ0_charAt_5068e 20 = .ok (.iload_n 1, 1) := by decide +kernel
theorem dJ0_charAt_5068e_21 : decode cJ0_charAt_5068e 21 = .ok (.invokestatic 498, 3) := by decide +kernel
theorem dJ0_charAt_5068e_24 : decode cJ0_charAt_5068e 24 = .ok (.ireturn, 1) := by decide +kernel
theorem cd_J0_charAt_5068e : Cond.code yJ0_charAt_5068e cJ0_charAt_5068e 2 (some .char) ∈ gwd := inT5 209 (by rfl) rfl
theorem lv_J0_charAt_5068e : Cond.instanceMethod yJ0_charAt_5068e ∈ gwd ∧ Cond.selects yJ0_charAt_5068e.cls yJ0_charAt_5068e yJ0_charAt_5068e ∈ gwd := ⟨inT5 207 (by rfl) rfl, inT5 208 (by rfl) rfl⟩
abbrev C_J0_charAt_5068e (X : Ctx) : Prop := Cx X RJ0 cJ0_charAt_5068e 2 (some .char) "charAt" 4 85
abbrev S_J0_charAt_5068e (l : Launch) (D : Dt) (mc ms : Nat) (av : List Value) (h : Hp) (Q : Pq) : Prop := Sp l D yJ0_charAt_5068e cJ0_charAt_5068e 2 (some .char) 4 85 mc ms av h Q
abbrev cJ0_length_8abf5 : ByteArray := prog_21_method_54_code
def yJ0_length_8abf5 : MethodName := ⟨RJ0, "length", "()I"⟩
theorem dJ0_length_8abf5_0 : decode cJ0_length_8abf5 0 = .ok (.aload_n 0, 1) := by decide +kernel
theorem dJ0_length_8abf5_1 : decode cJ0_length_8abf5 1 = .ok (.getfield 9, 3) := by decide +kernel
theorem dJ0_length_8abf5_4 : decode cJ0_length_8abf5 4 = .ok (.arraylength, 1) := by decide +kernel
theorem dJ0_length_8abf5_5 : decode cJ0_length_8abf5 5 = .ok (.aload_n 0, 1) := by decide +kernel
theorem dJ0_length_8abf5_6 : decode cJ0_length_8abf5 6 = .ok (.invokevirtual 335, 3) := by decide +kernel
theorem dJ0_length_8abf5_9 : decode cJ0_length_8abf5 9 = .ok (.ishr, 1) := by decide +kernel
theorem dJ0_length_8abf5_10 : decode cJ0_length_8abf5 10 = .ok (.ireturn, 1) := by decide +kernel
theorem cd_J0_length_8abf5 : Cond.code yJ0_length_8abf5 cJ0_length_8abf5 1 (some .int) ∈ gwd := inT5 199 (by rfl) rfl
theorem lv_J0_length_8abf5 : Cond.instanceMethod yJ0_length_8abf5 ∈ gwd ∧ Cond.selects yJ0_length_8abf5.cls yJ0_length_8abf5 yJ0_length_8abf5 ∈ gwd := ⟨inT5 197 (by rfl) rfl, inT5 198 (by rfl) rfl⟩
abbrev C_J0_length_8abf5 (X : Ctx) : Prop := Cx X RJ0 cJ0_length_8abf5 1 (some .int) "length" 1 20
abbrev S_J0_length_8abf5 (l : Launch) (D : Dt) (mc ms : Nat) (av : List Value) (h : Hp) (Q : Pq) : Prop := Sp l D yJ0_length_8abf5 cJ0_length_8abf5 1 (some .int) 1 20 mc ms av h Q
theorem cl_X10_43 : CL RX10 43 yJ0_length_8abf5 cJ0_length_8abf5 1 (some .int) 0 := ⟨inT5 196 (by rfl) rfl, inT1 12 (by rfl) rfl, cd_J0_length_8abf5, by decide +kernel, by decide +kernel, by decide +kernel⟩
theorem cl_X10_49 : CL RX10 49 yJ0_charAt_5068e cJ0_charAt_5068e 2 (some .char) 1 := ⟨inT5 206 (by rfl) rfl, inT1 12 (by rfl) rfl, cd_J0_charAt_5068e, by decide +kernel, by decide +kernel, by decide +kernel⟩
theorem cl_J0_335 : CL RJ0 335 yJ0_coder_7d493 cJ0_coder_7d493 1 (some .byte) 0 := ⟨inT5 200 (by rfl) rfl, inT1 12 (by rfl) rfl, cd_J0_coder_7d493, by decide +kernel, by decide +kernel, by decide +kernel⟩
theorem cl_J0_492 : CL RJ0 492 yJ0_isLatin1_aae02 cJ0_isLatin1_aae02 1 (some .boolean) 0 := ⟨inT5 210 (by rfl) rfl, inT1 12 (by rfl) rfl, cd_J0_isLatin1_aae02, by decide +kernel, by decide +kernel, by decide +kernel⟩
theorem cl_J0_495 : CL RJ0 495 yJ1_charAt_3b067 cJ1_charAt_3b067 2 (some .char) 2 := ⟨inT5 214 (by rfl) rfl, inT1 13 (by rfl) rfl, cd_J1_charAt_3b067, by decide +kernel, by decide +kernel, by decide +kernel⟩
theorem cl_J0_1059 : CL RJ0 1059 yJ3_checkIndex_8e157 cJ3_checkIndex_8e157 3 (some .int) 3 := ⟨inT5 222 (by rfl) rfl, inT1 14 (by rfl) rfl, cd_J3_checkIndex_8e157, by decide +kernel, by decide +kernel, by decide +kernel⟩
theorem cl_J1_9 : CL RJ1 9 yJ0_checkIndex_df160 cJ0_checkIndex_df160 2 none 2 := ⟨inT5 217 (by rfl) rfl, inT1 12 (by rfl) rfl, cd_J0_checkIndex_df160, by decide +kernel, by decide +kernel, by decide +kernel⟩
theorem fw_J0_9 : Cond.fieldLink RJ0 9 "java/lang/String" "value" "[B" ∈ gwd := inT7 186 (by rfl) rfl
theorem fw_J0_15 : Cond.fieldLink RJ0 15 "java/lang/String" "coder" "B" ∈ gwd := inT7 187 (by rfl) rfl
theorem fw_J0_38 : Cond.fieldLink RJ0 38 "java/lang/String" "COMPACT_STRINGS" "Z" ∈ gwd := inT5 204 (by rfl) rfl
theorem fw_J0_1053 : Cond.fieldLink RJ0 1053 "jdk/internal/util/Preconditions" "SIOOBE_FORMATTER" "Ljava/util/function/BiFunction;" ∈ gwd := inT5 220 (by rfl) rfl
-- text 53: 0123456789
-- text 421: utbcwgo
-- text 423: +-
