section
-- the tables' words, names and fields: by program (wip/whole/gen/gen_names.py) out of what TURN printed
/-- a private method of a class that the tables say can be made, by its rows of tables_1 -/
def lw_okq (q : MethodName × Nat) : Prop := (q.1.cls ≠ "java/lang/invoke/MethodHandle" ∧ q.1.cls ≠ "java/lang/invoke/VarHandle") ∧ Cond.instantiable q.1.cls q.2 ∈ tables_1 ∧ Cond.privateMethod q.1 ∈ tables_1 ∧ Cond.instanceMethod q.1 ∈ tables_1
theorem lw_p0 : lw_okq (⟨"DividingHead", "readPlates", "()I"⟩, 15) := ⟨⟨by decide +kernel, by decide +kernel⟩, List.mem_of_getElem? (i := 26) (by decide +kernel), List.mem_of_getElem? (i := 359) (by decide +kernel), List.mem_of_getElem? (i := 360) (by decide +kernel)⟩
theorem lw_p1 : lw_okq (⟨"DividingHead", "adopt", "(I)I"⟩, 15) := ⟨⟨by decide +kernel, by decide +kernel⟩, List.mem_of_getElem? (i := 26) (by decide +kernel), List.mem_of_getElem? (i := 401) (by decide +kernel), List.mem_of_getElem? (i := 402) (by decide +kernel)⟩
theorem lw_p2 : lw_okq (⟨"DividingHead", "readGears", "()I"⟩, 15) := ⟨⟨by decide +kernel, by decide +kernel⟩, List.mem_of_getElem? (i := 26) (by decide +kernel), List.mem_of_getElem? (i := 409) (by decide +kernel), List.mem_of_getElem? (i := 410) (by decide +kernel)⟩
theorem lw_p3 : lw_okq (⟨"DividingHead$CompoundWay", "tryPair", "(LDividingHead$Head;III)V"⟩, 6) := ⟨⟨by decide +kernel, by decide +kernel⟩, List.mem_of_getElem? (i := 88) (by decide +kernel), List.mem_of_getElem? (i := 466) (by decide +kernel), List.mem_of_getElem? (i := 467) (by decide +kernel)⟩
theorem lw_p4 : lw_okq (⟨"DividingHead$CompoundWay", "offer", "(III)Z"⟩, 6) := ⟨⟨by decide +kernel, by decide +kernel⟩, List.mem_of_getElem? (i := 88) (by decide +kernel), List.mem_of_getElem? (i := 471) (by decide +kernel), List.mem_of_getElem? (i := 472) (by decide +kernel)⟩
theorem lw_p5 : lw_okq (⟨"DividingHead$CompoundWay", "take", "(III)Z"⟩, 6) := ⟨⟨by decide +kernel, by decide +kernel⟩, List.mem_of_getElem? (i := 88) (by decide +kernel), List.mem_of_getElem? (i := 481) (by decide +kernel), List.mem_of_getElem? (i := 482) (by decide +kernel)⟩
theorem lw_p6 : lw_okq (⟨"DividingHead", "fittedShelf", "()LDividingHead$Shelf;"⟩, 15) := ⟨⟨by decide +kernel, by decide +kernel⟩, List.mem_of_getElem? (i := 26) (by decide +kernel), List.mem_of_getElem? (i := 492) (by decide +kernel), List.mem_of_getElem? (i := 493) (by decide +kernel)⟩
theorem lw_p7 : lw_okq (⟨"DividingHead$Shelf", "addTwos", "()V"⟩, 7) := ⟨⟨by decide +kernel, by decide +kernel⟩, List.mem_of_getElem? (i := 496) (by decide +kernel), List.mem_of_getElem? (i := 540) (by decide +kernel), List.mem_of_getElem? (i := 541) (by decide +kernel)⟩
theorem lw_p8 : lw_okq (⟨"DividingHead$Shelf", "tooth", "(I)I"⟩, 7) := ⟨⟨by decide +kernel, by decide +kernel⟩, List.mem_of_getElem? (i := 496) (by decide +kernel), List.mem_of_getElem? (i := 544) (by decide +kernel), List.mem_of_getElem? (i := 545) (by decide +kernel)⟩
theorem lw_p9 : lw_okq (⟨"DividingHead$Shelf", "add", "(III)V"⟩, 7) := ⟨⟨by decide +kernel, by decide +kernel⟩, List.mem_of_getElem? (i := 496) (by decide +kernel), List.mem_of_getElem? (i := 551) (by decide +kernel), List.mem_of_getElem? (i := 552) (by decide +kernel)⟩
theorem lw_p10 : lw_okq (⟨"DividingHead$Shelf", "slotOf", "(II)I"⟩, 7) := ⟨⟨by decide +kernel, by decide +kernel⟩, List.mem_of_getElem? (i := 496) (by decide +kernel), List.mem_of_getElem? (i := 556) (by decide +kernel), List.mem_of_getElem? (i := 557) (by decide +kernel)⟩
theorem lw_p11 : lw_okq (⟨"DividingHead$Shelf", "addFours", "()V"⟩, 7) := ⟨⟨by decide +kernel, by decide +kernel⟩, List.mem_of_getElem? (i := 496) (by decide +kernel), List.mem_of_getElem? (i := 562) (by decide +kernel), List.mem_of_getElem? (i := 563) (by decide +kernel)⟩
theorem lw_p12 : lw_okq (⟨"DividingHead$DifferentialWay", "tryNumber", "(LDividingHead$Head;LDividingHead$Shelf;III)V"⟩, 4) := ⟨⟨by decide +kernel, by decide +kernel⟩, List.mem_of_getElem? (i := 119) (by decide +kernel), List.mem_of_getElem? (i := 570) (by decide +kernel), List.mem_of_getElem? (i := 571) (by decide +kernel)⟩
theorem lw_p13 : lw_okq (⟨"DividingHead", "hasWay", "(II)Z"⟩, 15) := ⟨⟨by decide +kernel, by decide +kernel⟩, List.mem_of_getElem? (i := 26) (by decide +kernel), List.mem_of_getElem? (i := 587) (by decide +kernel), List.mem_of_getElem? (i := 588) (by decide +kernel)⟩
theorem lw_p14 : lw_okq (⟨"DividingHead", "tellWheels", "(LDividingHead$Shelf;I)I"⟩, 15) := ⟨⟨by decide +kernel, by decide +kernel⟩, List.mem_of_getElem? (i := 26) (by decide +kernel), List.mem_of_getElem? (i := 607) (by decide +kernel), List.mem_of_getElem? (i := 608) (by decide +kernel)⟩
theorem lw_p15 : lw_okq (⟨"DividingHead", "tellClosest", "(JJJ)I"⟩, 15) := ⟨⟨by decide +kernel, by decide +kernel⟩, List.mem_of_getElem? (i := 26) (by decide +kernel), List.mem_of_getElem? (i := 620) (by decide +kernel), List.mem_of_getElem? (i := 621) (by decide +kernel)⟩
def lw_privs_1 : List (MethodName × Nat) := [(⟨"DividingHead", "readPlates", "()I"⟩, 15), (⟨"DividingHead", "adopt", "(I)I"⟩, 15), (⟨"DividingHead", "readGears", "()I"⟩, 15), (⟨"DividingHead$CompoundWay", "tryPair", "(LDividingHead$Head;III)V"⟩, 6), (⟨"DividingHead$CompoundWay", "offer", "(III)Z"⟩, 6), (⟨"DividingHead$CompoundWay", "take", "(III)Z"⟩, 6), (⟨"DividingHead", "fittedShelf", "()LDividingHead$Shelf;"⟩, 15), (⟨"DividingHead$Shelf", "addTwos", "()V"⟩, 7), (⟨"DividingHead$Shelf", "tooth", "(I)I"⟩, 7), (⟨"DividingHead$Shelf", "add", "(III)V"⟩, 7), (⟨"DividingHead$Shelf", "slotOf", "(II)I"⟩, 7), (⟨"DividingHead$Shelf", "addFours", "()V"⟩, 7), (⟨"DividingHead$DifferentialWay", "tryNumber", "(LDividingHead$Head;LDividingHead$Shelf;III)V"⟩, 4), (⟨"DividingHead", "hasWay", "(II)Z"⟩, 15), (⟨"DividingHead", "tellWheels", "(LDividingHead$Shelf;I)I"⟩, 15), (⟨"DividingHead", "tellClosest", "(JJJ)I"⟩, 15)]
theorem lw_r1 : ∀ q ∈ lw_privs_1, lw_okq q := List.forall_mem_cons.mpr ⟨lw_p0, List.forall_mem_cons.mpr ⟨lw_p1, List.forall_mem_cons.mpr ⟨lw_p2, List.forall_mem_cons.mpr ⟨lw_p3, List.forall_mem_cons.mpr ⟨lw_p4, List.forall_mem_cons.mpr ⟨lw_p5, List.forall_mem_cons.mpr ⟨lw_p6, List.forall_mem_cons.mpr ⟨lw_p7, List.forall_mem_cons.mpr ⟨lw_p8, List.forall_mem_cons.mpr ⟨lw_p9, List.forall_mem_cons.mpr ⟨lw_p10, List.forall_mem_cons.mpr ⟨lw_p11, List.forall_mem_cons.mpr ⟨lw_p12, List.forall_mem_cons.mpr ⟨lw_p13, List.forall_mem_cons.mpr ⟨lw_p14, List.forall_mem_cons.mpr ⟨lw_p15, fun _ h => absurd h List.not_mem_nil⟩⟩⟩⟩⟩⟩⟩⟩⟩⟩⟩⟩⟩⟩⟩⟩
theorem lw_p16 : lw_okq (⟨"DividingHead", "findNear", "(JJI)V"⟩, 15) := ⟨⟨by decide +kernel, by decide +kernel⟩, List.mem_of_getElem? (i := 26) (by decide +kernel), List.mem_of_getElem? (i := 675) (by decide +kernel), List.mem_of_getElem? (i := 676) (by decide +kernel)⟩
theorem lw_p17 : lw_okq (⟨"DividingHead", "tellAngle", "(IJ)V"⟩, 15) := ⟨⟨by decide +kernel, by decide +kernel⟩, List.mem_of_getElem? (i := 26) (by decide +kernel), List.mem_of_getElem? (i := 693) (by decide +kernel), List.mem_of_getElem? (i := 694) (by decide +kernel)⟩
theorem lw_p18 : lw_okq (⟨"DividingHead$Head", "isPair", "(II)Z"⟩, 17) := ⟨⟨by decide +kernel, by decide +kernel⟩, List.mem_of_getElem? (i := 188) (by decide +kernel), List.mem_of_getElem? (i := 713) (by decide +kernel), List.mem_of_getElem? (i := 714) (by decide +kernel)⟩
theorem lw_p19 : lw_okq (⟨"DividingHead$Head", "compareMark", "(I)I"⟩, 17) := ⟨⟨by decide +kernel, by decide +kernel⟩, List.mem_of_getElem? (i := 188) (by decide +kernel), List.mem_of_getElem? (i := 749) (by decide +kernel), List.mem_of_getElem? (i := 750) (by decide +kernel)⟩
theorem lw_p20 : lw_okq (⟨"DividingHead", "putInDifferential", "()V"⟩, 15) := ⟨⟨by decide +kernel, by decide +kernel⟩, List.mem_of_getElem? (i := 26) (by decide +kernel), List.mem_of_getElem? (i := 777) (by decide +kernel), List.mem_of_getElem? (i := 778) (by decide +kernel)⟩
theorem lw_p21 : lw_okq (⟨"DividingHead", "windWay", "(I)V"⟩, 15) := ⟨⟨by decide +kernel, by decide +kernel⟩, List.mem_of_getElem? (i := 26) (by decide +kernel), List.mem_of_getElem? (i := 781) (by decide +kernel), List.mem_of_getElem? (i := 782) (by decide +kernel)⟩
theorem lw_p22 : lw_okq (⟨"DividingHead$GapList", "holdsGap", "()Z"⟩, 4) := ⟨⟨by decide +kernel, by decide +kernel⟩, List.mem_of_getElem? (i := 144) (by decide +kernel), List.mem_of_getElem? (i := 794) (by decide +kernel), List.mem_of_getElem? (i := 795) (by decide +kernel)⟩
theorem lw_p23 : lw_okq (⟨"DividingHead", "firstWrongOfDay", "()I"⟩, 15) := ⟨⟨by decide +kernel, by decide +kernel⟩, List.mem_of_getElem? (i := 26) (by decide +kernel), List.mem_of_getElem? (i := 841) (by decide +kernel), List.mem_of_getElem? (i := 842) (by decide +kernel)⟩
theorem lw_p24 : lw_okq (⟨"DividingHead", "doAct", "(I)I"⟩, 15) := ⟨⟨by decide +kernel, by decide +kernel⟩, List.mem_of_getElem? (i := 26) (by decide +kernel), List.mem_of_getElem? (i := 848) (by decide +kernel), List.mem_of_getElem? (i := 849) (by decide +kernel)⟩
theorem lw_p25 : lw_okq (⟨"DividingHead", "draw", "(I)I"⟩, 15) := ⟨⟨by decide +kernel, by decide +kernel⟩, List.mem_of_getElem? (i := 26) (by decide +kernel), List.mem_of_getElem? (i := 860) (by decide +kernel), List.mem_of_getElem? (i := 861) (by decide +kernel)⟩
theorem lw_p26 : lw_okq (⟨"java/lang/Throwable", "fillInStackTrace", "(I)Ljava/lang/Throwable;"⟩, 6) := ⟨⟨by decide +kernel, by decide +kernel⟩, List.mem_of_getElem? (i := 922) (by decide +kernel), List.mem_of_getElem? (i := 920) (by decide +kernel), List.mem_of_getElem? (i := 921) (by decide +kernel)⟩
theorem lw_p27 : lw_okq (⟨"DividingHeadModel", "begins", "(I)V"⟩, 43) := ⟨⟨by decide +kernel, by decide +kernel⟩, List.mem_of_getElem? (i := 983) (by decide +kernel), List.mem_of_getElem? (i := 989) (by decide +kernel), List.mem_of_getElem? (i := 990) (by decide +kernel)⟩
theorem lw_p28 : lw_okq (⟨"DividingHeadModel", "copies", "(II)V"⟩, 43) := ⟨⟨by decide +kernel, by decide +kernel⟩, List.mem_of_getElem? (i := 983) (by decide +kernel), List.mem_of_getElem? (i := 1128) (by decide +kernel), List.mem_of_getElem? (i := 1129) (by decide +kernel)⟩
theorem lw_p29 : lw_okq (⟨"DividingHeadModel", "reads", "()V"⟩, 43) := ⟨⟨by decide +kernel, by decide +kernel⟩, List.mem_of_getElem? (i := 983) (by decide +kernel), List.mem_of_getElem? (i := 1136) (by decide +kernel), List.mem_of_getElem? (i := 1137) (by decide +kernel)⟩
theorem lw_p30 : lw_okq (⟨"DividingHeadModel", "readsPlate", "(I)Z"⟩, 43) := ⟨⟨by decide +kernel, by decide +kernel⟩, List.mem_of_getElem? (i := 983) (by decide +kernel), List.mem_of_getElem? (i := 1140) (by decide +kernel), List.mem_of_getElem? (i := 1141) (by decide +kernel)⟩
theorem lw_p31 : lw_okq (⟨"DividingHeadModel", "two", "()I"⟩, 43) := ⟨⟨by decide +kernel, by decide +kernel⟩, List.mem_of_getElem? (i := 983) (by decide +kernel), List.mem_of_getElem? (i := 1144) (by decide +kernel), List.mem_of_getElem? (i := 1145) (by decide +kernel)⟩
def lw_privs_2 : List (MethodName × Nat) := [(⟨"DividingHead", "findNear", "(JJI)V"⟩, 15), (⟨"DividingHead", "tellAngle", "(IJ)V"⟩, 15), (⟨"DividingHead$Head", "isPair", "(II)Z"⟩, 17), (⟨"DividingHead$Head", "compareMark", "(I)I"⟩, 17), (⟨"DividingHead", "putInDifferential", "()V"⟩, 15), (⟨"DividingHead", "windWay", "(I)V"⟩, 15), (⟨"DividingHead$GapList", "holdsGap", "()Z"⟩, 4), (⟨"DividingHead", "firstWrongOfDay", "()I"⟩, 15), (⟨"DividingHead", "doAct", "(I)I"⟩, 15), (⟨"DividingHead", "draw", "(I)I"⟩, 15), (⟨"java/lang/Throwable", "fillInStackTrace", "(I)Ljava/lang/Throwable;"⟩, 6), (⟨"DividingHeadModel", "begins", "(I)V"⟩, 43), (⟨"DividingHeadModel", "copies", "(II)V"⟩, 43), (⟨"DividingHeadModel", "reads", "()V"⟩, 43), (⟨"DividingHeadModel", "readsPlate", "(I)Z"⟩, 43), (⟨"DividingHeadModel", "two", "()I"⟩, 43)]
theorem lw_r2 : ∀ q ∈ lw_privs_2, lw_okq q := List.forall_mem_cons.mpr ⟨lw_p16, List.forall_mem_cons.mpr ⟨lw_p17, List.forall_mem_cons.mpr ⟨lw_p18, List.forall_mem_cons.mpr ⟨lw_p19, List.forall_mem_cons.mpr ⟨lw_p20, List.forall_mem_cons.mpr ⟨lw_p21, List.forall_mem_cons.mpr ⟨lw_p22, List.forall_mem_cons.mpr ⟨lw_p23, List.forall_mem_cons.mpr ⟨lw_p24, List.forall_mem_cons.mpr ⟨lw_p25, List.forall_mem_cons.mpr ⟨lw_p26, List.forall_mem_cons.mpr ⟨lw_p27, List.forall_mem_cons.mpr ⟨lw_p28, List.forall_mem_cons.mpr ⟨lw_p29, List.forall_mem_cons.mpr ⟨lw_p30, List.forall_mem_cons.mpr ⟨lw_p31, fun _ h => absurd h List.not_mem_nil⟩⟩⟩⟩⟩⟩⟩⟩⟩⟩⟩⟩⟩⟩⟩⟩
theorem lw_p32 : lw_okq (⟨"DividingHeadModel", "digit", "()I"⟩, 43) := ⟨⟨by decide +kernel, by decide +kernel⟩, List.mem_of_getElem? (i := 983) (by decide +kernel), List.mem_of_getElem? (i := 1148) (by decide +kernel), List.mem_of_getElem? (i := 1149) (by decide +kernel)⟩
theorem lw_p33 : lw_okq (⟨"DividingHeadModel", "takesOf", "(Ljava/lang/String;)I"⟩, 43) := ⟨⟨by decide +kernel, by decide +kernel⟩, List.mem_of_getElem? (i := 983) (by decide +kernel), List.mem_of_getElem? (i := 1153) (by decide +kernel), List.mem_of_getElem? (i := 1154) (by decide +kernel)⟩
theorem lw_p34 : lw_okq (⟨"DividingHeadModel", "takes", "(C)Z"⟩, 43) := ⟨⟨by decide +kernel, by decide +kernel⟩, List.mem_of_getElem? (i := 983) (by decide +kernel), List.mem_of_getElem? (i := 1207) (by decide +kernel), List.mem_of_getElem? (i := 1208) (by decide +kernel)⟩
theorem lw_p35 : lw_okq (⟨"DividingHeadModel", "circlesOf", "(I)I"⟩, 43) := ⟨⟨by decide +kernel, by decide +kernel⟩, List.mem_of_getElem? (i := 983) (by decide +kernel), List.mem_of_getElem? (i := 1214) (by decide +kernel), List.mem_of_getElem? (i := 1215) (by decide +kernel)⟩
theorem lw_p36 : lw_okq (⟨"DividingHeadModel", "putsRead", "(I)I"⟩, 43) := ⟨⟨by decide +kernel, by decide +kernel⟩, List.mem_of_getElem? (i := 983) (by decide +kernel), List.mem_of_getElem? (i := 1218) (by decide +kernel), List.mem_of_getElem? (i := 1219) (by decide +kernel)⟩
theorem lw_p37 : lw_okq (⟨"DividingHeadModel", "done", "(I)I"⟩, 43) := ⟨⟨by decide +kernel, by decide +kernel⟩, List.mem_of_getElem? (i := 983) (by decide +kernel), List.mem_of_getElem? (i := 1222) (by decide +kernel), List.mem_of_getElem? (i := 1223) (by decide +kernel)⟩
theorem lw_p38 : lw_okq (⟨"DividingHeadModel", "circles", "()I"⟩, 43) := ⟨⟨by decide +kernel, by decide +kernel⟩, List.mem_of_getElem? (i := 983) (by decide +kernel), List.mem_of_getElem? (i := 1242) (by decide +kernel), List.mem_of_getElem? (i := 1243) (by decide +kernel)⟩
theorem lw_p39 : lw_okq (⟨"DividingHeadModel", "enters", "(J)V"⟩, 43) := ⟨⟨by decide +kernel, by decide +kernel⟩, List.mem_of_getElem? (i := 983) (by decide +kernel), List.mem_of_getElem? (i := 1246) (by decide +kernel), List.mem_of_getElem? (i := 1247) (by decide +kernel)⟩
theorem lw_p40 : lw_okq (⟨"DividingHeadModel", "holes", "(I)I"⟩, 43) := ⟨⟨by decide +kernel, by decide +kernel⟩, List.mem_of_getElem? (i := 983) (by decide +kernel), List.mem_of_getElem? (i := 1250) (by decide +kernel), List.mem_of_getElem? (i := 1251) (by decide +kernel)⟩
theorem lw_p41 : lw_okq (⟨"DividingHeadModel", "gearMany", "()I"⟩, 43) := ⟨⟨by decide +kernel, by decide +kernel⟩, List.mem_of_getElem? (i := 983) (by decide +kernel), List.mem_of_getElem? (i := 1258) (by decide +kernel), List.mem_of_getElem? (i := 1259) (by decide +kernel)⟩
theorem lw_p42 : lw_okq (⟨"DividingHeadModel", "teeth", "(I)I"⟩, 43) := ⟨⟨by decide +kernel, by decide +kernel⟩, List.mem_of_getElem? (i := 983) (by decide +kernel), List.mem_of_getElem? (i := 1262) (by decide +kernel), List.mem_of_getElem? (i := 1263) (by decide +kernel)⟩
theorem lw_p43 : lw_okq (⟨"DividingHeadModel", "hasSimple", "(II)Z"⟩, 43) := ⟨⟨by decide +kernel, by decide +kernel⟩, List.mem_of_getElem? (i := 983) (by decide +kernel), List.mem_of_getElem? (i := 1275) (by decide +kernel), List.mem_of_getElem? (i := 1276) (by decide +kernel)⟩
theorem lw_p44 : lw_okq (⟨"DividingHeadModel", "worm", "()I"⟩, 43) := ⟨⟨by decide +kernel, by decide +kernel⟩, List.mem_of_getElem? (i := 983) (by decide +kernel), List.mem_of_getElem? (i := 1279) (by decide +kernel), List.mem_of_getElem? (i := 1280) (by decide +kernel)⟩
theorem lw_p45 : lw_okq (⟨"DividingHeadModel", "firstSimple", "(I)I"⟩, 43) := ⟨⟨by decide +kernel, by decide +kernel⟩, List.mem_of_getElem? (i := 983) (by decide +kernel), List.mem_of_getElem? (i := 1283) (by decide +kernel), List.mem_of_getElem? (i := 1284) (by decide +kernel)⟩
theorem lw_p46 : lw_okq (⟨"DividingHeadModel", "allHoles", "(II)I"⟩, 43) := ⟨⟨by decide +kernel, by decide +kernel⟩, List.mem_of_getElem? (i := 983) (by decide +kernel), List.mem_of_getElem? (i := 1287) (by decide +kernel), List.mem_of_getElem? (i := 1288) (by decide +kernel)⟩
theorem lw_p47 : lw_okq (⟨"DividingHeadModel", "findsCompound", "(I)I"⟩, 43) := ⟨⟨by decide +kernel, by decide +kernel⟩, List.mem_of_getElem? (i := 983) (by decide +kernel), List.mem_of_getElem? (i := 1295) (by decide +kernel), List.mem_of_getElem? (i := 1296) (by decide +kernel)⟩
def lw_privs_3 : List (MethodName × Nat) := [(⟨"DividingHeadModel", "digit", "()I"⟩, 43), (⟨"DividingHeadModel", "takesOf", "(Ljava/lang/String;)I"⟩, 43), (⟨"DividingHeadModel", "takes", "(C)Z"⟩, 43), (⟨"DividingHeadModel", "circlesOf", "(I)I"⟩, 43), (⟨"DividingHeadModel", "putsRead", "(I)I"⟩, 43), (⟨"DividingHeadModel", "done", "(I)I"⟩, 43), (⟨"DividingHeadModel", "circles", "()I"⟩, 43), (⟨"DividingHeadModel", "enters", "(J)V"⟩, 43), (⟨"DividingHeadModel", "holes", "(I)I"⟩, 43), (⟨"DividingHeadModel", "gearMany", "()I"⟩, 43), (⟨"DividingHeadModel", "teeth", "(I)I"⟩, 43), (⟨"DividingHeadModel", "hasSimple", "(II)Z"⟩, 43), (⟨"DividingHeadModel", "worm", "()I"⟩, 43), (⟨"DividingHeadModel", "firstSimple", "(I)I"⟩, 43), (⟨"DividingHeadModel", "allHoles", "(II)I"⟩, 43), (⟨"DividingHeadModel", "findsCompound", "(I)I"⟩, 43)]
theorem lw_r3 : ∀ q ∈ lw_privs_3, lw_okq q := List.forall_mem_cons.mpr ⟨lw_p32, List.forall_mem_cons.mpr ⟨lw_p33, List.forall_mem_cons.mpr ⟨lw_p34, List.forall_mem_cons.mpr ⟨lw_p35, List.forall_mem_cons.mpr ⟨lw_p36, List.forall_mem_cons.mpr ⟨lw_p37, List.forall_mem_cons.mpr ⟨lw_p38, List.forall_mem_cons.mpr ⟨lw_p39, List.forall_mem_cons.mpr ⟨lw_p40, List.forall_mem_cons.mpr ⟨lw_p41, List.forall_mem_cons.mpr ⟨lw_p42, List.forall_mem_cons.mpr ⟨lw_p43, List.forall_mem_cons.mpr ⟨lw_p44, List.forall_mem_cons.mpr ⟨lw_p45, List.forall_mem_cons.mpr ⟨lw_p46, List.forall_mem_cons.mpr ⟨lw_p47, fun _ h => absurd h List.not_mem_nil⟩⟩⟩⟩⟩⟩⟩⟩⟩⟩⟩⟩⟩⟩⟩⟩
theorem lw_p48 : lw_okq (⟨"DividingHeadModel", "looksAt", "(IIII)I"⟩, 43) := ⟨⟨by decide +kernel, by decide +kernel⟩, List.mem_of_getElem? (i := 983) (by decide +kernel), List.mem_of_getElem? (i := 1299) (by decide +kernel), List.mem_of_getElem? (i := 1300) (by decide +kernel)⟩
theorem lw_p49 : lw_okq (⟨"DividingHeadModel", "findsDifferential", "(I)Z"⟩, 43) := ⟨⟨by decide +kernel, by decide +kernel⟩, List.mem_of_getElem? (i := 983) (by decide +kernel), List.mem_of_getElem? (i := 1310) (by decide +kernel), List.mem_of_getElem? (i := 1311) (by decide +kernel)⟩
theorem lw_p50 : lw_okq (⟨"DividingHeadModel", "isDifferential", "(II)Z"⟩, 43) := ⟨⟨by decide +kernel, by decide +kernel⟩, List.mem_of_getElem? (i := 983) (by decide +kernel), List.mem_of_getElem? (i := 1314) (by decide +kernel), List.mem_of_getElem? (i := 1315) (by decide +kernel)⟩
theorem lw_p51 : lw_okq (⟨"DividingHeadModel", "findsTrain", "(JJ)Z"⟩, 43) := ⟨⟨by decide +kernel, by decide +kernel⟩, List.mem_of_getElem? (i := 983) (by decide +kernel), List.mem_of_getElem? (i := 1318) (by decide +kernel), List.mem_of_getElem? (i := 1319) (by decide +kernel)⟩
theorem lw_p52 : lw_okq (⟨"DividingHeadModel", "nextTrain", "()Z"⟩, 43) := ⟨⟨by decide +kernel, by decide +kernel⟩, List.mem_of_getElem? (i := 983) (by decide +kernel), List.mem_of_getElem? (i := 1322) (by decide +kernel), List.mem_of_getElem? (i := 1323) (by decide +kernel)⟩
theorem lw_p53 : lw_okq (⟨"DividingHeadModel", "startsTrains", "(I)V"⟩, 43) := ⟨⟨by decide +kernel, by decide +kernel⟩, List.mem_of_getElem? (i := 983) (by decide +kernel), List.mem_of_getElem? (i := 1326) (by decide +kernel), List.mem_of_getElem? (i := 1327) (by decide +kernel)⟩
theorem lw_p54 : lw_okq (⟨"DividingHeadModel", "goesOn", "(I)Z"⟩, 43) := ⟨⟨by decide +kernel, by decide +kernel⟩, List.mem_of_getElem? (i := 983) (by decide +kernel), List.mem_of_getElem? (i := 1330) (by decide +kernel), List.mem_of_getElem? (i := 1331) (by decide +kernel)⟩
theorem lw_p55 : lw_okq (⟨"DividingHeadModel", "isUnlike", "(I)Z"⟩, 43) := ⟨⟨by decide +kernel, by decide +kernel⟩, List.mem_of_getElem? (i := 983) (by decide +kernel), List.mem_of_getElem? (i := 1334) (by decide +kernel), List.mem_of_getElem? (i := 1335) (by decide +kernel)⟩
theorem lw_p56 : lw_okq (⟨"DividingHeadModel", "beginsFour", "()Z"⟩, 43) := ⟨⟨by decide +kernel, by decide +kernel⟩, List.mem_of_getElem? (i := 983) (by decide +kernel), List.mem_of_getElem? (i := 1338) (by decide +kernel), List.mem_of_getElem? (i := 1339) (by decide +kernel)⟩
theorem lw_p57 : lw_okq (⟨"DividingHeadModel", "upper", "()J"⟩, 43) := ⟨⟨by decide +kernel, by decide +kernel⟩, List.mem_of_getElem? (i := 983) (by decide +kernel), List.mem_of_getElem? (i := 1342) (by decide +kernel), List.mem_of_getElem? (i := 1343) (by decide +kernel)⟩
theorem lw_p58 : lw_okq (⟨"DividingHeadModel", "lower", "()J"⟩, 43) := ⟨⟨by decide +kernel, by decide +kernel⟩, List.mem_of_getElem? (i := 983) (by decide +kernel), List.mem_of_getElem? (i := 1346) (by decide +kernel), List.mem_of_getElem? (i := 1347) (by decide +kernel)⟩
theorem lw_p59 : lw_okq (⟨"DividingHeadModel", "finds", "()V"⟩, 43) := ⟨⟨by decide +kernel, by decide +kernel⟩, List.mem_of_getElem? (i := 983) (by decide +kernel), List.mem_of_getElem? (i := 1350) (by decide +kernel), List.mem_of_getElem? (i := 1351) (by decide +kernel)⟩
theorem lw_p60 : lw_okq (⟨"DividingHeadModel", "waysOf", "(I)I"⟩, 43) := ⟨⟨by decide +kernel, by decide +kernel⟩, List.mem_of_getElem? (i := 983) (by decide +kernel), List.mem_of_getElem? (i := 1358) (by decide +kernel), List.mem_of_getElem? (i := 1359) (by decide +kernel)⟩
theorem lw_p61 : lw_okq (⟨"DividingHeadModel", "entersFound", "()V"⟩, 43) := ⟨⟨by decide +kernel, by decide +kernel⟩, List.mem_of_getElem? (i := 983) (by decide +kernel), List.mem_of_getElem? (i := 1373) (by decide +kernel), List.mem_of_getElem? (i := 1374) (by decide +kernel)⟩
theorem lw_p62 : lw_okq (⟨"DividingHeadModel", "findsNearest", "(JJJ)Z"⟩, 43) := ⟨⟨by decide +kernel, by decide +kernel⟩, List.mem_of_getElem? (i := 983) (by decide +kernel), List.mem_of_getElem? (i := 1381) (by decide +kernel), List.mem_of_getElem? (i := 1382) (by decide +kernel)⟩
theorem lw_p63 : lw_okq (⟨"DividingHeadModel", "isNearer", "(JJJJ)Z"⟩, 43) := ⟨⟨by decide +kernel, by decide +kernel⟩, List.mem_of_getElem? (i := 983) (by decide +kernel), List.mem_of_getElem? (i := 1388) (by decide +kernel), List.mem_of_getElem? (i := 1389) (by decide +kernel)⟩
def lw_privs_4 : List (MethodName × Nat) := [(⟨"DividingHeadModel", "looksAt", "(IIII)I"⟩, 43), (⟨"DividingHeadModel", "findsDifferential", "(I)Z"⟩, 43), (⟨"DividingHeadModel", "isDifferential", "(II)Z"⟩, 43), (⟨"DividingHeadModel", "findsTrain", "(JJ)Z"⟩, 43), (⟨"DividingHeadModel", "nextTrain", "()Z"⟩, 43), (⟨"DividingHeadModel", "startsTrains", "(I)V"⟩, 43), (⟨"DividingHeadModel", "goesOn", "(I)Z"⟩, 43), (⟨"DividingHeadModel", "isUnlike", "(I)Z"⟩, 43), (⟨"DividingHeadModel", "beginsFour", "()Z"⟩, 43), (⟨"DividingHeadModel", "upper", "()J"⟩, 43), (⟨"DividingHeadModel", "lower", "()J"⟩, 43), (⟨"DividingHeadModel", "finds", "()V"⟩, 43), (⟨"DividingHeadModel", "waysOf", "(I)I"⟩, 43), (⟨"DividingHeadModel", "entersFound", "()V"⟩, 43), (⟨"DividingHeadModel", "findsNearest", "(JJJ)Z"⟩, 43), (⟨"DividingHeadModel", "isNearer", "(JJJJ)Z"⟩, 43)]
theorem lw_r4 : ∀ q ∈ lw_privs_4, lw_okq q := List.forall_mem_cons.mpr ⟨lw_p48, List.forall_mem_cons.mpr ⟨lw_p49, List.forall_mem_cons.mpr ⟨lw_p50, List.forall_mem_cons.mpr ⟨lw_p51, List.forall_mem_cons.mpr ⟨lw_p52, List.forall_mem_cons.mpr ⟨lw_p53, List.forall_mem_cons.mpr ⟨lw_p54, List.forall_mem_cons.mpr ⟨lw_p55, List.forall_mem_cons.mpr ⟨lw_p56, List.forall_mem_cons.mpr ⟨lw_p57, List.forall_mem_cons.mpr ⟨lw_p58, List.forall_mem_cons.mpr ⟨lw_p59, List.forall_mem_cons.mpr ⟨lw_p60, List.forall_mem_cons.mpr ⟨lw_p61, List.forall_mem_cons.mpr ⟨lw_p62, List.forall_mem_cons.mpr ⟨lw_p63, fun _ h => absurd h List.not_mem_nil⟩⟩⟩⟩⟩⟩⟩⟩⟩⟩⟩⟩⟩⟩⟩⟩
theorem lw_p64 : lw_okq (⟨"DividingHeadModel", "entersNear", "()V"⟩, 43) := ⟨⟨by decide +kernel, by decide +kernel⟩, List.mem_of_getElem? (i := 983) (by decide +kernel), List.mem_of_getElem? (i := 1392) (by decide +kernel), List.mem_of_getElem? (i := 1393) (by decide +kernel)⟩
theorem lw_p65 : lw_okq (⟨"DividingHeadModel", "entersPart", "(JJ)V"⟩, 43) := ⟨⟨by decide +kernel, by decide +kernel⟩, List.mem_of_getElem? (i := 983) (by decide +kernel), List.mem_of_getElem? (i := 1396) (by decide +kernel), List.mem_of_getElem? (i := 1397) (by decide +kernel)⟩
theorem lw_p66 : lw_okq (⟨"DividingHeadModel", "sorts", "()V"⟩, 43) := ⟨⟨by decide +kernel, by decide +kernel⟩, List.mem_of_getElem? (i := 983) (by decide +kernel), List.mem_of_getElem? (i := 1410) (by decide +kernel), List.mem_of_getElem? (i := 1411) (by decide +kernel)⟩
theorem lw_p67 : lw_okq (⟨"DividingHeadModel", "sinks", "(II)V"⟩, 43) := ⟨⟨by decide +kernel, by decide +kernel⟩, List.mem_of_getElem? (i := 983) (by decide +kernel), List.mem_of_getElem? (i := 1414) (by decide +kernel), List.mem_of_getElem? (i := 1415) (by decide +kernel)⟩
theorem lw_p68 : lw_okq (⟨"DividingHeadModel", "stepsTo", "(JJZ)I"⟩, 43) := ⟨⟨by decide +kernel, by decide +kernel⟩, List.mem_of_getElem? (i := 983) (by decide +kernel), List.mem_of_getElem? (i := 1427) (by decide +kernel), List.mem_of_getElem? (i := 1428) (by decide +kernel)⟩
theorem lw_p69 : lw_okq (⟨"DividingHeadModel", "usesOne", "(I)I"⟩, 43) := ⟨⟨by decide +kernel, by decide +kernel⟩, List.mem_of_getElem? (i := 983) (by decide +kernel), List.mem_of_getElem? (i := 1445) (by decide +kernel), List.mem_of_getElem? (i := 1446) (by decide +kernel)⟩
theorem lw_p70 : lw_okq (⟨"DividingHeadModel", "gearedOne", "(IIIII)I"⟩, 43) := ⟨⟨by decide +kernel, by decide +kernel⟩, List.mem_of_getElem? (i := 983) (by decide +kernel), List.mem_of_getElem? (i := 1453) (by decide +kernel), List.mem_of_getElem? (i := 1454) (by decide +kernel)⟩
theorem lw_p71 : lw_okq (⟨"DividingHeadModel", "isGear", "(I)Z"⟩, 43) := ⟨⟨by decide +kernel, by decide +kernel⟩, List.mem_of_getElem? (i := 983) (by decide +kernel), List.mem_of_getElem? (i := 1457) (by decide +kernel), List.mem_of_getElem? (i := 1458) (by decide +kernel)⟩
theorem lw_p72 : lw_okq (⟨"DividingHeadModel", "ungearedOne", "()I"⟩, 43) := ⟨⟨by decide +kernel, by decide +kernel⟩, List.mem_of_getElem? (i := 983) (by decide +kernel), List.mem_of_getElem? (i := 1465) (by decide +kernel), List.mem_of_getElem? (i := 1466) (by decide +kernel)⟩
theorem lw_p73 : lw_okq (⟨"DividingHeadModel", "turnsOne", "(III)I"⟩, 43) := ⟨⟨by decide +kernel, by decide +kernel⟩, List.mem_of_getElem? (i := 983) (by decide +kernel), List.mem_of_getElem? (i := 1473) (by decide +kernel), List.mem_of_getElem? (i := 1474) (by decide +kernel)⟩
theorem lw_p74 : lw_okq (⟨"DividingHeadModel", "goesBy", "(IJ)I"⟩, 43) := ⟨⟨by decide +kernel, by decide +kernel⟩, List.mem_of_getElem? (i := 983) (by decide +kernel), List.mem_of_getElem? (i := 1478) (by decide +kernel), List.mem_of_getElem? (i := 1479) (by decide +kernel)⟩
theorem lw_p75 : lw_okq (⟨"DividingHeadModel", "laysNext", "(IJ)Z"⟩, 43) := ⟨⟨by decide +kernel, by decide +kernel⟩, List.mem_of_getElem? (i := 983) (by decide +kernel), List.mem_of_getElem? (i := 1482) (by decide +kernel), List.mem_of_getElem? (i := 1483) (by decide +kernel)⟩
theorem lw_p76 : lw_okq (⟨"DividingHeadModel", "laysStep", "(I)V"⟩, 43) := ⟨⟨by decide +kernel, by decide +kernel⟩, List.mem_of_getElem? (i := 983) (by decide +kernel), List.mem_of_getElem? (i := 1486) (by decide +kernel), List.mem_of_getElem? (i := 1487) (by decide +kernel)⟩
theorem lw_p77 : lw_okq (⟨"DividingHeadModel", "trainLower", "()J"⟩, 43) := ⟨⟨by decide +kernel, by decide +kernel⟩, List.mem_of_getElem? (i := 983) (by decide +kernel), List.mem_of_getElem? (i := 1490) (by decide +kernel), List.mem_of_getElem? (i := 1491) (by decide +kernel)⟩
theorem lw_p78 : lw_okq (⟨"DividingHeadModel", "trainUpper", "()J"⟩, 43) := ⟨⟨by decide +kernel, by decide +kernel⟩, List.mem_of_getElem? (i := 983) (by decide +kernel), List.mem_of_getElem? (i := 1494) (by decide +kernel), List.mem_of_getElem? (i := 1495) (by decide +kernel)⟩
theorem lw_p79 : lw_okq (⟨"DividingHeadModel", "cutsOne", "()I"⟩, 43) := ⟨⟨by decide +kernel, by decide +kernel⟩, List.mem_of_getElem? (i := 983) (by decide +kernel), List.mem_of_getElem? (i := 1504) (by decide +kernel), List.mem_of_getElem? (i := 1505) (by decide +kernel)⟩
def lw_privs_5 : List (MethodName × Nat) := [(⟨"DividingHeadModel", "entersNear", "()V"⟩, 43), (⟨"DividingHeadModel", "entersPart", "(JJ)V"⟩, 43), (⟨"DividingHeadModel", "sorts", "()V"⟩, 43), (⟨"DividingHeadModel", "sinks", "(II)V"⟩, 43), (⟨"DividingHeadModel", "stepsTo", "(JJZ)I"⟩, 43), (⟨"DividingHeadModel", "usesOne", "(I)I"⟩, 43), (⟨"DividingHeadModel", "gearedOne", "(IIIII)I"⟩, 43), (⟨"DividingHeadModel", "isGear", "(I)Z"⟩, 43), (⟨"DividingHeadModel", "ungearedOne", "()I"⟩, 43), (⟨"DividingHeadModel", "turnsOne", "(III)I"⟩, 43), (⟨"DividingHeadModel", "goesBy", "(IJ)I"⟩, 43), (⟨"DividingHeadModel", "laysNext", "(IJ)Z"⟩, 43), (⟨"DividingHeadModel", "laysStep", "(I)V"⟩, 43), (⟨"DividingHeadModel", "trainLower", "()J"⟩, 43), (⟨"DividingHeadModel", "trainUpper", "()J"⟩, 43), (⟨"DividingHeadModel", "cutsOne", "()I"⟩, 43)]
theorem lw_r5 : ∀ q ∈ lw_privs_5, lw_okq q := List.forall_mem_cons.mpr ⟨lw_p64, List.forall_mem_cons.mpr ⟨lw_p65, List.forall_mem_cons.mpr ⟨lw_p66, List.forall_mem_cons.mpr ⟨lw_p67, List.forall_mem_cons.mpr ⟨lw_p68, List.forall_mem_cons.mpr ⟨lw_p69, List.forall_mem_cons.mpr ⟨lw_p70, List.forall_mem_cons.mpr ⟨lw_p71, List.forall_mem_cons.mpr ⟨lw_p72, List.forall_mem_cons.mpr ⟨lw_p73, List.forall_mem_cons.mpr ⟨lw_p74, List.forall_mem_cons.mpr ⟨lw_p75, List.forall_mem_cons.mpr ⟨lw_p76, List.forall_mem_cons.mpr ⟨lw_p77, List.forall_mem_cons.mpr ⟨lw_p78, List.forall_mem_cons.mpr ⟨lw_p79, fun _ h => absurd h List.not_mem_nil⟩⟩⟩⟩⟩⟩⟩⟩⟩⟩⟩⟩⟩⟩⟩⟩
theorem lw_p80 : lw_okq (⟨"DividingHeadModel", "markAt", "(JJ)I"⟩, 43) := ⟨⟨by decide +kernel, by decide +kernel⟩, List.mem_of_getElem? (i := 983) (by decide +kernel), List.mem_of_getElem? (i := 1508) (by decide +kernel), List.mem_of_getElem? (i := 1509) (by decide +kernel)⟩
theorem lw_p81 : lw_okq (⟨"DividingHeadModel", "marks", "()I"⟩, 43) := ⟨⟨by decide +kernel, by decide +kernel⟩, List.mem_of_getElem? (i := 983) (by decide +kernel), List.mem_of_getElem? (i := 1512) (by decide +kernel), List.mem_of_getElem? (i := 1513) (by decide +kernel)⟩
theorem lw_p82 : lw_okq (⟨"DividingHeadModel", "markUp", "(I)J"⟩, 43) := ⟨⟨by decide +kernel, by decide +kernel⟩, List.mem_of_getElem? (i := 983) (by decide +kernel), List.mem_of_getElem? (i := 1516) (by decide +kernel), List.mem_of_getElem? (i := 1517) (by decide +kernel)⟩
theorem lw_p83 : lw_okq (⟨"DividingHeadModel", "markLow", "(I)J"⟩, 43) := ⟨⟨by decide +kernel, by decide +kernel⟩, List.mem_of_getElem? (i := 983) (by decide +kernel), List.mem_of_getElem? (i := 1520) (by decide +kernel), List.mem_of_getElem? (i := 1521) (by decide +kernel)⟩
theorem lw_p84 : lw_okq (⟨"DividingHeadModel", "wipesOne", "()I"⟩, 43) := ⟨⟨by decide +kernel, by decide +kernel⟩, List.mem_of_getElem? (i := 983) (by decide +kernel), List.mem_of_getElem? (i := 1528) (by decide +kernel), List.mem_of_getElem? (i := 1529) (by decide +kernel)⟩
theorem lw_p85 : lw_okq (⟨"DividingHeadModel", "hasWay", "(II)Z"⟩, 43) := ⟨⟨by decide +kernel, by decide +kernel⟩, List.mem_of_getElem? (i := 983) (by decide +kernel), List.mem_of_getElem? (i := 1537) (by decide +kernel), List.mem_of_getElem? (i := 1538) (by decide +kernel)⟩
theorem lw_p86 : lw_okq (⟨"DividingHeadModel", "stepsBy", "(II)V"⟩, 43) := ⟨⟨by decide +kernel, by decide +kernel⟩, List.mem_of_getElem? (i := 983) (by decide +kernel), List.mem_of_getElem? (i := 1541) (by decide +kernel), List.mem_of_getElem? (i := 1542) (by decide +kernel)⟩
theorem lw_p87 : lw_okq (⟨"DividingHeadModel", "laysGaps", "()I"⟩, 43) := ⟨⟨by decide +kernel, by decide +kernel⟩, List.mem_of_getElem? (i := 983) (by decide +kernel), List.mem_of_getElem? (i := 1545) (by decide +kernel), List.mem_of_getElem? (i := 1546) (by decide +kernel)⟩
theorem lw_p88 : lw_okq (⟨"DividingHeadModel", "laysGap", "(I)V"⟩, 43) := ⟨⟨by decide +kernel, by decide +kernel⟩, List.mem_of_getElem? (i := 983) (by decide +kernel), List.mem_of_getElem? (i := 1549) (by decide +kernel), List.mem_of_getElem? (i := 1550) (by decide +kernel)⟩
theorem lw_p89 : lw_okq (⟨"DividingHeadModel", "readsAct", "(I)Z"⟩, 43) := ⟨⟨by decide +kernel, by decide +kernel⟩, List.mem_of_getElem? (i := 983) (by decide +kernel), List.mem_of_getElem? (i := 1576) (by decide +kernel), List.mem_of_getElem? (i := 1577) (by decide +kernel)⟩
theorem lw_p90 : lw_okq (⟨"DividingHeadModel", "doesAct", "(I)I"⟩, 43) := ⟨⟨by decide +kernel, by decide +kernel⟩, List.mem_of_getElem? (i := 983) (by decide +kernel), List.mem_of_getElem? (i := 1582) (by decide +kernel), List.mem_of_getElem? (i := 1583) (by decide +kernel)⟩
theorem lw_p91 : lw_okq (⟨"DividingHeadModel", "draws", "(I)I"⟩, 43) := ⟨⟨by decide +kernel, by decide +kernel⟩, List.mem_of_getElem? (i := 983) (by decide +kernel), List.mem_of_getElem? (i := 1591) (by decide +kernel), List.mem_of_getElem? (i := 1592) (by decide +kernel)⟩
def lw_privs_6 : List (MethodName × Nat) := [(⟨"DividingHeadModel", "markAt", "(JJ)I"⟩, 43), (⟨"DividingHeadModel", "marks", "()I"⟩, 43), (⟨"DividingHeadModel", "markUp", "(I)J"⟩, 43), (⟨"DividingHeadModel", "markLow", "(I)J"⟩, 43), (⟨"DividingHeadModel", "wipesOne", "()I"⟩, 43), (⟨"DividingHeadModel", "hasWay", "(II)Z"⟩, 43), (⟨"DividingHeadModel", "stepsBy", "(II)V"⟩, 43), (⟨"DividingHeadModel", "laysGaps", "()I"⟩, 43), (⟨"DividingHeadModel", "laysGap", "(I)V"⟩, 43), (⟨"DividingHeadModel", "readsAct", "(I)Z"⟩, 43), (⟨"DividingHeadModel", "doesAct", "(I)I"⟩, 43), (⟨"DividingHeadModel", "draws", "(I)I"⟩, 43)]
theorem lw_r6 : ∀ q ∈ lw_privs_6, lw_okq q := List.forall_mem_cons.mpr ⟨lw_p80, List.forall_mem_cons.mpr ⟨lw_p81, List.forall_mem_cons.mpr ⟨lw_p82, List.forall_mem_cons.mpr ⟨lw_p83, List.forall_mem_cons.mpr ⟨lw_p84, List.forall_mem_cons.mpr ⟨lw_p85, List.forall_mem_cons.mpr ⟨lw_p86, List.forall_mem_cons.mpr ⟨lw_p87, List.forall_mem_cons.mpr ⟨lw_p88, List.forall_mem_cons.mpr ⟨lw_p89, List.forall_mem_cons.mpr ⟨lw_p90, List.forall_mem_cons.mpr ⟨lw_p91, fun _ h => absurd h List.not_mem_nil⟩⟩⟩⟩⟩⟩⟩⟩⟩⟩⟩⟩
def lw_privs : List (MethodName × Nat) := lw_privs_1 ++ (lw_privs_2 ++ (lw_privs_3 ++ (lw_privs_4 ++ (lw_privs_5 ++ (lw_privs_6)))))
def lw_tbl : List Cond := k2_sels lw_privs ++ tables_1
theorem lw_privs_ok : ∀ q ∈ lw_privs, lw_okq q := by
  show ∀ q ∈ lw_privs_1 ++ (lw_privs_2 ++ (lw_privs_3 ++ (lw_privs_4 ++ (lw_privs_5 ++ (lw_privs_6))))), lw_okq q
  exact List.forall_mem_append.mpr ⟨lw_r1, List.forall_mem_append.mpr ⟨lw_r2, List.forall_mem_append.mpr ⟨lw_r3, List.forall_mem_append.mpr ⟨lw_r4, List.forall_mem_append.mpr ⟨lw_r5, lw_r6⟩⟩⟩⟩⟩
def RX0 : String := "DividingHead$CompoundWay"
def TX0 : u_T := fun k => match k with
  | 0 => ("DividingHead$CompoundWay", "sum", "I", false)
  | 1 => ("DividingHead$CompoundWay", "first", "I", false)
  | 2 => ("DividingHead$CompoundWay", "second", "I", false)
  | 3 => ("DividingHead$CompoundWay", "turns", "I", false)
  | 4 => ("DividingHead$CompoundWay", "a", "I", false)
  | _ => ("DividingHead$CompoundWay", "b", "I", false)
def tyX0 : Nat → FieldType := fun k => match k with
  | 0 => .int
  | 1 => .int
  | 2 => .int
  | 3 => .int
  | 4 => .int
  | _ => .int
theorem nmX0 : ∀ a, a < 6 → ∀ b, b < 6 → a ≠ b → (TX0 a).2.1 ≠ (TX0 b).2.1 := by decide +kernel
theorem tyX0_ok : ∀ k, k < 6 → parseFieldDescriptor (TX0 k).2.2.1 = some (tyX0 k) := by decide +kernel
abbrev cX0_init : ByteArray := prog_2_method_1_code
def yX0_init : MethodName := ⟨RX0, "<init>", "()V"⟩
abbrev cX0_look : ByteArray := prog_2_method_2_code
def yX0_look : MethodName := ⟨RX0, "look", "(LDividingHead$Head;I)V"⟩
abbrev cX0_tryPair : ByteArray := prog_2_method_3_code
def yX0_tryPair : MethodName := ⟨RX0, "tryPair", "(LDividingHead$Head;III)V"⟩
abbrev cX0_offer : ByteArray := prog_2_method_4_code
def yX0_offer : MethodName := ⟨RX0, "offer", "(III)Z"⟩
abbrev cX0_take : ByteArray := prog_2_method_5_code
def yX0_take : MethodName := ⟨RX0, "take", "(III)Z"⟩
def RX1 : String := "DividingHead$DifferentialWay"
def TX1 : u_T := fun k => match k with
  | 0 => ("DividingHead$DifferentialWay", "nearWay", "LDividingHead$SimpleWay;", true)
  | 1 => ("DividingHead$DifferentialWay", "number", "I", false)
  | 2 => ("DividingHead$DifferentialWay", "entry", "I", false)
  | _ => ("DividingHead$DifferentialWay", "side", "I", false)
def tyX1 : Nat → FieldType := fun k => match k with
  | 0 => .object "DividingHead$SimpleWay"
  | 1 => .int
  | 2 => .int
  | _ => .int
theorem nmX1 : ∀ a, a < 4 → ∀ b, b < 4 → a ≠ b → (TX1 a).2.1 ≠ (TX1 b).2.1 := by decide +kernel
theorem tyX1_ok : ∀ k, k < 4 → parseFieldDescriptor (TX1 k).2.2.1 = some (tyX1 k) := by decide +kernel
abbrev cX1_init : ByteArray := prog_3_method_1_code
def yX1_init : MethodName := ⟨RX1, "<init>", "()V"⟩
abbrev cX1_look : ByteArray := prog_3_method_2_code
def yX1_look : MethodName := ⟨RX1, "look", "(LDividingHead$Head;LDividingHead$Shelf;I)V"⟩
abbrev cX1_tryNumber : ByteArray := prog_3_method_3_code
def yX1_tryNumber : MethodName := ⟨RX1, "tryNumber", "(LDividingHead$Head;LDividingHead$Shelf;III)V"⟩
def RX2 : String := "DividingHead$Fraction"
def TX2 : u_T := fun k => match k with
  | 0 => ("DividingHead$Fraction", "up", "J", false)
  | _ => ("DividingHead$Fraction", "low", "J", false)
def tyX2 : Nat → FieldType := fun k => match k with
  | 0 => .long
  | _ => .long
theorem nmX2 : ∀ a, a < 2 → ∀ b, b < 2 → a ≠ b → (TX2 a).2.1 ≠ (TX2 b).2.1 := by decide +kernel
theorem tyX2_ok : ∀ k, k < 2 → parseFieldDescriptor (TX2 k).2.2.1 = some (tyX2 k) := by decide +kernel
abbrev cX2_init : ByteArray := prog_4_method_1_code
def yX2_init : MethodName := ⟨RX2, "<init>", "()V"⟩
abbrev cX2_put : ByteArray := prog_4_method_2_code
def yX2_put : MethodName := ⟨RX2, "put", "(JJ)V"⟩
abbrev cX2_copyFrom : ByteArray := prog_4_method_3_code
def yX2_copyFrom : MethodName := ⟨RX2, "copyFrom", "(LDividingHead$Fraction;)V"⟩
def RX3 : String := "DividingHead$GapList"
def TX3 : u_T := fun k => match k with
  | 0 => ("DividingHead$GapList", "kinds", "I", false)
  | 1 => ("DividingHead$GapList", "gap", "LDividingHead$Fraction;", true)
  | 2 => ("DividingHead$GapList", "ups", "[J", true)
  | _ => ("DividingHead$GapList", "lows", "[J", true)
def tyX3 : Nat → FieldType := fun k => match k with
  | 0 => .int
  | 1 => .object "DividingHead$Fraction"
  | 2 => .array .long
  | _ => .array .long
theorem nmX3 : ∀ a, a < 4 → ∀ b, b < 4 → a ≠ b → (TX3 a).2.1 ≠ (TX3 b).2.1 := by decide +kernel
theorem tyX3_ok : ∀ k, k < 4 → parseFieldDescriptor (TX3 k).2.2.1 = some (tyX3 k) := by decide +kernel
abbrev cX3_init : ByteArray := prog_5_method_1_code
def yX3_init : MethodName := ⟨RX3, "<init>", "()V"⟩
abbrev cX3_look : ByteArray := prog_5_method_2_code
def yX3_look : MethodName := ⟨RX3, "look", "(LDividingHead$Head;)V"⟩
abbrev cX3_holdsGap : ByteArray := prog_5_method_3_code
def yX3_holdsGap : MethodName := ⟨RX3, "holdsGap", "()Z"⟩
abbrev cX3_tellExtreme : ByteArray := prog_5_method_4_code
def yX3_tellExtreme : MethodName := ⟨RX3, "tellExtreme", "(LDividingHead$Told;I)V"⟩
def RX4 : String := "DividingHead$Head"
def TX4 : u_T := fun k => match k with
  | 0 => ("DividingHead$Head", "worm", "I", false)
  | 1 => ("DividingHead$Head", "pitch", "I", false)
  | 2 => ("DividingHead$Head", "plateTotal", "I", false)
  | 3 => ("DividingHead$Head", "circleTotal", "I", false)
  | 4 => ("DividingHead$Head", "gearTotal", "I", false)
  | 5 => ("DividingHead$Head", "onCircle", "I", false)
  | 6 => ("DividingHead$Head", "wheelTotal", "I", false)
  | 7 => ("DividingHead$Head", "markTotal", "I", false)
  | 8 => ("DividingHead$Head", "ratio", "LDividingHead$Fraction;", true)
  | 9 => ("DividingHead$Head", "place", "LDividingHead$Fraction;", true)
  | 10 => ("DividingHead$Head", "next", "LDividingHead$Fraction;", true)
  | 11 => ("DividingHead$Head", "holes", "[I", true)
  | 12 => ("DividingHead$Head", "plateNumbers", "[I", true)
  | 13 => ("DividingHead$Head", "teeth", "[I", true)
  | 14 => ("DividingHead$Head", "markUps", "[J", true)
  | 15 => ("DividingHead$Head", "markLows", "[J", true)
  | _ => ("DividingHead$Head", "side", "I", false)
def tyX4 : Nat → FieldType := fun k => match k with
  | 0 => .int
  | 1 => .int
  | 2 => .int
  | 3 => .int
  | 4 => .int
  | 5 => .int
  | 6 => .int
  | 7 => .int
  | 8 => .object "DividingHead$Fraction"
  | 9 => .object "DividingHead$Fraction"
  | 10 => .object "DividingHead$Fraction"
  | 11 => .array .int
  | 12 => .array .int
  | 13 => .array .int
  | 14 => .array .long
  | 15 => .array .long
  | _ => .int
theorem nmX4 : ∀ a, a < 17 → ∀ b, b < 17 → a ≠ b → (TX4 a).2.1 ≠ (TX4 b).2.1 := by decide +kernel
theorem tyX4_ok : ∀ k, k < 17 → parseFieldDescriptor (TX4 k).2.2.1 = some (tyX4 k) := by decide +kernel
abbrev cX4_init : ByteArray := prog_6_method_1_code
def yX4_init : MethodName := ⟨RX4, "<init>", "()V"⟩
abbrev cX4_fillAtFirst : ByteArray := prog_6_method_2_code
def yX4_fillAtFirst : MethodName := ⟨RX4, "fillAtFirst", "()V"⟩
abbrev cX4_copyFrom : ByteArray := prog_6_method_3_code
def yX4_copyFrom : MethodName := ⟨RX4, "copyFrom", "(LDividingHead$Head;)V"⟩
abbrev cX4_dropPlates : ByteArray := prog_6_method_4_code
def yX4_dropPlates : MethodName := ⟨RX4, "dropPlates", "()V"⟩
abbrev cX4_addCircle : ByteArray := prog_6_method_5_code
def yX4_addCircle : MethodName := ⟨RX4, "addCircle", "(I)V"⟩
abbrev cX4_addGear : ByteArray := prog_6_method_6_code
def yX4_addGear : MethodName := ⟨RX4, "addGear", "(I)V"⟩
abbrev cX4_atFirst : ByteArray := prog_6_method_7_code
def yX4_atFirst : MethodName := ⟨RX4, "atFirst", "()V"⟩
abbrev cX4_isCircle : ByteArray := prog_6_method_8_code
def yX4_isCircle : MethodName := ⟨RX4, "isCircle", "(I)Z"⟩
abbrev cX4_isGear : ByteArray := prog_6_method_9_code
def yX4_isGear : MethodName := ⟨RX4, "isGear", "(I)Z"⟩
abbrev cX4_isMark : ByteArray := prog_6_method_10_code
def yX4_isMark : MethodName := ⟨RX4, "isMark", "(I)Z"⟩
abbrev cX4_holesOf : ByteArray := prog_6_method_11_code
def yX4_holesOf : MethodName := ⟨RX4, "holesOf", "(I)I"⟩
abbrev cX4_plateOf : ByteArray := prog_6_method_12_code
def yX4_plateOf : MethodName := ⟨RX4, "plateOf", "(I)I"⟩
abbrev cX4_teethOf : ByteArray := prog_6_method_13_code
def yX4_teethOf : MethodName := ⟨RX4, "teethOf", "(I)I"⟩
abbrev cX4_markUp : ByteArray := prog_6_method_14_code
def yX4_markUp : MethodName := ⟨RX4, "markUp", "(I)J"⟩
abbrev cX4_markLow : ByteArray := prog_6_method_15_code
def yX4_markLow : MethodName := ⟨RX4, "markLow", "(I)J"⟩
abbrev cX4_setTo : ByteArray := prog_6_method_16_code
def yX4_setTo : MethodName := ⟨RX4, "setTo", "(II)I"⟩
abbrev cX4_choose : ByteArray := prog_6_method_17_code
def yX4_choose : MethodName := ⟨RX4, "choose", "(I)I"⟩
abbrev cX4_putIn : ByteArray := prog_6_method_18_code
def yX4_putIn : MethodName := ⟨RX4, "putIn", "(IIIII)I"⟩
abbrev cX4_isPair : ByteArray := prog_6_method_19_code
def yX4_isPair : MethodName := ⟨RX4, "isPair", "(II)Z"⟩
abbrev cX4_takeOut : ByteArray := prog_6_method_20_code
def yX4_takeOut : MethodName := ⟨RX4, "takeOut", "()I"⟩
abbrev cX4_wind : ByteArray := prog_6_method_21_code
def yX4_wind : MethodName := ⟨RX4, "wind", "(III)I"⟩
abbrev cX4_stepOfHole : ByteArray := prog_6_method_22_code
def yX4_stepOfHole : MethodName := ⟨RX4, "stepOfHole", "(LDividingHead$Fraction;)V"⟩
abbrev cX4_scribe : ByteArray := prog_6_method_23_code
def yX4_scribe : MethodName := ⟨RX4, "scribe", "()I"⟩
abbrev cX4_compareMark : ByteArray := prog_6_method_24_code
def yX4_compareMark : MethodName := ⟨RX4, "compareMark", "(I)I"⟩
abbrev cX4_wipeAll : ByteArray := prog_6_method_25_code
def yX4_wipeAll : MethodName := ⟨RX4, "wipeAll", "()I"⟩
abbrev cX4_gapBehind : ByteArray := prog_6_method_26_code
def yX4_gapBehind : MethodName := ⟨RX4, "gapBehind", "(ILDividingHead$Fraction;)V"⟩
abbrev cX4_wayToMark : ByteArray := prog_6_method_27_code
def yX4_wayToMark : MethodName := ⟨RX4, "wayToMark", "(ILDividingHead$Fraction;)V"⟩
def RX5 : String := "DividingHead$Shelf"
def TX5 : u_T := fun k => match k with
  | 0 => ("DividingHead$Shelf", "size", "I", false)
  | 1 => ("DividingHead$Shelf", "gearTotal", "I", false)
  | 2 => ("DividingHead$Shelf", "teeth", "[I", true)
  | 3 => ("DividingHead$Shelf", "ups", "[I", true)
  | 4 => ("DividingHead$Shelf", "lows", "[I", true)
  | 5 => ("DividingHead$Shelf", "wheels", "[I", true)
  | _ => ("DividingHead$Shelf", "slots", "[I", true)
def tyX5 : Nat → FieldType := fun k => match k with
  | 0 => .int
  | 1 => .int
  | 2 => .array .int
  | 3 => .array .int
  | 4 => .array .int
  | 5 => .array .int
  | _ => .array .int
theorem nmX5 : ∀ a, a < 7 → ∀ b, b < 7 → a ≠ b → (TX5 a).2.1 ≠ (TX5 b).2.1 := by decide +kernel
theorem tyX5_ok : ∀ k, k < 7 → parseFieldDescriptor (TX5 k).2.2.1 = some (tyX5 k) := by decide +kernel
abbrev cX5_init : ByteArray := prog_7_method_1_code
def yX5_init : MethodName := ⟨RX5, "<init>", "()V"⟩
abbrev cX5_fit : ByteArray := prog_7_method_2_code
def yX5_fit : MethodName := ⟨RX5, "fit", "(LDividingHead$Head;)V"⟩
abbrev cX5_tooth : ByteArray := prog_7_method_3_code
def yX5_tooth : MethodName := ⟨RX5, "tooth", "(I)I"⟩
abbrev cX5_addTwos : ByteArray := prog_7_method_4_code
def yX5_addTwos : MethodName := ⟨RX5, "addTwos", "()V"⟩
abbrev cX5_addFours : ByteArray := prog_7_method_5_code
def yX5_addFours : MethodName := ⟨RX5, "addFours", "()V"⟩
abbrev cX5_pack : ByteArray := prog_7_method_6_code
def yX5_pack : MethodName := ⟨RX5, "pack", "(IIII)I"⟩
abbrev cX5_add : ByteArray := prog_7_method_7_code
def yX5_add : MethodName := ⟨RX5, "add", "(III)V"⟩
abbrev cX5_slotOf : ByteArray := prog_7_method_8_code
def yX5_slotOf : MethodName := ⟨RX5, "slotOf", "(II)I"⟩
abbrev cX5_find : ByteArray := prog_7_method_9_code
def yX5_find : MethodName := ⟨RX5, "find", "(JJ)I"⟩
abbrev cX5_up : ByteArray := prog_7_method_10_code
def yX5_up : MethodName := ⟨RX5, "up", "(I)I"⟩
abbrev cX5_low : ByteArray := prog_7_method_11_code
def yX5_low : MethodName := ⟨RX5, "low", "(I)I"⟩
abbrev cX5_wheel : ByteArray := prog_7_method_12_code
def yX5_wheel : MethodName := ⟨RX5, "wheel", "(II)I"⟩
abbrev cX5_wheelTotal : ByteArray := prog_7_method_13_code
def yX5_wheelTotal : MethodName := ⟨RX5, "wheelTotal", "(I)I"⟩
abbrev cX5_upper : ByteArray := prog_7_method_14_code
def yX5_upper : MethodName := ⟨RX5, "upper", "(JI)J"⟩
abbrev cX5_lower : ByteArray := prog_7_method_15_code
def yX5_lower : MethodName := ⟨RX5, "lower", "(JI)J"⟩
abbrev cX5_closest : ByteArray := prog_7_method_16_code
def yX5_closest : MethodName := ⟨RX5, "closest", "(JJJ)I"⟩
abbrev cX5_extreme : ByteArray := prog_7_method_17_code
def yX5_extreme : MethodName := ⟨RX5, "extreme", "(I)I"⟩
def RX6 : String := "DividingHead$SimpleWay"
def TX6 : u_T := fun k => match k with
  | 0 => ("DividingHead$SimpleWay", "many", "I", false)
  | 1 => ("DividingHead$SimpleWay", "first", "I", false)
  | 2 => ("DividingHead$SimpleWay", "turns", "I", false)
  | _ => ("DividingHead$SimpleWay", "holes", "I", false)
def tyX6 : Nat → FieldType := fun k => match k with
  | 0 => .int
  | 1 => .int
  | 2 => .int
  | _ => .int
theorem nmX6 : ∀ a, a < 4 → ∀ b, b < 4 → a ≠ b → (TX6 a).2.1 ≠ (TX6 b).2.1 := by decide +kernel
theorem tyX6_ok : ∀ k, k < 4 → parseFieldDescriptor (TX6 k).2.2.1 = some (tyX6 k) := by decide +kernel
abbrev cX6_init : ByteArray := prog_8_method_1_code
def yX6_init : MethodName := ⟨RX6, "<init>", "()V"⟩
abbrev cX6_look : ByteArray := prog_8_method_2_code
def yX6_look : MethodName := ⟨RX6, "look", "(LDividingHead$Head;I)V"⟩
def RX7 : String := "DividingHead$Text"
def TX7 : u_T := fun k => match k with
  | 0 => ("DividingHead$Text", "signs", "[C", true)
  | _ => ("DividingHead$Text", "size", "I", false)
def tyX7 : Nat → FieldType := fun k => match k with
  | 0 => .array .char
  | _ => .int
theorem nmX7 : ∀ a, a < 2 → ∀ b, b < 2 → a ≠ b → (TX7 a).2.1 ≠ (TX7 b).2.1 := by decide +kernel
theorem tyX7_ok : ∀ k, k < 2 → parseFieldDescriptor (TX7 k).2.2.1 = some (tyX7 k) := by decide +kernel
abbrev cX7_init : ByteArray := prog_9_method_1_code
def yX7_init : MethodName := ⟨RX7, "<init>", "()V"⟩
abbrev cX7_addFour : ByteArray := prog_9_method_2_code
def yX7_addFour : MethodName := ⟨RX7, "addFour", "(I)Z"⟩
abbrev cX7_at : ByteArray := prog_9_method_3_code
def yX7_at : MethodName := ⟨RX7, "at", "(I)I"⟩
abbrev cX7_isDigit : ByteArray := prog_9_method_4_code
def yX7_isDigit : MethodName := ⟨RX7, "isDigit", "(I)Z"⟩
abbrev cX7_firstNoDigit : ByteArray := prog_9_method_5_code
def yX7_firstNoDigit : MethodName := ⟨RX7, "firstNoDigit", "(II)I"⟩
abbrev cX7_number : ByteArray := prog_9_method_6_code
def yX7_number : MethodName := ⟨RX7, "number", "(II)I"⟩
def RX8 : String := "DividingHead$Told"
def TX8 : u_T := fun k => match k with
  | 0 => ("DividingHead$Told", "numbers", "[J", true)
  | _ => ("DividingHead$Told", "size", "I", false)
def tyX8 : Nat → FieldType := fun k => match k with
  | 0 => .array .long
  | _ => .int
theorem nmX8 : ∀ a, a < 2 → ∀ b, b < 2 → a ≠ b → (TX8 a).2.1 ≠ (TX8 b).2.1 := by decide +kernel
theorem tyX8_ok : ∀ k, k < 2 → parseFieldDescriptor (TX8 k).2.2.1 = some (tyX8 k) := by decide +kernel
abbrev cX8_init : ByteArray := prog_10_method_1_code
def yX8_init : MethodName := ⟨RX8, "<init>", "()V"⟩
abbrev cX8_clear : ByteArray := prog_10_method_2_code
def yX8_clear : MethodName := ⟨RX8, "clear", "()V"⟩
abbrev cX8_add : ByteArray := prog_10_method_3_code
def yX8_add : MethodName := ⟨RX8, "add", "(J)V"⟩
abbrev cX8_addFraction : ByteArray := prog_10_method_4_code
def yX8_addFraction : MethodName := ⟨RX8, "addFraction", "(LDividingHead$Fraction;)V"⟩
abbrev cX8_number : ByteArray := prog_10_method_5_code
def yX8_number : MethodName := ⟨RX8, "number", "(I)J"⟩
def RX9 : String := "DividingHead"
def TX9 : u_T := fun k => match k with
  | 0 => ("DividingHead", "text", "LDividingHead$Text;", true)
  | 1 => ("DividingHead", "told", "LDividingHead$Told;", true)
  | 2 => ("DividingHead", "simpleWay", "LDividingHead$SimpleWay;", true)
  | 3 => ("DividingHead", "compoundWay", "LDividingHead$CompoundWay;", true)
  | 4 => ("DividingHead", "differentialWay", "LDividingHead$DifferentialWay;", true)
  | 5 => ("DividingHead", "gapList", "LDividingHead$GapList;", true)
  | 6 => ("DividingHead", "found", "LDividingHead$Fraction;", true)
  | 7 => ("DividingHead", "off", "LDividingHead$Fraction;", true)
  | 8 => ("DividingHead", "past", "[LDividingHead$Head;", true)
  | 9 => ("DividingHead", "kept", "[LDividingHead$Head;", true)
  | 10 => ("DividingHead", "pastTotal", "I", false)
  | 11 => ("DividingHead", "drawn", "I", false)
  | 12 => ("DividingHead", "now", "LDividingHead$Head;", false)
  | 13 => ("DividingHead", "trial", "LDividingHead$Head;", false)
  | _ => ("DividingHead", "shelf", "LDividingHead$Shelf;", false)
def tyX9 : Nat → FieldType := fun k => match k with
  | 0 => .object "DividingHead$Text"
  | 1 => .object "DividingHead$Told"
  | 2 => .object "DividingHead$SimpleWay"
  | 3 => .object "DividingHead$CompoundWay"
  | 4 => .object "DividingHead$DifferentialWay"
  | 5 => .object "DividingHead$GapList"
  | 6 => .object "DividingHead$Fraction"
  | 7 => .object "DividingHead$Fraction"
  | 8 => .array (.object "DividingHead$Head")
  | 9 => .array (.object "DividingHead$Head")
  | 10 => .int
  | 11 => .int
  | 12 => .object "DividingHead$Head"
  | 13 => .object "DividingHead$Head"
  | _ => .object "DividingHead$Shelf"
theorem nmX9 : ∀ a, a < 15 → ∀ b, b < 15 → a ≠ b → (TX9 a).2.1 ≠ (TX9 b).2.1 := by decide +kernel
theorem tyX9_ok : ∀ k, k < 15 → parseFieldDescriptor (TX9 k).2.2.1 = some (tyX9 k) := by decide +kernel
abbrev cX9_init : ByteArray := prog_1_method_1_code
def yX9_init : MethodName := ⟨RX9, "<init>", "()V"⟩
abbrev cX9_sign : ByteArray := prog_1_method_2_code
def yX9_sign : MethodName := ⟨RX9, "sign", "(I)I"⟩
abbrev cX9_end : ByteArray := prog_1_method_3_code
def yX9_end : MethodName := ⟨RX9, "end", "(I)Z"⟩
abbrev cX9_plates : ByteArray := prog_1_method_4_code
def yX9_plates : MethodName := ⟨RX9, "plates", "()I"⟩
abbrev cX9_gears : ByteArray := prog_1_method_5_code
def yX9_gears : MethodName := ⟨RX9, "gears", "()I"⟩
abbrev cX9_readPlates : ByteArray := prog_1_method_6_code
def yX9_readPlates : MethodName := ⟨RX9, "readPlates", "()I"⟩
abbrev cX9_readGears : ByteArray := prog_1_method_7_code
def yX9_readGears : MethodName := ⟨RX9, "readGears", "()I"⟩
abbrev cX9_sets : ByteArray := prog_1_method_8_code
def yX9_sets : MethodName := ⟨RX9, "sets", "(II)I"⟩
abbrev cX9_circle : ByteArray := prog_1_method_9_code
def yX9_circle : MethodName := ⟨RX9, "circle", "(I)I"⟩
abbrev cX9_gear : ByteArray := prog_1_method_10_code
def yX9_gear : MethodName := ⟨RX9, "gear", "(I)I"⟩
abbrev cX9_simple : ByteArray := prog_1_method_11_code
def yX9_simple : MethodName := ⟨RX9, "simple", "(I)I"⟩
abbrev cX9_compound : ByteArray := prog_1_method_12_code
def yX9_compound : MethodName := ⟨RX9, "compound", "(I)I"⟩
abbrev cX9_differential : ByteArray := prog_1_method_13_code
def yX9_differential : MethodName := ⟨RX9, "differential", "(I)I"⟩
abbrev cX9_ways : ByteArray := prog_1_method_14_code
def yX9_ways : MethodName := ⟨RX9, "ways", "(I)I"⟩
abbrev cX9_hard : ByteArray := prog_1_method_15_code
def yX9_hard : MethodName := ⟨RX9, "hard", "(II)I"⟩
abbrev cX9_isParts : ByteArray := prog_1_method_16_code
def yX9_isParts : MethodName := ⟨RX9, "isParts", "(I)Z"⟩
abbrev cX9_hasWay : ByteArray := prog_1_method_17_code
def yX9_hasWay : MethodName := ⟨RX9, "hasWay", "(II)Z"⟩
abbrev cX9_fittedShelf : ByteArray := prog_1_method_18_code
def yX9_fittedShelf : MethodName := ⟨RX9, "fittedShelf", "()LDividingHead$Shelf;"⟩
abbrev cX9_train : ByteArray := prog_1_method_19_code
def yX9_train : MethodName := ⟨RX9, "train", "(II)I"⟩
abbrev cX9_nearest : ByteArray := prog_1_method_20_code
def yX9_nearest : MethodName := ⟨RX9, "nearest", "(II)I"⟩
abbrev cX9_ratios : ByteArray := prog_1_method_21_code
def yX9_ratios : MethodName := ⟨RX9, "ratios", "()I"⟩
abbrev cX9_lead : ByteArray := prog_1_method_22_code
def yX9_lead : MethodName := ⟨RX9, "lead", "(I)I"⟩
abbrev cX9_tellClosest : ByteArray := prog_1_method_23_code
def yX9_tellClosest : MethodName := ⟨RX9, "tellClosest", "(JJJ)I"⟩
abbrev cX9_tellWheels : ByteArray := prog_1_method_24_code
def yX9_tellWheels : MethodName := ⟨RX9, "tellWheels", "(LDividingHead$Shelf;I)I"⟩
abbrev cX9_near : ByteArray := prog_1_method_25_code
def yX9_near : MethodName := ⟨RX9, "near", "(III)I"⟩
abbrev cX9_findNear : ByteArray := prog_1_method_26_code
def yX9_findNear : MethodName := ⟨RX9, "findNear", "(JJI)V"⟩
abbrev cX9_treeSteps : ByteArray := prog_1_method_27_code
def yX9_treeSteps : MethodName := ⟨RX9, "treeSteps", "(JJ)I"⟩
abbrev cX9_tree : ByteArray := prog_1_method_28_code
def yX9_tree : MethodName := ⟨RX9, "tree", "(II)I"⟩
abbrev cX9_angle : ByteArray := prog_1_method_29_code
def yX9_angle : MethodName := ⟨RX9, "angle", "(I)I"⟩
abbrev cX9_tellAngle : ByteArray := prog_1_method_30_code
def yX9_tellAngle : MethodName := ⟨RX9, "tellAngle", "(IJ)V"⟩
abbrev cX9_uses : ByteArray := prog_1_method_31_code
def yX9_uses : MethodName := ⟨RX9, "uses", "(I)I"⟩
abbrev cX9_geared : ByteArray := prog_1_method_32_code
def yX9_geared : MethodName := ⟨RX9, "geared", "(IIIII)I"⟩
abbrev cX9_ungeared : ByteArray := prog_1_method_33_code
def yX9_ungeared : MethodName := ⟨RX9, "ungeared", "()I"⟩
abbrev cX9_cranks : ByteArray := prog_1_method_34_code
def yX9_cranks : MethodName := ⟨RX9, "cranks", "(III)I"⟩
abbrev cX9_cuts : ByteArray := prog_1_method_35_code
def yX9_cuts : MethodName := ⟨RX9, "cuts", "()I"⟩
abbrev cX9_wipes : ByteArray := prog_1_method_36_code
def yX9_wipes : MethodName := ⟨RX9, "wipes", "()I"⟩
abbrev cX9_divides : ByteArray := prog_1_method_37_code
def yX9_divides : MethodName := ⟨RX9, "divides", "(II)I"⟩
abbrev cX9_putInDifferential : ByteArray := prog_1_method_38_code
def yX9_putInDifferential : MethodName := ⟨RX9, "putInDifferential", "()V"⟩
abbrev cX9_windWay : ByteArray := prog_1_method_39_code
def yX9_windWay : MethodName := ⟨RX9, "windWay", "(I)V"⟩
abbrev cX9_mark : ByteArray := prog_1_method_40_code
def yX9_mark : MethodName := ⟨RX9, "mark", "(I)I"⟩
abbrev cX9_gaps : ByteArray := prog_1_method_41_code
def yX9_gaps : MethodName := ⟨RX9, "gaps", "()I"⟩
abbrev cX9_missing : ByteArray := prog_1_method_42_code
def yX9_missing : MethodName := ⟨RX9, "missing", "(I)I"⟩
abbrev cX9_reaches : ByteArray := prog_1_method_43_code
def yX9_reaches : MethodName := ⟨RX9, "reaches", "()I"⟩
abbrev cX9_day : ByteArray := prog_1_method_44_code
def yX9_day : MethodName := ⟨RX9, "day", "()I"⟩
abbrev cX9_firstWrongOfDay : ByteArray := prog_1_method_45_code
def yX9_firstWrongOfDay : MethodName := ⟨RX9, "firstWrongOfDay", "()I"⟩
abbrev cX9_lengthOfAct : ByteArray := prog_1_method_46_code
def yX9_lengthOfAct : MethodName := ⟨RX9, "lengthOfAct", "(I)I"⟩
abbrev cX9_doAct : ByteArray := prog_1_method_47_code
def yX9_doAct : MethodName := ⟨RX9, "doAct", "(I)I"⟩
abbrev cX9_undo : ByteArray := prog_1_method_48_code
def yX9_undo : MethodName := ⟨RX9, "undo", "()I"⟩
abbrev cX9_adopt : ByteArray := prog_1_method_49_code
def yX9_adopt : MethodName := ⟨RX9, "adopt", "(I)I"⟩
abbrev cX9_years : ByteArray := prog_1_method_50_code
def yX9_years : MethodName := ⟨RX9, "years", "(II)I"⟩
abbrev cX9_draw : ByteArray := prog_1_method_51_code
def yX9_draw : MethodName := ⟨RX9, "draw", "(I)I"⟩
abbrev cX9_keep : ByteArray := prog_1_method_52_code
def yX9_keep : MethodName := ⟨RX9, "keep", "(I)Z"⟩
abbrev cX9_again : ByteArray := prog_1_method_53_code
def yX9_again : MethodName := ⟨RX9, "again", "(I)Z"⟩
abbrev cX9_count : ByteArray := prog_1_method_54_code
def yX9_count : MethodName := ⟨RX9, "count", "(I)I"⟩
abbrev cX9_row : ByteArray := prog_1_method_55_code
def yX9_row : MethodName := ⟨RX9, "row", "(I)J"⟩
abbrev cX9_isBetween : ByteArray := prog_1_method_56_code
def yX9_isBetween : MethodName := ⟨RX9, "isBetween", "(III)Z"⟩
abbrev cX9_common : ByteArray := prog_1_method_57_code
def yX9_common : MethodName := ⟨RX9, "common", "(JJ)J"⟩
abbrev cX9_compareFractions : ByteArray := prog_1_method_58_code
def yX9_compareFractions : MethodName := ⟨RX9, "compareFractions", "(JJJJ)I"⟩
abbrev cX9_inverse : ByteArray := prog_1_method_59_code
def yX9_inverse : MethodName := ⟨RX9, "inverse", "(JJ)J"⟩
def RX10 : String := "DividingHeadModel"
def TX10 : u_T := fun k => match k with
  | 0 => ("DividingHeadModel", "thrown", "I", false)
  | 1 => ("DividingHeadModel", "told", "I", false)
  | 2 => ("DividingHeadModel", "row", "[J", true)
  | 3 => ("DividingHeadModel", "tape", "[I", true)
  | 4 => ("DividingHeadModel", "taped", "I", false)
  | 5 => ("DividingHeadModel", "at", "I", false)
  | 6 => ("DividingHeadModel", "to", "I", false)
  | 7 => ("DividingHeadModel", "mem", "[I", true)
  | 8 => ("DividingHeadModel", "part", "[J", true)
  | 9 => ("DividingHeadModel", "undos", "I", false)
  | 10 => ("DividingHeadModel", "firstHoles", "[I", true)
  | 11 => ("DividingHeadModel", "firstTeeth", "[I", true)
  | 12 => ("DividingHeadModel", "one", "I", false)
  | 13 => ("DividingHeadModel", "other", "I", false)
  | 14 => ("DividingHeadModel", "fullTurns", "I", false)
  | 15 => ("DividingHeadModel", "oneHoles", "I", false)
  | 16 => ("DividingHeadModel", "otherHoles", "I", false)
  | 17 => ("DividingHeadModel", "gear", "[I", true)
  | 18 => ("DividingHeadModel", "geared", "I", false)
  | 19 => ("DividingHeadModel", "found", "[I", true)
  | 20 => ("DividingHeadModel", "foundMany", "I", false)
  | 21 => ("DividingHeadModel", "nearParts", "I", false)
  | 22 => ("DividingHeadModel", "side", "I", false)
  | 23 => ("DividingHeadModel", "nearUpper", "J", false)
  | 24 => ("DividingHeadModel", "nearLower", "J", false)
  | 25 => ("DividingHeadModel", "offUpper", "J", false)
  | 26 => ("DividingHeadModel", "offLower", "J", false)
  | 27 => ("DividingHeadModel", "ratio", "[J", true)
  | 28 => ("DividingHeadModel", "ratios", "I", false)
  | 29 => ("DividingHeadModel", "stepUpper", "J", false)
  | 30 => ("DividingHeadModel", "stepLower", "J", false)
  | 31 => ("DividingHeadModel", "nextUpper", "J", false)
  | 32 => ("DividingHeadModel", "nextLower", "J", false)
  | 33 => ("DividingHeadModel", "gapUp", "J", false)
  | 34 => ("DividingHeadModel", "gapLow", "J", false)
  | 35 => ("DividingHeadModel", "gap", "[J", true)
  | 36 => ("DividingHeadModel", "aim", "[J", true)
  | 37 => ("DividingHeadModel", "act", "[I", true)
  | 38 => ("DividingHeadModel", "first", "[I", true)
  | 39 => ("DividingHeadModel", "second", "[I", true)
  | 40 => ("DividingHeadModel", "third", "[I", true)
  | 41 => ("DividingHeadModel", "random", "I", false)
  | _ => ("DividingHeadModel", "isKept", "[Z", true)
def tyX10 : Nat → FieldType := fun k => match k with
  | 0 => .int
  | 1 => .int
  | 2 => .array .long
  | 3 => .array .int
  | 4 => .int
  | 5 => .int
  | 6 => .int
  | 7 => .array .int
  | 8 => .array .long
  | 9 => .int
  | 10 => .array .int
  | 11 => .array .int
  | 12 => .int
  | 13 => .int
  | 14 => .int
  | 15 => .int
  | 16 => .int
  | 17 => .array .int
  | 18 => .int
  | 19 => .array .int
  | 20 => .int
  | 21 => .int
  | 22 => .int
  | 23 => .long
  | 24 => .long
  | 25 => .long
  | 26 => .long
  | 27 => .array .long
  | 28 => .int
  | 29 => .long
  | 30 => .long
  | 31 => .long
  | 32 => .long
  | 33 => .long
  | 34 => .long
  | 35 => .array .long
  | 36 => .array .long
  | 37 => .array .int
  | 38 => .array .int
  | 39 => .array .int
  | 40 => .array .int
  | 41 => .int
  | _ => .array .boolean
theorem nmX10 : ∀ a, a < 43 → ∀ b, b < 43 → a ≠ b → (TX10 a).2.1 ≠ (TX10 b).2.1 := by decide +kernel
theorem tyX10_ok : ∀ k, k < 43 → parseFieldDescriptor (TX10 k).2.2.1 = some (tyX10 k) := by decide +kernel
abbrev cX10_thrown : ByteArray := prog_12_method_1_code
def yX10_thrown : MethodName := ⟨RX10, "thrown", "()I"⟩
abbrev cX10_in : ByteArray := prog_12_method_2_code
def yX10_in : MethodName := ⟨RX10, "in", "(JJJ)Z"⟩
abbrev cX10_flag : ByteArray := prog_12_method_3_code
def yX10_flag : MethodName := ⟨RX10, "flag", "(Z)I"⟩
abbrev cX10_common : ByteArray := prog_12_method_4_code
def yX10_common : MethodName := ⟨RX10, "common", "(JJ)J"⟩
abbrev cX10_enters : ByteArray := prog_12_method_5_code
def yX10_enters : MethodName := ⟨RX10, "enters", "(J)V"⟩
abbrev cX10_entersPart : ByteArray := prog_12_method_6_code
def yX10_entersPart : MethodName := ⟨RX10, "entersPart", "(JJ)V"⟩
abbrev cX10_sign : ByteArray := prog_12_method_7_code
def yX10_sign : MethodName := ⟨RX10, "sign", "(I)I"⟩
abbrev cX10_end : ByteArray := prog_12_method_8_code
def yX10_end : MethodName := ⟨RX10, "end", "(I)Z"⟩
abbrev cX10_reads : ByteArray := prog_12_method_9_code
def yX10_reads : MethodName := ⟨RX10, "reads", "()V"⟩
abbrev cX10_takes : ByteArray := prog_12_method_10_code
def yX10_takes : MethodName := ⟨RX10, "takes", "(C)Z"⟩
abbrev cX10_takesOf : ByteArray := prog_12_method_11_code
def yX10_takesOf : MethodName := ⟨RX10, "takesOf", "(Ljava/lang/String;)I"⟩
abbrev cX10_digit : ByteArray := prog_12_method_12_code
def yX10_digit : MethodName := ⟨RX10, "digit", "()I"⟩
abbrev cX10_two : ByteArray := prog_12_method_13_code
def yX10_two : MethodName := ⟨RX10, "two", "()I"⟩
abbrev cX10_init : ByteArray := prog_12_method_14_code
def yX10_init : MethodName := ⟨RX10, "<init>", "()V"⟩
abbrev cX10_begins : ByteArray := prog_12_method_15_code
def yX10_begins : MethodName := ⟨RX10, "begins", "(I)V"⟩
abbrev cX10_copies : ByteArray := prog_12_method_16_code
def yX10_copies : MethodName := ⟨RX10, "copies", "(II)V"⟩
abbrev cX10_done : ByteArray := prog_12_method_17_code
def yX10_done : MethodName := ⟨RX10, "done", "(I)I"⟩
abbrev cX10_undo : ByteArray := prog_12_method_18_code
def yX10_undo : MethodName := ⟨RX10, "undo", "()I"⟩
abbrev cX10_worm : ByteArray := prog_12_method_19_code
def yX10_worm : MethodName := ⟨RX10, "worm", "()I"⟩
abbrev cX10_circles : ByteArray := prog_12_method_20_code
def yX10_circles : MethodName := ⟨RX10, "circles", "()I"⟩
abbrev cX10_holes : ByteArray := prog_12_method_21_code
def yX10_holes : MethodName := ⟨RX10, "holes", "(I)I"⟩
abbrev cX10_gearMany : ByteArray := prog_12_method_22_code
def yX10_gearMany : MethodName := ⟨RX10, "gearMany", "()I"⟩
abbrev cX10_teeth : ByteArray := prog_12_method_23_code
def yX10_teeth : MethodName := ⟨RX10, "teeth", "(I)I"⟩
abbrev cX10_readsPlate : ByteArray := prog_12_method_24_code
def yX10_readsPlate : MethodName := ⟨RX10, "readsPlate", "(I)Z"⟩
abbrev cX10_plates : ByteArray := prog_12_method_25_code
def yX10_plates : MethodName := ⟨RX10, "plates", "()I"⟩
abbrev cX10_circlesOf : ByteArray := prog_12_method_26_code
def yX10_circlesOf : MethodName := ⟨RX10, "circlesOf", "(I)I"⟩
abbrev cX10_putsRead : ByteArray := prog_12_method_27_code
def yX10_putsRead : MethodName := ⟨RX10, "putsRead", "(I)I"⟩
abbrev cX10_gears : ByteArray := prog_12_method_28_code
def yX10_gears : MethodName := ⟨RX10, "gears", "()I"⟩
abbrev cX10_sets : ByteArray := prog_12_method_29_code
def yX10_sets : MethodName := ⟨RX10, "sets", "(II)I"⟩
abbrev cX10_circle : ByteArray := prog_12_method_30_code
def yX10_circle : MethodName := ⟨RX10, "circle", "(I)I"⟩
abbrev cX10_gear : ByteArray := prog_12_method_31_code
def yX10_gear : MethodName := ⟨RX10, "gear", "(I)I"⟩
abbrev cX10_hasSimple : ByteArray := prog_12_method_32_code
def yX10_hasSimple : MethodName := ⟨RX10, "hasSimple", "(II)Z"⟩
abbrev cX10_firstSimple : ByteArray := prog_12_method_33_code
def yX10_firstSimple : MethodName := ⟨RX10, "firstSimple", "(I)I"⟩
abbrev cX10_isNumber : ByteArray := prog_12_method_34_code
def yX10_isNumber : MethodName := ⟨RX10, "isNumber", "(I)Z"⟩
abbrev cX10_allHoles : ByteArray := prog_12_method_35_code
def yX10_allHoles : MethodName := ⟨RX10, "allHoles", "(II)I"⟩
abbrev cX10_simple : ByteArray := prog_12_method_36_code
def yX10_simple : MethodName := ⟨RX10, "simple", "(I)I"⟩
abbrev cX10_size : ByteArray := prog_12_method_37_code
def yX10_size : MethodName := ⟨RX10, "size", "(I)I"⟩
abbrev cX10_looksAt : ByteArray := prog_12_method_38_code
def yX10_looksAt : MethodName := ⟨RX10, "looksAt", "(IIII)I"⟩
abbrev cX10_findsCompound : ByteArray := prog_12_method_39_code
def yX10_findsCompound : MethodName := ⟨RX10, "findsCompound", "(I)I"⟩
abbrev cX10_compound : ByteArray := prog_12_method_40_code
def yX10_compound : MethodName := ⟨RX10, "compound", "(I)I"⟩
abbrev cX10_isUnlike : ByteArray := prog_12_method_41_code
def yX10_isUnlike : MethodName := ⟨RX10, "isUnlike", "(I)Z"⟩
abbrev cX10_goesOn : ByteArray := prog_12_method_42_code
def yX10_goesOn : MethodName := ⟨RX10, "goesOn", "(I)Z"⟩
abbrev cX10_startsTrains : ByteArray := prog_12_method_43_code
def yX10_startsTrains : MethodName := ⟨RX10, "startsTrains", "(I)V"⟩
abbrev cX10_nextTrain : ByteArray := prog_12_method_44_code
def yX10_nextTrain : MethodName := ⟨RX10, "nextTrain", "()Z"⟩
abbrev cX10_beginsFour : ByteArray := prog_12_method_45_code
def yX10_beginsFour : MethodName := ⟨RX10, "beginsFour", "()Z"⟩
abbrev cX10_upper : ByteArray := prog_12_method_46_code
def yX10_upper : MethodName := ⟨RX10, "upper", "()J"⟩
abbrev cX10_lower : ByteArray := prog_12_method_47_code
def yX10_lower : MethodName := ⟨RX10, "lower", "()J"⟩
abbrev cX10_finds : ByteArray := prog_12_method_48_code
def yX10_finds : MethodName := ⟨RX10, "finds", "()V"⟩
abbrev cX10_findsTrain : ByteArray := prog_12_method_49_code
def yX10_findsTrain : MethodName := ⟨RX10, "findsTrain", "(JJ)Z"⟩
abbrev cX10_isDifferential : ByteArray := prog_12_method_50_code
def yX10_isDifferential : MethodName := ⟨RX10, "isDifferential", "(II)Z"⟩
abbrev cX10_findsDifferential : ByteArray := prog_12_method_51_code
def yX10_findsDifferential : MethodName := ⟨RX10, "findsDifferential", "(I)Z"⟩
abbrev cX10_differential : ByteArray := prog_12_method_52_code
def yX10_differential : MethodName := ⟨RX10, "differential", "(I)I"⟩
abbrev cX10_waysOf : ByteArray := prog_12_method_53_code
def yX10_waysOf : MethodName := ⟨RX10, "waysOf", "(I)I"⟩
abbrev cX10_ways : ByteArray := prog_12_method_54_code
def yX10_ways : MethodName := ⟨RX10, "ways", "(I)I"⟩
abbrev cX10_hard : ByteArray := prog_12_method_55_code
def yX10_hard : MethodName := ⟨RX10, "hard", "(II)I"⟩
abbrev cX10_isRatio : ByteArray := prog_12_method_56_code
def yX10_isRatio : MethodName := ⟨RX10, "isRatio", "(II)Z"⟩
abbrev cX10_entersFound : ByteArray := prog_12_method_57_code
def yX10_entersFound : MethodName := ⟨RX10, "entersFound", "()V"⟩
abbrev cX10_train : ByteArray := prog_12_method_58_code
def yX10_train : MethodName := ⟨RX10, "train", "(II)I"⟩
abbrev cX10_isNearer : ByteArray := prog_12_method_59_code
def yX10_isNearer : MethodName := ⟨RX10, "isNearer", "(JJJJ)Z"⟩
abbrev cX10_entersNear : ByteArray := prog_12_method_60_code
def yX10_entersNear : MethodName := ⟨RX10, "entersNear", "()V"⟩
abbrev cX10_findsNearest : ByteArray := prog_12_method_61_code
def yX10_findsNearest : MethodName := ⟨RX10, "findsNearest", "(JJJ)Z"⟩
abbrev cX10_nearest : ByteArray := prog_12_method_62_code
def yX10_nearest : MethodName := ⟨RX10, "nearest", "(II)I"⟩
abbrev cX10_lead : ByteArray := prog_12_method_63_code
def yX10_lead : MethodName := ⟨RX10, "lead", "(I)I"⟩
abbrev cX10_sinks : ByteArray := prog_12_method_64_code
def yX10_sinks : MethodName := ⟨RX10, "sinks", "(II)V"⟩
abbrev cX10_sorts : ByteArray := prog_12_method_65_code
def yX10_sorts : MethodName := ⟨RX10, "sorts", "()V"⟩
abbrev cX10_ratios : ByteArray := prog_12_method_66_code
def yX10_ratios : MethodName := ⟨RX10, "ratios", "()I"⟩
abbrev cX10_isLess : ByteArray := prog_12_method_67_code
def yX10_isLess : MethodName := ⟨RX10, "isLess", "(JJ)Z"⟩
abbrev cX10_stepsTo : ByteArray := prog_12_method_68_code
def yX10_stepsTo : MethodName := ⟨RX10, "stepsTo", "(JJZ)I"⟩
abbrev cX10_near : ByteArray := prog_12_method_69_code
def yX10_near : MethodName := ⟨RX10, "near", "(III)I"⟩
abbrev cX10_tree : ByteArray := prog_12_method_70_code
def yX10_tree : MethodName := ⟨RX10, "tree", "(II)I"⟩
abbrev cX10_angle : ByteArray := prog_12_method_71_code
def yX10_angle : MethodName := ⟨RX10, "angle", "(I)I"⟩
abbrev cX10_usesOne : ByteArray := prog_12_method_72_code
def yX10_usesOne : MethodName := ⟨RX10, "usesOne", "(I)I"⟩
abbrev cX10_uses : ByteArray := prog_12_method_73_code
def yX10_uses : MethodName := ⟨RX10, "uses", "(I)I"⟩
abbrev cX10_isGear : ByteArray := prog_12_method_74_code
def yX10_isGear : MethodName := ⟨RX10, "isGear", "(I)Z"⟩
abbrev cX10_trainUpper : ByteArray := prog_12_method_75_code
def yX10_trainUpper : MethodName := ⟨RX10, "trainUpper", "()J"⟩
abbrev cX10_trainLower : ByteArray := prog_12_method_76_code
def yX10_trainLower : MethodName := ⟨RX10, "trainLower", "()J"⟩
abbrev cX10_gearedOne : ByteArray := prog_12_method_77_code
def yX10_gearedOne : MethodName := ⟨RX10, "gearedOne", "(IIIII)I"⟩
abbrev cX10_geared : ByteArray := prog_12_method_78_code
def yX10_geared : MethodName := ⟨RX10, "geared", "(IIIII)I"⟩
abbrev cX10_ungearedOne : ByteArray := prog_12_method_79_code
def yX10_ungearedOne : MethodName := ⟨RX10, "ungearedOne", "()I"⟩
abbrev cX10_ungeared : ByteArray := prog_12_method_80_code
def yX10_ungeared : MethodName := ⟨RX10, "ungeared", "()I"⟩
abbrev cX10_laysStep : ByteArray := prog_12_method_81_code
def yX10_laysStep : MethodName := ⟨RX10, "laysStep", "(I)V"⟩
abbrev cX10_laysNext : ByteArray := prog_12_method_82_code
def yX10_laysNext : MethodName := ⟨RX10, "laysNext", "(IJ)Z"⟩
abbrev cX10_goesBy : ByteArray := prog_12_method_83_code
def yX10_goesBy : MethodName := ⟨RX10, "goesBy", "(IJ)I"⟩
abbrev cX10_turnsOne : ByteArray := prog_12_method_84_code
def yX10_turnsOne : MethodName := ⟨RX10, "turnsOne", "(III)I"⟩
abbrev cX10_cranks : ByteArray := prog_12_method_85_code
def yX10_cranks : MethodName := ⟨RX10, "cranks", "(III)I"⟩
abbrev cX10_marks : ByteArray := prog_12_method_86_code
def yX10_marks : MethodName := ⟨RX10, "marks", "()I"⟩
abbrev cX10_markUp : ByteArray := prog_12_method_87_code
def yX10_markUp : MethodName := ⟨RX10, "markUp", "(I)J"⟩
abbrev cX10_markLow : ByteArray := prog_12_method_88_code
def yX10_markLow : MethodName := ⟨RX10, "markLow", "(I)J"⟩
abbrev cX10_markAt : ByteArray := prog_12_method_89_code
def yX10_markAt : MethodName := ⟨RX10, "markAt", "(JJ)I"⟩
abbrev cX10_cutsOne : ByteArray := prog_12_method_90_code
def yX10_cutsOne : MethodName := ⟨RX10, "cutsOne", "()I"⟩
abbrev cX10_cuts : ByteArray := prog_12_method_91_code
def yX10_cuts : MethodName := ⟨RX10, "cuts", "()I"⟩
abbrev cX10_wipesOne : ByteArray := prog_12_method_92_code
def yX10_wipesOne : MethodName := ⟨RX10, "wipesOne", "()I"⟩
abbrev cX10_wipes : ByteArray := prog_12_method_93_code
def yX10_wipes : MethodName := ⟨RX10, "wipes", "()I"⟩
abbrev cX10_hasWay : ByteArray := prog_12_method_94_code
def yX10_hasWay : MethodName := ⟨RX10, "hasWay", "(II)Z"⟩
abbrev cX10_stepsBy : ByteArray := prog_12_method_95_code
def yX10_stepsBy : MethodName := ⟨RX10, "stepsBy", "(II)V"⟩
abbrev cX10_divides : ByteArray := prog_12_method_96_code
def yX10_divides : MethodName := ⟨RX10, "divides", "(II)I"⟩
abbrev cX10_laysGap : ByteArray := prog_12_method_97_code
def yX10_laysGap : MethodName := ⟨RX10, "laysGap", "(I)V"⟩
abbrev cX10_mark : ByteArray := prog_12_method_98_code
def yX10_mark : MethodName := ⟨RX10, "mark", "(I)I"⟩
abbrev cX10_isBelow : ByteArray := prog_12_method_99_code
def yX10_isBelow : MethodName := ⟨RX10, "isBelow", "(JJJJ)Z"⟩
abbrev cX10_laysGaps : ByteArray := prog_12_method_100_code
def yX10_laysGaps : MethodName := ⟨RX10, "laysGaps", "()I"⟩
abbrev cX10_gaps : ByteArray := prog_12_method_101_code
def yX10_gaps : MethodName := ⟨RX10, "gaps", "()I"⟩
abbrev cX10_missing : ByteArray := prog_12_method_102_code
def yX10_missing : MethodName := ⟨RX10, "missing", "(I)I"⟩
abbrev cX10_reaches : ByteArray := prog_12_method_103_code
def yX10_reaches : MethodName := ⟨RX10, "reaches", "()I"⟩
abbrev cX10_readsAct : ByteArray := prog_12_method_104_code
def yX10_readsAct : MethodName := ⟨RX10, "readsAct", "(I)Z"⟩
abbrev cX10_doesAct : ByteArray := prog_12_method_105_code
def yX10_doesAct : MethodName := ⟨RX10, "doesAct", "(I)I"⟩
abbrev cX10_day : ByteArray := prog_12_method_106_code
def yX10_day : MethodName := ⟨RX10, "day", "()I"⟩
abbrev cX10_draws : ByteArray := prog_12_method_107_code
def yX10_draws : MethodName := ⟨RX10, "draws", "(I)I"⟩
abbrev cX10_years : ByteArray := prog_12_method_108_code
def yX10_years : MethodName := ⟨RX10, "years", "(II)I"⟩
abbrev cX10_keep : ByteArray := prog_12_method_109_code
def yX10_keep : MethodName := ⟨RX10, "keep", "(I)Z"⟩
abbrev cX10_again : ByteArray := prog_12_method_110_code
def yX10_again : MethodName := ⟨RX10, "again", "(I)Z"⟩
abbrev cX10_count : ByteArray := prog_12_method_111_code
def yX10_count : MethodName := ⟨RX10, "count", "(I)I"⟩
abbrev cX10_row : ByteArray := prog_12_method_112_code
def yX10_row : MethodName := ⟨RX10, "row", "(I)J"⟩
def RJ6 : String := "java/lang/Integer"
def TJ6 : u_T := fun k => match k with
  | _ => ("", "", "", false)
def tyJ6 : Nat → FieldType := fun k => match k with
  | _ => .int
theorem nmJ6 : ∀ a, a < 0 → ∀ b, b < 0 → a ≠ b → (TJ6 a).2.1 ≠ (TJ6 b).2.1 := by decide +kernel
theorem tyJ6_ok : ∀ k, k < 0 → parseFieldDescriptor (TJ6 k).2.2.1 = some (tyJ6 k) := by decide +kernel
abbrev cJ6_bitCount_0f7a4 : ByteArray := prog_17_method_49_code
def yJ6_bitCount_0f7a4 : MethodName := ⟨RJ6, "bitCount", "(I)I"⟩
def RJ13 : String := "java/lang/Long"
def TJ13 : u_T := fun k => match k with
  | _ => ("", "", "", false)
def tyJ13 : Nat → FieldType := fun k => match k with
  | _ => .int
theorem nmJ13 : ∀ a, a < 0 → ∀ b, b < 0 → a ≠ b → (TJ13 a).2.1 ≠ (TJ13 b).2.1 := by decide +kernel
theorem tyJ13_ok : ∀ k, k < 0 → parseFieldDescriptor (TJ13 k).2.2.1 = some (tyJ13 k) := by decide +kernel
abbrev cJ13_compare_74951 : ByteArray := prog_18_method_42_code
def yJ13_compare_74951 : MethodName := ⟨RJ13, "compare", "(JJ)I"⟩
def RJ9 : String := "java/lang/Math"
def TJ9 : u_T := fun k => match k with
  | _ => ("", "", "", false)
def tyJ9 : Nat → FieldType := fun k => match k with
  | _ => .int
theorem nmJ9 : ∀ a, a < 0 → ∀ b, b < 0 → a ≠ b → (TJ9 a).2.1 ≠ (TJ9 b).2.1 := by decide +kernel
theorem tyJ9_ok : ∀ k, k < 0 → parseFieldDescriptor (TJ9 k).2.2.1 = some (tyJ9 k) := by decide +kernel
abbrev cJ9_floorDiv_7cf53 : ByteArray := prog_19_method_47_code
def yJ9_floorDiv_7cf53 : MethodName := ⟨RJ9, "floorDiv", "(II)I"⟩
abbrev cJ9_floorMod_7cf53 : ByteArray := prog_19_method_50_code
def yJ9_floorMod_7cf53 : MethodName := ⟨RJ9, "floorMod", "(II)I"⟩
abbrev cJ9_floorMod_f86c9 : ByteArray := prog_19_method_52_code
def yJ9_floorMod_f86c9 : MethodName := ⟨RJ9, "floorMod", "(JJ)J"⟩
abbrev cJ9_abs_0f7a4 : ByteArray := prog_19_method_59_code
def yJ9_abs_0f7a4 : MethodName := ⟨RJ9, "abs", "(I)I"⟩
abbrev cJ9_abs_067f4 : ByteArray := prog_19_method_61_code
def yJ9_abs_067f4 : MethodName := ⟨RJ9, "abs", "(J)J"⟩
def RJ7 : String := "java/util/Arrays"
def TJ7 : u_T := fun k => match k with
  | _ => ("", "", "", false)
def tyJ7 : Nat → FieldType := fun k => match k with
  | _ => .int
theorem nmJ7 : ∀ a, a < 0 → ∀ b, b < 0 → a ≠ b → (TJ7 a).2.1 ≠ (TJ7 b).2.1 := by decide +kernel
theorem tyJ7_ok : ∀ k, k < 0 → parseFieldDescriptor (TJ7 k).2.2.1 = some (tyJ7 k) := by decide +kernel
abbrev cJ7_fill_53178 : ByteArray := prog_28_method_103_code
def yJ7_fill_53178 : MethodName := ⟨RJ7, "fill", "([II)V"⟩
def RL : String := "DividingHeadLaw"
abbrev cL_circle : ByteArray := method_3_code
def yL_circle : MethodName := ⟨RL, "circle", "(LDividingHead;I[J)I"⟩
abbrev cL_gear : ByteArray := method_4_code
def yL_gear : MethodName := ⟨RL, "gear", "(LDividingHead;I[J)I"⟩
abbrev cL_row : ByteArray := method_5_code
def yL_row : MethodName := ⟨RL, "row", "(LDividingHead;I[J)I"⟩
abbrev cL_law : ByteArray := code
def yL_law : MethodName := ⟨RL, "law", "([I)Z"⟩
abbrev vwCl : List vw_C := [(RX0, TX0, 6), (RX1, TX1, 4), (RX2, TX2, 2), (RX3, TX3, 4), (RX4, TX4, 17), (RX5, TX5, 7), (RX6, TX6, 4), (RX7, TX7, 2), (RX8, TX8, 2), (RX9, TX9, 15), (RX10, TX10, 43)]
abbrev ftyT : List (List Nat) := [[0, 0, 0, 0, 0, 0], [2, 0, 0, 0], [1, 1], [0, 2, 2, 2], [0, 0, 0, 0, 0, 0, 0, 0, 2, 2, 2, 2, 2, 2, 2, 2, 0], [0, 0, 2, 2, 2, 2, 2], [0, 0, 0, 0], [2, 0], [2, 0], [2, 2, 2, 2, 2, 2, 2, 2, 2, 2, 0, 0, 2, 2, 2], [0, 0, 2, 2, 0, 0, 0, 2, 2, 0, 2, 2, 0, 0, 0, 0, 0, 2, 0, 2, 0, 0, 0, 1, 1, 1, 1, 2, 0, 1, 1, 1, 1, 1, 1, 2, 2, 2, 2, 2, 2, 0, 2]]
/-- the kind of a field: 0 int, 1 long, 2 a reference -/
def fty (c k : Nat) : Nat := (ftyT.getD c []).getD k 0
def tyF (c : Nat) : Nat → FieldType := match c with
  | 0 => tyX0
  | 1 => tyX1
  | 2 => tyX2
  | 3 => tyX3
  | 4 => tyX4
  | 5 => tyX5
  | 6 => tyX6
  | 7 => tyX7
  | 8 => tyX8
  | 9 => tyX9
  | _ => tyX10
def gwd : List Cond := lw_tbl.filter goodWord
theorem inG {w : Cond} (i : Nat) (h : lw_tbl[i]? = some w) (g : goodWord w = true) : w ∈ gwd := List.mem_filter.mpr ⟨List.mem_of_getElem? h, g⟩
theorem gwd_good : ∀ w ∈ gwd, (w.onTables && w.keeps) = true ∨ ∃ ty, w = .arrayClass ty := fun w h => good_of_word (List.mem_filter.mp h).2
theorem uwX0 : ∀ w ∈ u_ws RX0 TX0 6, w ∈ gwd := by
  intro w hw
  obtain ⟨k, hk, rfl⟩ := List.mem_map.mp hw
  have hk := List.mem_range.mp hk
  match k, hk with
  | 0, _ => exact inG 197 (by decide +kernel) rfl
  | 1, _ => exact inG 199 (by decide +kernel) rfl
  | 2, _ => exact inG 201 (by decide +kernel) rfl
  | 3, _ => exact inG 203 (by decide +kernel) rfl
  | 4, _ => exact inG 205 (by decide +kernel) rfl
  | 5, _ => exact inG 207 (by decide +kernel) rfl
  | k + 6, hk => omega
theorem uwX1 : ∀ w ∈ u_ws RX1 TX1 4, w ∈ gwd := by
  intro w hw
  obtain ⟨k, hk, rfl⟩ := List.mem_map.mp hw
  have hk := List.mem_range.mp hk
  match k, hk with
  | 0, _ => exact inG 226 (by decide +kernel) rfl
  | 1, _ => exact inG 228 (by decide +kernel) rfl
  | 2, _ => exact inG 230 (by decide +kernel) rfl
  | 3, _ => exact inG 232 (by decide +kernel) rfl
  | k + 4, hk => omega
theorem uwX2 : ∀ w ∈ u_ws RX2 TX2 2, w ∈ gwd := by
  intro w hw
  obtain ⟨k, hk, rfl⟩ := List.mem_map.mp hw
  have hk := List.mem_range.mp hk
  match k, hk with
  | 0, _ => exact inG 257 (by decide +kernel) rfl
  | 1, _ => exact inG 259 (by decide +kernel) rfl
  | k + 2, hk => omega
theorem uwX3 : ∀ w ∈ u_ws RX3 TX3 4, w ∈ gwd := by
  intro w hw
  obtain ⟨k, hk, rfl⟩ := List.mem_map.mp hw
  have hk := List.mem_range.mp hk
  match k, hk with
  | 0, _ => exact inG 267 (by decide +kernel) rfl
  | 1, _ => exact inG 269 (by decide +kernel) rfl
  | 2, _ => exact inG 271 (by decide +kernel) rfl
  | 3, _ => exact inG 273 (by decide +kernel) rfl
  | k + 4, hk => omega
theorem uwX4 : ∀ w ∈ u_ws RX4 TX4 17, w ∈ gwd := by
  intro w hw
  obtain ⟨k, hk, rfl⟩ := List.mem_map.mp hw
  have hk := List.mem_range.mp hk
  match k, hk with
  | 0, _ => exact inG 321 (by decide +kernel) rfl
  | 1, _ => exact inG 323 (by decide +kernel) rfl
  | 2, _ => exact inG 325 (by decide +kernel) rfl
  | 3, _ => exact inG 327 (by decide +kernel) rfl
  | 4, _ => exact inG 329 (by decide +kernel) rfl
  | 5, _ => exact inG 331 (by decide +kernel) rfl
  | 6, _ => exact inG 333 (by decide +kernel) rfl
  | 7, _ => exact inG 335 (by decide +kernel) rfl
  | 8, _ => exact inG 337 (by decide +kernel) rfl
  | 9, _ => exact inG 339 (by decide +kernel) rfl
  | 10, _ => exact inG 341 (by decide +kernel) rfl
  | 11, _ => exact inG 343 (by decide +kernel) rfl
  | 12, _ => exact inG 345 (by decide +kernel) rfl
  | 13, _ => exact inG 347 (by decide +kernel) rfl
  | 14, _ => exact inG 349 (by decide +kernel) rfl
  | 15, _ => exact inG 351 (by decide +kernel) rfl
  | 16, _ => exact inG 353 (by decide +kernel) rfl
  | k + 17, hk => omega
theorem uwX5 : ∀ w ∈ u_ws RX5 TX5 7, w ∈ gwd := by
  intro w hw
  obtain ⟨k, hk, rfl⟩ := List.mem_map.mp hw
  have hk := List.mem_range.mp hk
  match k, hk with
  | 0, _ => exact inG 601 (by decide +kernel) rfl
  | 1, _ => exact inG 603 (by decide +kernel) rfl
  | 2, _ => exact inG 605 (by decide +kernel) rfl
  | 3, _ => exact inG 607 (by decide +kernel) rfl
  | 4, _ => exact inG 609 (by decide +kernel) rfl
  | 5, _ => exact inG 611 (by decide +kernel) rfl
  | 6, _ => exact inG 613 (by decide +kernel) rfl
  | k + 7, hk => omega
theorem uwX6 : ∀ w ∈ u_ws RX6 TX6 4, w ∈ gwd := by
  intro w hw
  obtain ⟨k, hk, rfl⟩ := List.mem_map.mp hw
  have hk := List.mem_range.mp hk
  match k, hk with
  | 0, _ => exact inG 170 (by decide +kernel) rfl
  | 1, _ => exact inG 172 (by decide +kernel) rfl
  | 2, _ => exact inG 174 (by decide +kernel) rfl
  | 3, _ => exact inG 176 (by decide +kernel) rfl
  | k + 4, hk => omega
theorem uwX7 : ∀ w ∈ u_ws RX7 TX7 2, w ∈ gwd := by
  intro w hw
  obtain ⟨k, hk, rfl⟩ := List.mem_map.mp hw
  have hk := List.mem_range.mp hk
  match k, hk with
  | 0, _ => exact inG 134 (by decide +kernel) rfl
  | 1, _ => exact inG 136 (by decide +kernel) rfl
  | k + 2, hk => omega
theorem uwX8 : ∀ w ∈ u_ws RX8 TX8 2, w ∈ gwd := by
  intro w hw
  obtain ⟨k, hk, rfl⟩ := List.mem_map.mp hw
  have hk := List.mem_range.mp hk
  match k, hk with
  | 0, _ => exact inG 149 (by decide +kernel) rfl
  | 1, _ => exact inG 151 (by decide +kernel) rfl
  | k + 2, hk => omega
theorem uwX9 : ∀ w ∈ u_ws RX9 TX9 15, w ∈ gwd := by
  intro w hw
  obtain ⟨k, hk, rfl⟩ := List.mem_map.mp hw
  have hk := List.mem_range.mp hk
  match k, hk with
  | 0, _ => exact inG 392 (by decide +kernel) rfl
  | 1, _ => exact inG 394 (by decide +kernel) rfl
  | 2, _ => exact inG 396 (by decide +kernel) rfl
  | 3, _ => exact inG 398 (by decide +kernel) rfl
  | 4, _ => exact inG 400 (by decide +kernel) rfl
  | 5, _ => exact inG 402 (by decide +kernel) rfl
  | 6, _ => exact inG 404 (by decide +kernel) rfl
  | 7, _ => exact inG 406 (by decide +kernel) rfl
  | 8, _ => exact inG 408 (by decide +kernel) rfl
  | 9, _ => exact inG 410 (by decide +kernel) rfl
  | 10, _ => exact inG 412 (by decide +kernel) rfl
  | 11, _ => exact inG 414 (by decide +kernel) rfl
  | 12, _ => exact inG 416 (by decide +kernel) rfl
  | 13, _ => exact inG 418 (by decide +kernel) rfl
  | 14, _ => exact inG 420 (by decide +kernel) rfl
  | k + 15, hk => omega
theorem uwX10 : ∀ w ∈ u_ws RX10 TX10 43, w ∈ gwd := by
  intro w hw
  obtain ⟨k, hk, rfl⟩ := List.mem_map.mp hw
  have hk := List.mem_range.mp hk
  match k, hk with
  | 0, _ => exact inG 1127 (by decide +kernel) rfl
  | 1, _ => exact inG 1129 (by decide +kernel) rfl
  | 2, _ => exact inG 1131 (by decide +kernel) rfl
  | 3, _ => exact inG 1133 (by decide +kernel) rfl
  | 4, _ => exact inG 1135 (by decide +kernel) rfl
  | 5, _ => exact inG 1137 (by decide +kernel) rfl
  | 6, _ => exact inG 1139 (by decide +kernel) rfl
  | 7, _ => exact inG 1141 (by decide +kernel) rfl
  | 8, _ => exact inG 1143 (by decide +kernel) rfl
  | 9, _ => exact inG 1145 (by decide +kernel) rfl
  | 10, _ => exact inG 1147 (by decide +kernel) rfl
  | 11, _ => exact inG 1149 (by decide +kernel) rfl
  | 12, _ => exact inG 1151 (by decide +kernel) rfl
  | 13, _ => exact inG 1153 (by decide +kernel) rfl
  | 14, _ => exact inG 1155 (by decide +kernel) rfl
  | 15, _ => exact inG 1157 (by decide +kernel) rfl
  | 16, _ => exact inG 1159 (by decide +kernel) rfl
  | 17, _ => exact inG 1161 (by decide +kernel) rfl
  | 18, _ => exact inG 1163 (by decide +kernel) rfl
  | 19, _ => exact inG 1165 (by decide +kernel) rfl
  | 20, _ => exact inG 1167 (by decide +kernel) rfl
  | 21, _ => exact inG 1169 (by decide +kernel) rfl
  | 22, _ => exact inG 1171 (by decide +kernel) rfl
  | 23, _ => exact inG 1173 (by decide +kernel) rfl
  | 24, _ => exact inG 1175 (by decide +kernel) rfl
  | 25, _ => exact inG 1177 (by decide +kernel) rfl
  | 26, _ => exact inG 1179 (by decide +kernel) rfl
  | 27, _ => exact inG 1181 (by decide +kernel) rfl
  | 28, _ => exact inG 1183 (by decide +kernel) rfl
  | 29, _ => exact inG 1185 (by decide +kernel) rfl
  | 30, _ => exact inG 1187 (by decide +kernel) rfl
  | 31, _ => exact inG 1189 (by decide +kernel) rfl
  | 32, _ => exact inG 1191 (by decide +kernel) rfl
  | 33, _ => exact inG 1193 (by decide +kernel) rfl
  | 34, _ => exact inG 1195 (by decide +kernel) rfl
  | 35, _ => exact inG 1197 (by decide +kernel) rfl
  | 36, _ => exact inG 1199 (by decide +kernel) rfl
  | 37, _ => exact inG 1201 (by decide +kernel) rfl
  | 38, _ => exact inG 1203 (by decide +kernel) rfl
  | 39, _ => exact inG 1205 (by decide +kernel) rfl
  | 40, _ => exact inG 1207 (by decide +kernel) rfl
  | 41, _ => exact inG 1209 (by decide +kernel) rfl
  | 42, _ => exact inG 1211 (by decide +kernel) rfl
  | k + 43, hk => omega
end
section
-- THE SMALL HEAP: typed contents by address; what it says of the machine's heap; the judgement Wj over it, and its rows
abbrev Dt : Type := va_G × (Nat → ClassId) × Heap
abbrev Hp : Type := Nat × (Nat → Nat) × (Nat → Nat) × (Nat → Nat → Int32) × (Nat → Nat → Int64) × (Nat → Nat → Option Nat)
def hn (h : Hp) : Nat := h.1
def kd (h : Hp) (a : Nat) : Nat := h.2.1 a
def ln (h : Hp) (a : Nat) : Nat := h.2.2.1 a
def gi (h : Hp) (a k : Nat) : Int32 := h.2.2.2.1 a k
def gl (h : Hp) (a k : Nat) : Int64 := h.2.2.2.2.1 a k
def gr (h : Hp) (a k : Nat) : Option Nat := h.2.2.2.2.2 a k
def gp (h : Hp) (a k : Nat) : Nat := (gr h a k).getD 0
def up2 {α : Type} (f : Nat → Nat → α) (a k : Nat) (v : α) : Nat → Nat → α := fun b j => if b = a ∧ j = k then v else f b j
def si (h : Hp) (a k : Nat) (v : Int32) : Hp := (h.1, h.2.1, h.2.2.1, up2 h.2.2.2.1 a k v, h.2.2.2.2.1, h.2.2.2.2.2)
def sl (h : Hp) (a k : Nat) (v : Int64) : Hp := (h.1, h.2.1, h.2.2.1, h.2.2.2.1, up2 h.2.2.2.2.1 a k v, h.2.2.2.2.2)
def sr (h : Hp) (a k : Nat) (v : Option Nat) : Hp := (h.1, h.2.1, h.2.2.1, h.2.2.2.1, h.2.2.2.2.1, up2 h.2.2.2.2.2 a k v)
def up1 {α : Type} (f : Nat → α) (a : Nat) (v : α) : Nat → α := fun b => if b = a then v else f b
/-- a new cell of a kind, of a length -/
def nw (h : Hp) (kind len : Nat) : Hp := (h.1 + 1, up1 h.2.1 h.1 kind, up1 h.2.2.1 h.1 len, up1 h.2.2.2.1 h.1 (fun _ => 0), up1 h.2.2.2.2.1 h.1 (fun _ => 0), up1 h.2.2.2.2.2 h.1 (fun _ => none))
/-- rows of an array, all at once -/
def siA (h : Hp) (a : Nat) (f : Nat → Int32) : Hp := (h.1, h.2.1, h.2.2.1, up1 h.2.2.2.1 a f, h.2.2.2.2.1, h.2.2.2.2.2)
def slA (h : Hp) (a : Nat) (f : Nat → Int64) : Hp := (h.1, h.2.1, h.2.2.1, h.2.2.2.1, up1 h.2.2.2.2.1 a f, h.2.2.2.2.2)
theorem gi_si (h : Hp) (a k : Nat) (v : Int32) (b j : Nat) : gi (si h a k v) b j = if b = a ∧ j = k then v else gi h b j := rfl
theorem gl_si (h : Hp) (a k : Nat) (v : Int32) (b j : Nat) : gl (si h a k v) b j = gl h b j := rfl
theorem gr_si (h : Hp) (a k : Nat) (v : Int32) (b j : Nat) : gr (si h a k v) b j = gr h b j := rfl
theorem kd_si (h : Hp) (a k : Nat) (v : Int32) (b : Nat) : kd (si h a k v) b = kd h b := rfl
theorem ln_si (h : Hp) (a k : Nat) (v : Int32) (b : Nat) : ln (si h a k v) b = ln h b := rfl
theorem hn_si (h : Hp) (a k : Nat) (v : Int32) : hn (si h a k v) = hn h := rfl
theorem gi_sl (h : Hp) (a k : Nat) (v : Int64) (b j : Nat) : gi (sl h a k v) b j = gi h b j := rfl
theorem gl_sl (h : Hp) (a k : Nat) (v : Int64) (b j : Nat) : gl (sl h a k v) b j = if b = a ∧ j = k then v else gl h b j := rfl
theorem gr_sl (h : Hp) (a k : Nat) (v : Int64) (b j : Nat) : gr (sl h a k v) b j = gr h b j := rfl
theorem kd_sl (h : Hp) (a k : Nat) (v : Int64) (b : Nat) : kd (sl h a k v) b = kd h b := rfl
theorem ln_sl (h : Hp) (a k : Nat) (v : Int64) (b : Nat) : ln (sl h a k v) b = ln h b := rfl
theorem hn_sl (h : Hp) (a k : Nat) (v : Int64) : hn (sl h a k v) = hn h := rfl
theorem gi_sr (h : Hp) (a k : Nat) (v : Option Nat) (b j : Nat) : gi (sr h a k v) b j = gi h b j := rfl
theorem gl_sr (h : Hp) (a k : Nat) (v : Option Nat) (b j : Nat) : gl (sr h a k v) b j = gl h b j := rfl
theorem gr_sr (h : Hp) (a k : Nat) (v : Option Nat) (b j : Nat) : gr (sr h a k v) b j = if b = a ∧ j = k then v else gr h b j := rfl
theorem kd_sr (h : Hp) (a k : Nat) (v : Option Nat) (b : Nat) : kd (sr h a k v) b = kd h b := rfl
theorem ln_sr (h : Hp) (a k : Nat) (v : Option Nat) (b : Nat) : ln (sr h a k v) b = ln h b := rfl
theorem hn_sr (h : Hp) (a k : Nat) (v : Option Nat) : hn (sr h a k v) = hn h := rfl
theorem gi_nw (h : Hp) (kk len b j : Nat) : gi (nw h kk len) b j = if b = hn h then 0 else gi h b j := by
  show up1 h.2.2.2.1 h.1 (fun _ => 0) b j = _
  unfold up1 gi hn
  by_cases e : b = h.1 <;> simp [e]
theorem gl_nw (h : Hp) (kk len b j : Nat) : gl (nw h kk len) b j = if b = hn h then 0 else gl h b j := by
  show up1 h.2.2.2.2.1 h.1 (fun _ => 0) b j = _
  unfold up1 gl hn
  by_cases e : b = h.1 <;> simp [e]
theorem gr_nw (h : Hp) (kk len b j : Nat) : gr (nw h kk len) b j = if b = hn h then none else gr h b j := by
  show up1 h.2.2.2.2.2 h.1 (fun _ => none) b j = _
  unfold up1 gr hn
  by_cases e : b = h.1 <;> simp [e]
theorem kd_nw (h : Hp) (kk len b : Nat) : kd (nw h kk len) b = if b = hn h then kk else kd h b := rfl
theorem ln_nw (h : Hp) (kk len b : Nat) : ln (nw h kk len) b = if b = hn h then len else ln h b := rfl
theorem hn_nw (h : Hp) (kk len : Nat) : hn (nw h kk len) = hn h + 1 := rfl
theorem gi_siA (h : Hp) (a : Nat) (f : Nat → Int32) (b j : Nat) : gi (siA h a f) b j = if b = a then f j else gi h b j := by
  show up1 h.2.2.2.1 a f b j = _
  unfold up1 gi
  by_cases e : b = a <;> simp [e]
theorem gl_siA (h : Hp) (a : Nat) (f : Nat → Int32) (b j : Nat) : gl (siA h a f) b j = gl h b j := rfl
theorem gr_siA (h : Hp) (a : Nat) (f : Nat → Int32) (b j : Nat) : gr (siA h a f) b j = gr h b j := rfl
theorem kd_siA (h : Hp) (a : Nat) (f : Nat → Int32) (b : Nat) : kd (siA h a f) b = kd h b := rfl
theorem ln_siA (h : Hp) (a : Nat) (f : Nat → Int32) (b : Nat) : ln (siA h a f) b = ln h b := rfl
theorem hn_siA (h : Hp) (a : Nat) (f : Nat → Int32) : hn (siA h a f) = hn h := rfl
theorem gl_slA (h : Hp) (a : Nat) (f : Nat → Int64) (b j : Nat) : gl (slA h a f) b j = if b = a then f j else gl h b j := by
  show up1 h.2.2.2.2.1 a f b j = _
  unfold up1 gl
  by_cases e : b = a <;> simp [e]
theorem gi_slA (h : Hp) (a : Nat) (f : Nat → Int64) (b j : Nat) : gi (slA h a f) b j = gi h b j := rfl
theorem gr_slA (h : Hp) (a : Nat) (f : Nat → Int64) (b j : Nat) : gr (slA h a f) b j = gr h b j := rfl
theorem kd_slA (h : Hp) (a : Nat) (f : Nat → Int64) (b : Nat) : kd (slA h a f) b = kd h b := rfl
theorem ln_slA (h : Hp) (a : Nat) (f : Nat → Int64) (b : Nat) : ln (slA h a f) b = ln h b := rfl
theorem hn_slA (h : Hp) (a : Nat) (f : Nat → Int64) : hn (slA h a f) = hn h := rfl
/-- a field's value by its kind -/
def fv (h : Hp) (a k t : Nat) : Value := match t with
  | 0 => .int (gi h a k)
  | 1 => .long (gl h a k)
  | _ => va_rf (gr h a k)
/-- array kinds: 20 int, 21 long, 22 char, 23 boolean, 24 Head[] -/
def cellR (D : Dt) (h : Hp) (H : Heap) (a : Nat) : Prop :=
  (∀ c r, kd h a = c + 1 → vwCl[c]? = some r → t_OB a (D.1.1 c) r.2.2 (D.1.2 c) H (fun k => fv h a k (fty c k))) ∧
  (kd h a = 20 → H[a]? = some (arrV (D.2.1 0) (ln h a) (fun j => .int (gi h a j)))) ∧
  (kd h a = 21 → H[a]? = some (arrV (D.2.1 1) (ln h a) (fun j => .long (gl h a j)))) ∧
  (kd h a = 22 → H[a]? = some (arrV (D.2.1 2) (ln h a) (fun j => .int (gi h a j)))) ∧
  (kd h a = 23 → H[a]? = some (arrV (D.2.1 3) (ln h a) (fun j => .int (gi h a j)))) ∧
  (kd h a = 24 → H[a]? = some (arrV (D.2.1 4) (ln h a) (fun j => va_rf (gr h a j))))
def RelH (D : Dt) (h : Hp) (H : Heap) : Prop :=
  H.size = hn h ∧ D.2.2.size ≤ hn h ∧ (∀ q : Nat, q < D.2.2.size → H[q]? = D.2.2[q]?) ∧ ∀ a : Nat, kd h a ≠ 0 → D.2.2.size ≤ a ∧ a < hn h ∧ cellR D h H a
theorem cellR.kept {D : Dt} {h h' : Hp} {H H' : Heap} {a : Nat} (c : cellR D h H a) (e : H'[a]? = H[a]?) (k1 : kd h' a = kd h a) (k2 : ln h' a = ln h a) (k3 : ∀ j, gi h' a j = gi h a j) (k4 : ∀ j, gl h' a j = gl h a j) (k5 : ∀ j, gr h' a j = gr h a j) : cellR D h' H' a := by
  obtain ⟨c0, c1, c2, c3, c4, c5⟩ := c
  refine ⟨fun c r hk hr => ?_, fun hk => ?_, fun hk => ?_, fun hk => ?_, fun hk => ?_, fun hk => ?_⟩
  · rw [k1] at hk
    refine ((c0 c r hk hr).kept e).to (fun k _ => ?_)
    show fv h a k (fty c k) = fv h' a k (fty c k)
    unfold fv
    split <;> simp [k3, k4, k5]
  · rw [k1] at hk; rw [e, c1 hk, k2]; simp only [k3]
  · rw [k1] at hk; rw [e, c2 hk, k2]; simp only [k4]
  · rw [k1] at hk; rw [e, c3 hk, k2]; simp only [k3]
  · rw [k1] at hk; rw [e, c4 hk, k2]; simp only [k3]
  · rw [k1] at hk; rw [e, c5 hk, k2]; simp only [k5]
abbrev tysD (D : Dt) : List (ClassId × FieldType) := [(D.2.1 0, .int), (D.2.1 1, .long), (D.2.1 2, .char), (D.2.1 3, .boolean), (D.2.1 4, .object "DividingHead$Head")]
abbrev nestW : List Cond := [.methodLinkNest RX9 9 yX7_init RX9, .methodLinkNest RX9 18 yX8_init RX9, .methodLinkNest RX9 25 yX6_init RX9, .methodLinkNest RX9 32 yX0_init RX9, .methodLinkNest RX9 39 yX1_init RX9, .methodLinkNest RX1 11 yX6_init RX9, .methodLinkNest RX9 46 yX3_init RX9, .methodLinkNest RX3 17 yX2_init RX9, .methodLinkNest RX9 53 yX2_init RX9, .methodLinkNest RX9 77 yX4_init RX9, .methodLinkNest RX4 38 yX2_init RX9, .methodLinkNest RX2 16 yX9_common RX9, .methodLinkNest RX4 112 yX9_isBetween RX9, .methodLinkNest RX9 243 yX5_init RX9, .methodLinkNest RX5 64 yX9_common RX9, .methodLinkNest RX3 49 yX9_compareFractions RX9]
def Kn (D : Dt) (U : State) : Prop := va_K D.1 vwCl (tysD D) U ∧ (∀ w ∈ nestW, va_Nw w U) ∧ va_AO "DividingHead$Head" U
theorem nest_warm {s U : State} (hW : s.WarmedH U.vm) : ∀ w ∈ nestW, va_Nw w s → va_Nw w U := by
  intro w hw h
  simp only [nestW, List.mem_cons, List.not_mem_nil, or_false] at hw
  rcases hw with rfl | rfl | rfl | rfl | rfl | rfl | rfl | rfl | rfl | rfl | rfl | rfl | rfl | rfl | rfl | rfl <;> exact va_Nw.warmM hW h
end
section
-- THE JUDGEMENT Wj: from a frame over the small heap h the method comes to its end with Q; rows, one an instruction
abbrev Ctx : Type := Program × Launch × Env × Room × State × MethodId × Array Value × List Frame × Method × Code × Dt × Nat × Nat
abbrev Pq : Type := Option Value → Hp → Prop
def Qm (D : Dt) (Q : Pq) : Array Value → State → Outcome → State → Prop := fun _ _ o t => ∃ v h', o = .returned v ∧ Q v h' ∧ RelH D h' t.heap
abbrev mcX (X : Ctx) : Nat := X.2.2.2.2.2.2.2.2.2.2.2.1
abbrev msX (X : Ctx) : Nat := X.2.2.2.2.2.2.2.2.2.2.2.2
abbrev dtX (X : Ctx) : Dt := X.2.2.2.2.2.2.2.2.2.2.1
abbrev lX (X : Ctx) : Launch := X.2.1
def Wj (X : Ctx) (k n : Nat) (Q : Pq) (pc : Nat) (lv : List (Nat × Value)) (st : List Value) (h : Hp) : Prop :=
  match X with
  | (p, l, e, R, s, m, args, below, meth, c, D, mc, ms) => k ≤ mc → n ≤ ms → ∀ (ls : Array Slot) (H : Heap) (locs : List Loc), lv_has ls c.maxLocals lv → RelH D h H → (∀ q ∈ locs, D.2.2.size ≤ q.base) →
    W p l e R s m args below meth c H locs k n (MQ below (Qm D Q) args s mc ms (fun q => D.2.2.size ≤ q)) (F0 m pc ls st)
def Cx (X : Ctx) (own : String) (cc : ByteArray) (nL : Nat) (ret : Option FieldType) (nm : String) (fr lo : Nat) : Prop :=
  match X with
  | (p, l, e, R, s, m, args, below, meth, c, D, mc, ms) => p.tables.exec = Jvm.exec ∧ c.code = cc ∧ c.maxLocals = nL ∧ s.vm.findClass own = some m.cls ∧ (∀ w ∈ gwd, w.before args s = true) ∧ Kn D s ∧ meth.sig.returnType = ret ∧ meth.locks = false ∧ meth.name = nm ∧ R.frames = fr ∧ R.locals = lo ∧ R.cells = mc ∧ R.slots = ms
/-- a method's contract over the small heap -/
def Sp (l : Launch) (D : Dt) (y : MethodName) (cc : ByteArray) (nL : Nat) (ret : Option FieldType) (fr lo mc ms : Nat) (av : List Value) (h : Hp) (Q : Pq) : Prop :=
  Met l y (.code y cc nL ret :: gwd) { frames := fr, cells := mc, slots := ms, locals := lo } (va_Pc av (fun U => RelH D h U.heap ∧ Kn D U)) (Qm D Q) mc ms (fun q => D.2.2.size ≤ q)
theorem Kn.moved {D : Dt} {u U : State} (hW : u.WarmedH U.vm) (h : Kn D u) : Kn D U := ⟨h.1.moved hW.alike, fun w hw => nest_warm hW w hw (h.2.1 w hw), h.2.2.moved hW.alike⟩
theorem Kn.same {D : Dt} {u U : State} (hW : u.vm = U.vm) (h : Kn D u) : Kn D U := ⟨h.1.moved (by rw [hW]; exact Vm.Alike.refl _), fun w hw => by
  have h1 := h.2.1 w hw
  simp only [nestW, List.mem_cons, List.not_mem_nil, or_false] at hw
  rcases hw with rfl | rfl | rfl | rfl | rfl | rfl | rfl | rfl | rfl | rfl | rfl | rfl | rfl | rfl | rfl | rfl <;> exact va_Nw.same rfl hW h1, h.2.2.moved (by rw [hW]; exact Vm.Alike.refl _)⟩
theorem Sp.mono {l : Launch} {D : Dt} {y : MethodName} {cc : ByteArray} {nL : Nat} {ret : Option FieldType} {fr lo mc ms : Nat} {av : List Value} {h : Hp} {Q Q' : Pq} (hs : Sp l D y cc nL ret fr lo mc ms av h Q) (hq : ∀ v h', Q v h' → Q' v h') : Sp l D y cc nL ret fr lo mc ms av h Q' := by
  unfold Sp Met at hs ⊢
  exact MetFree.mono hs (fun _ _ h => h) (fun _ _ _ _ _ h => h) (fun a s o t _ hx => by
    obtain ⟨⟨v, h', e, hp, hr⟩, hf⟩ := hx
    exact ⟨⟨v, h', e, hq v h' hp, hr⟩, hf⟩)
theorem Sp.of {l : Launch} {D : Dt} {y : MethodName} {cc : ByteArray} {nL : Nat} {ret : Option FieldType} {fr lo mc ms : Nat} {av : List Value} {h : Hp} {Q : Pq} (hy : plainName y.cls = true) (hl : (lg_sl av).length ≤ nL)
    (body : ∀ X : Ctx, Cx X y.cls cc nL ret y.name fr lo → lX X = l → dtX X = D → mcX X = mc → msX X = ms → Wj X 0 0 Q 0 (lv_args 0 av) [] h) : Sp l D y cc nL ret fr lo mc ms av h Q := by
  refine Met.ofW (cc := cc) (maxL := nL) (ret := ret) hy rfl ?_
  intro p e s m args below meth c s₁ B hml hv
  obtain ⟨rfl, hR, hK⟩ := hv
  have hts := atoms_spec (ws := .code y cc nL ret :: gwd) B.pre
  have C : Cx (p, l, e, { frames := fr, cells := mc, slots := ms, locals := lo }, s, m, av.toArray, below, meth, c, D, mc, ms) y.cls cc nL ret y.name fr lo :=
    ⟨B.exec, B.bytes, hml, findClass_of_methodNamed B.named, fun w hw => hts w (List.mem_cons_of_mem _ hw), hK, B.returns, B.notSynchronized, (name_of_methodNamed B.named B.method).1, rfl, rfl, rfl, rfl⟩
  have hle := lv_entry av hl
  rw [lg_entry_eq]
  exact body _ C rfl rfl rfl rfl (Nat.zero_le _) (Nat.zero_le _) _ _ [] (by rw [hml]; exact hle) hR (fun _ h => by cases h)
-- locals
def lvget : List (Nat × Value) → Nat → Option Value
  | [], _ => none
  | (j, v) :: r, i => match Nat.beq j i with
    | true => some v
    | false => lvget r i
def vcat : Value → Bool
  | .long _ => true
  | .double _ => true
  | _ => false
theorem vcat_iff (v : Value) : v.category = 2 ↔ vcat v = true := by cases v <;> simp [Value.category, vcat]
def lvdel (i : Nat) : List (Nat × Value) → List (Nat × Value)
  | [] => []
  | (j, v) :: r => match Nat.beq j i with
    | true => lvdel i r
    | false => match Nat.beq (j + 1) i with
      | false => (j, v) :: lvdel i r
      | true => match vcat v with
        | true => lvdel i r
        | false => (j, v) :: lvdel i r
def lvdel2 (i : Nat) : List (Nat × Value) → List (Nat × Value)
  | [] => []
  | (j, v) :: r => match Nat.beq j i with
    | true => lvdel2 i r
    | false => match Nat.beq j (i + 1) with
      | true => lvdel2 i r
      | false => match Nat.beq (j + 1) i with
        | false => (j, v) :: lvdel2 i r
        | true => match vcat v with
          | true => lvdel2 i r
          | false => (j, v) :: lvdel2 i r
theorem beq_nat (a b : Nat) : (a == b) = Nat.beq a b := by
  rw [Bool.eq_iff_iff]
  simp [Nat.beq_eq]
theorem lvdel_eq (i : Nat) (l : List (Nat × Value)) : l.filter (fun q => !(q.1 == i) && !(q.1 + 1 == i && q.2.category == 2)) = lvdel i l := by
  induction l with
  | nil => rfl
  | cons q r ih =>
    obtain ⟨j, v⟩ := q
    rw [List.filter_cons, ih]
    simp only [lvdel, beq_nat]
    cases h1 : Nat.beq j i <;> cases h2 : Nat.beq (j + 1) i <;> cases h3 : vcat v <;> simp [vcat_iff, h3]
theorem lvdel2_eq (i : Nat) (l : List (Nat × Value)) : l.filter (fun q => !(q.1 == i) && (!(q.1 == i + 1) && !(q.1 + 1 == i && q.2.category == 2))) = lvdel2 i l := by
  induction l with
  | nil => rfl
  | cons q r ih =>
    obtain ⟨j, v⟩ := q
    rw [List.filter_cons, ih]
    simp only [lvdel2, beq_nat]
    cases h1 : Nat.beq j i <;> cases h4 : Nat.beq j (i + 1) <;> cases h2 : Nat.beq (j + 1) i <;> cases h3 : vcat v <;> simp [vcat_iff, h3]
theorem lvget_mem {l : List (Nat × Value)} {i : Nat} {v : Value} (h : lvget l i = some v) : (i, v) ∈ l := by
  induction l with
  | nil => cases h
  | cons q r ih =>
    obtain ⟨j, w⟩ := q
    unfold lvget at h
    cases hb : Nat.beq j i with
    | true =>
      rw [hb] at h
      have e := Nat.eq_of_beq_eq_true hb
      cases h
      rw [e]; exact List.mem_cons_self
    | false =>
      rw [hb] at h
      exact List.mem_cons_of_mem _ (ih h)
def lvsub : List (Nat × Value) → List (Nat × Value) → Prop
  | [], _ => True
  | (i, v) :: r, l => lvget l i = some v ∧ lvsub r l
theorem lvsub_has {ls : Array Slot} {nL : Nat} {l l' : List (Nat × Value)} (h : lv_has ls nL l) (hs : lvsub l' l) : lv_has ls nL l' := by
  refine ⟨h.1, h.2.1, ?_⟩
  induction l' with
  | nil => intro q hq; cases hq
  | cons q r ih =>
    obtain ⟨i, v⟩ := q
    intro q hq
    rcases List.mem_cons.mp hq with rfl | hq
    · exact h.2.2 _ (lvget_mem hs.1)
    · exact ih hs.2 q hq
theorem irem_eq (x y : Int32) : x - x / y * y = x % y := by
  apply Int32.toInt_inj.mp
  rw [Int32.toInt_sub, Int32.toInt_mul, Int32.toInt_div, Int32.toInt_mod, Int.bmod_mul_bmod, Int.sub_bmod_bmod]
  have h := Int.tmod_def x.toInt y.toInt
  rw [Int.mul_comm, ← h]
  have h2 := (x % y).toInt_bmod
  rw [Int32.toInt_mod] at h2
  exact h2
theorem lrem_eq (x y : Int64) : x - x / y * y = x % y := by
  apply Int64.toInt_inj.mp
  rw [Int64.toInt_sub, Int64.toInt_mul, Int64.toInt_div, Int64.toInt_mod, Int.bmod_mul_bmod, Int.sub_bmod_bmod]
  have h := Int.tmod_def x.toInt y.toInt
  rw [Int.mul_comm, ← h]
  have h2 := (x % y).toInt_bmod
  rw [Int64.toInt_mod] at h2
  exact h2
section Rows
variable {X : Ctx} {k n : Nat} {Q : Pq} {pc : Nat} {lv : List (Nat × Value)} {st : List Value} {h : Hp} {own : String} {cc : ByteArray} {nL : Nat} {ret : Option FieldType} {nm : String} {fr lo : Nat}
theorem w_sub {lv' : List (Nat × Value)} (hs : lvsub lv' lv) (K : Wj X k n Q pc lv' st h) : Wj X k n Q pc lv st h := by
  obtain ⟨p, l, e, R, s, m, args, below, meth, c, D, mc, ms⟩ := X
  exact fun h1 h2 ls H locs hl hR hL => K h1 h2 ls H locs (lvsub_has hl hs) hR hL
theorem w_heap {h' : Hp} (e : h' = h) (K : Wj X k n Q pc lv st h') : Wj X k n Q pc lv st h := e ▸ K
-- BY PROGRAM (gen_rows.py)
theorem w_iconst {z : Int} {v : Int32} (C : Cx X own cc nL ret nm fr lo)  (d : decode cc pc = .ok (.iconst z, 1)) (hv : Int32.ofInt z = v) (K : Wj X k n Q (pc + 1) lv (.int v :: st) h) : Wj X k n Q pc lv st h := by
  obtain ⟨p, l, e, R, s, m, args, below, meth, c, D, mc, ms⟩ := X
  exact fun h1 h2 ls H locs hl hR hL => lv_iconst C.1 C.2.1 d hv (K h1 h2 ls H locs hl hR hL)
theorem w_bipush {z : Int} {v : Int32} (C : Cx X own cc nL ret nm fr lo)  (d : decode cc pc = .ok (.bipush z, 2)) (hv : (Int8.ofInt z).toInt32 = v) (K : Wj X k n Q (pc + 2) lv (.int v :: st) h) : Wj X k n Q pc lv st h := by
  obtain ⟨p, l, e, R, s, m, args, below, meth, c, D, mc, ms⟩ := X
  exact fun h1 h2 ls H locs hl hR hL => lv_bipush C.1 C.2.1 d hv (K h1 h2 ls H locs hl hR hL)
theorem w_sipush {z : Int} {v : Int32} (C : Cx X own cc nL ret nm fr lo)  (d : decode cc pc = .ok (.sipush z, 3)) (hv : (Int16.ofInt z).toInt32 = v) (K : Wj X k n Q (pc + 3) lv (.int v :: st) h) : Wj X k n Q pc lv st h := by
  obtain ⟨p, l, e, R, s, m, args, below, meth, c, D, mc, ms⟩ := X
  exact fun h1 h2 ls H locs hl hR hL => lv_sipush C.1 C.2.1 d hv (K h1 h2 ls H locs hl hR hL)
theorem w_lconst {z : Fin 2} {v : Int64} (C : Cx X own cc nL ret nm fr lo)  (d : decode cc pc = .ok (.lconst z, 1)) (hv : Int64.ofNat (z : Nat) = v) (K : Wj X k n Q (pc + 1) lv (.long v :: st) h) : Wj X k n Q pc lv st h := by
  obtain ⟨p, l, e, R, s, m, args, below, meth, c, D, mc, ms⟩ := X
  exact fun h1 h2 ls H locs hl hR hL => lv_lconst C.1 C.2.1 d hv (K h1 h2 ls H locs hl hR hL)
theorem w_iload_n {i : Fin 4} {x : Int32} (C : Cx X own cc nL ret nm fr lo) (d : decode cc pc = .ok (.iload_n i, 1)) (hk : lvget lv (i : Nat) = some (.int x)) (K : Wj X k n Q (pc + 1) lv (.int x :: st) h) : Wj X k n Q pc lv st h := by
  obtain ⟨p, l, e, R, s, m, args, below, meth, c, D, mc, ms⟩ := X
  exact fun h1 h2 ls H locs hl hR hL => lv_iload_n C.1 C.2.1 d rfl (hl.2.2 _ (lvget_mem hk)) (K h1 h2 ls H locs hl hR hL)
theorem w_iload {i : Nat} {x : Int32} (C : Cx X own cc nL ret nm fr lo) (d : decode cc pc = .ok (.iload i, 2)) (hk : lvget lv i = some (.int x)) (K : Wj X k n Q (pc + 2) lv (.int x :: st) h) : Wj X k n Q pc lv st h := by
  obtain ⟨p, l, e, R, s, m, args, below, meth, c, D, mc, ms⟩ := X
  exact fun h1 h2 ls H locs hl hR hL => lv_iload C.1 C.2.1 d (hl.2.2 _ (lvget_mem hk)) (K h1 h2 ls H locs hl hR hL)
theorem w_istore_n {i : Fin 4} {x : Int32} (C : Cx X own cc nL ret nm fr lo) (d : decode cc pc = .ok (.istore_n i, 1)) (hi : (i : Nat) < nL) (K : Wj X k n Q (pc + 1) (((i : Nat), .int x) :: lvdel i lv) st h) : Wj X k n Q pc lv (.int x :: st) h := by
  obtain ⟨p, l, e, R, s, m, args, below, meth, c, D, mc, ms⟩ := X
  exact fun h1 h2 ls H locs hl hR hL => lv_istore_n C.1 C.2.1 d rfl hl (by rw [C.2.2.1]; exact hi) (by rw [lvdel_eq]) (fun ls hl => K h1 h2 ls H locs hl hR hL)
theorem w_istore {i : Nat} {x : Int32} (C : Cx X own cc nL ret nm fr lo) (d : decode cc pc = .ok (.istore i, 2)) (hi : i < nL) (K : Wj X k n Q (pc + 2) ((i, .int x) :: lvdel i lv) st h) : Wj X k n Q pc lv (.int x :: st) h := by
  obtain ⟨p, l, e, R, s, m, args, below, meth, c, D, mc, ms⟩ := X
  exact fun h1 h2 ls H locs hl hR hL => lv_istore C.1 C.2.1 d hl (by rw [C.2.2.1]; exact hi) (by rw [lvdel_eq]) (fun ls hl => K h1 h2 ls H locs hl hR hL)
theorem w_lload_n {i : Fin 4} {x : Int64} (C : Cx X own cc nL ret nm fr lo) (d : decode cc pc = .ok (.lload_n i, 1)) (hk : lvget lv (i : Nat) = some (.long x)) (K : Wj X k n Q (pc + 1) lv (.long x :: st) h) : Wj X k n Q pc lv st h := by
  obtain ⟨p, l, e, R, s, m, args, below, meth, c, D, mc, ms⟩ := X
  exact fun h1 h2 ls H locs hl hR hL => lv_lload_n C.1 C.2.1 d rfl (hl.2.2 _ (lvget_mem hk)) (K h1 h2 ls H locs hl hR hL)
theorem w_lload {i : Nat} {x : Int64} (C : Cx X own cc nL ret nm fr lo) (d : decode cc pc = .ok (.lload i, 2)) (hk : lvget lv i = some (.long x)) (K : Wj X k n Q (pc + 2) lv (.long x :: st) h) : Wj X k n Q pc lv st h := by
  obtain ⟨p, l, e, R, s, m, args, below, meth, c, D, mc, ms⟩ := X
  exact fun h1 h2 ls H locs hl hR hL => lv_lload C.1 C.2.1 d (hl.2.2 _ (lvget_mem hk)) (K h1 h2 ls H locs hl hR hL)
theorem w_lstore_n {i : Fin 4} {x : Int64} (C : Cx X own cc nL ret nm fr lo) (d : decode cc pc = .ok (.lstore_n i, 1)) (hi : (i : Nat) + 1 < nL) (K : Wj X k n Q (pc + 1) (((i : Nat), .long x) :: lvdel2 i lv) st h) : Wj X k n Q pc lv (.long x :: st) h := by
  obtain ⟨p, l, e, R, s, m, args, below, meth, c, D, mc, ms⟩ := X
  exact fun h1 h2 ls H locs hl hR hL => lv_lstore_n C.1 C.2.1 d rfl hl (by rw [C.2.2.1]; exact hi) (by rw [lvdel2_eq]) (fun ls hl => K h1 h2 ls H locs hl hR hL)
theorem w_lstore {i : Nat} {x : Int64} (C : Cx X own cc nL ret nm fr lo) (d : decode cc pc = .ok (.lstore i, 2)) (hi : i + 1 < nL) (K : Wj X k n Q (pc + 2) ((i, .long x) :: lvdel2 i lv) st h) : Wj X k n Q pc lv (.long x :: st) h := by
  obtain ⟨p, l, e, R, s, m, args, below, meth, c, D, mc, ms⟩ := X
  exact fun h1 h2 ls H locs hl hR hL => lv_lstore C.1 C.2.1 d hl (by rw [C.2.2.1]; exact hi) (by rw [lvdel2_eq]) (fun ls hl => K h1 h2 ls H locs hl hR hL)
theorem w_aload_n {i : Fin 4} {x : Nat} (C : Cx X own cc nL ret nm fr lo) (d : decode cc pc = .ok (.aload_n i, 1)) (hk : lvget lv (i : Nat) = some (.ref x)) (K : Wj X k n Q (pc + 1) lv (.ref x :: st) h) : Wj X k n Q pc lv st h := by
  obtain ⟨p, l, e, R, s, m, args, below, meth, c, D, mc, ms⟩ := X
  exact fun h1 h2 ls H locs hl hR hL => lv_aload_n C.1 C.2.1 d rfl (hl.2.2 _ (lvget_mem hk)) (K h1 h2 ls H locs hl hR hL)
theorem w_aload {i : Nat} {x : Nat} (C : Cx X own cc nL ret nm fr lo) (d : decode cc pc = .ok (.aload i, 2)) (hk : lvget lv i = some (.ref x)) (K : Wj X k n Q (pc + 2) lv (.ref x :: st) h) : Wj X k n Q pc lv st h := by
  obtain ⟨p, l, e, R, s, m, args, below, meth, c, D, mc, ms⟩ := X
  exact fun h1 h2 ls H locs hl hR hL => lv_aload C.1 C.2.1 d (hl.2.2 _ (lvget_mem hk)) (K h1 h2 ls H locs hl hR hL)
theorem w_astore_n {i : Fin 4} {x : Nat} (C : Cx X own cc nL ret nm fr lo) (d : decode cc pc = .ok (.astore_n i, 1)) (hi : (i : Nat) < nL) (K : Wj X k n Q (pc + 1) (((i : Nat), .ref x) :: lvdel i lv) st h) : Wj X k n Q pc lv (.ref x :: st) h := by
  obtain ⟨p, l, e, R, s, m, args, below, meth, c, D, mc, ms⟩ := X
  exact fun h1 h2 ls H locs hl hR hL => lv_astore_n C.1 C.2.1 d rfl hl (by rw [C.2.2.1]; exact hi) (by rw [lvdel_eq]) (fun ls hl => K h1 h2 ls H locs hl hR hL)
theorem w_astore {i : Nat} {x : Nat} (C : Cx X own cc nL ret nm fr lo) (d : decode cc pc = .ok (.astore i, 2)) (hi : i < nL) (K : Wj X k n Q (pc + 2) ((i, .ref x) :: lvdel i lv) st h) : Wj X k n Q pc lv (.ref x :: st) h := by
  obtain ⟨p, l, e, R, s, m, args, below, meth, c, D, mc, ms⟩ := X
  exact fun h1 h2 ls H locs hl hR hL => lv_astore C.1 C.2.1 d hl (by rw [C.2.2.1]; exact hi) (by rw [lvdel_eq]) (fun ls hl => K h1 h2 ls H locs hl hR hL)
theorem w_astore_nN {i : Fin 4} (C : Cx X own cc nL ret nm fr lo) (d : decode cc pc = .ok (.astore_n i, 1)) (hi : (i : Nat) < nL) (K : Wj X k n Q (pc + 1) (((i : Nat), .null) :: lvdel i lv) st h) : Wj X k n Q pc lv (.null :: st) h := by
  obtain ⟨p, l, e, R, s, m, args, below, meth, c, D, mc, ms⟩ := X
  exact fun h1 h2 ls H locs hl hR hL => lv_astore_nN C.1 C.2.1 d rfl hl (by rw [C.2.2.1]; exact hi) (by rw [lvdel_eq]) (fun ls hl => K h1 h2 ls H locs hl hR hL)
theorem w_astoreN {i : Nat} (C : Cx X own cc nL ret nm fr lo) (d : decode cc pc = .ok (.astore i, 2)) (hi : i < nL) (K : Wj X k n Q (pc + 2) ((i, .null) :: lvdel i lv) st h) : Wj X k n Q pc lv (.null :: st) h := by
  obtain ⟨p, l, e, R, s, m, args, below, meth, c, D, mc, ms⟩ := X
  exact fun h1 h2 ls H locs hl hR hL => lv_astoreN C.1 C.2.1 d hl (by rw [C.2.2.1]; exact hi) (by rw [lvdel_eq]) (fun ls hl => K h1 h2 ls H locs hl hR hL)
theorem w_aload_nN {i : Fin 4} (C : Cx X own cc nL ret nm fr lo) (d : decode cc pc = .ok (.aload_n i, 1)) (hk : lvget lv (i : Nat) = some .null) (K : Wj X k n Q (pc + 1) lv (.null :: st) h) : Wj X k n Q pc lv st h := by
  obtain ⟨p, l, e, R, s, m, args, below, meth, c, D, mc, ms⟩ := X
  exact fun h1 h2 ls H locs hl hR hL => lv_aload_nN C.1 C.2.1 d rfl (hl.2.2 _ (lvget_mem hk)) (K h1 h2 ls H locs hl hR hL)
theorem w_aloadN {i : Nat} (C : Cx X own cc nL ret nm fr lo) (d : decode cc pc = .ok (.aload i, 2)) (hk : lvget lv i = some .null) (K : Wj X k n Q (pc + 2) lv (.null :: st) h) : Wj X k n Q pc lv st h := by
  obtain ⟨p, l, e, R, s, m, args, below, meth, c, D, mc, ms⟩ := X
  exact fun h1 h2 ls H locs hl hR hL => lv_aloadN C.1 C.2.1 d (hl.2.2 _ (lvget_mem hk)) (K h1 h2 ls H locs hl hR hL)
theorem lvget_at {l : List (Nat × Value)} {i : Nat} {v : Value} (h : lvget l i = some v) : ∃ q : Nat, l[q]? = some (i, v) := List.getElem?_of_mem (lvget_mem h)
theorem w_iinc {i : Nat} {z : Int} {x : Int32} (C : Cx X own cc nL ret nm fr lo) (d : decode cc pc = .ok (.iinc i z, 3)) (hk : lvget lv i = some (.int x)) (hi : i < nL) (K : Wj X k n Q (pc + 3) ((i, .int (x + Int32.ofInt z)) :: lvdel i lv) st h) : Wj X k n Q pc lv st h := by
  obtain ⟨p, l, e, R, s, m, args, below, meth, c, D, mc, ms⟩ := X
  obtain ⟨q, hq⟩ := lvget_at hk
  exact fun h1 h2 ls H locs hl hR hL => lv_iinc C.1 C.2.1 d hl hq rfl (by rw [C.2.2.1]; exact hi) (by rw [lvdel_eq]) (fun ls hl => K h1 h2 ls H locs hl hR hL)
theorem w_iadd {x y : Int32} (C : Cx X own cc nL ret nm fr lo)  (d : decode cc pc = .ok (.iadd, 1))  (K : Wj X k n Q (pc + 1) lv (.int (x + y) :: st) h) : Wj X k n Q pc lv (.int y :: .int x :: st) h := by
  obtain ⟨p, l, e, R, s, m, args, below, meth, c, D, mc, ms⟩ := X
  exact fun h1 h2 ls H locs hl hR hL => lv_iadd C.1 C.2.1 d (K h1 h2 ls H locs hl hR hL)
theorem w_ladd {x y : Int64} (C : Cx X own cc nL ret nm fr lo)  (d : decode cc pc = .ok (.ladd, 1))  (K : Wj X k n Q (pc + 1) lv (.long (x + y) :: st) h) : Wj X k n Q pc lv (.long y :: .long x :: st) h := by
  obtain ⟨p, l, e, R, s, m, args, below, meth, c, D, mc, ms⟩ := X
  exact fun h1 h2 ls H locs hl hR hL => lv_ladd C.1 C.2.1 d (K h1 h2 ls H locs hl hR hL)
theorem w_isub {x y : Int32} (C : Cx X own cc nL ret nm fr lo)  (d : decode cc pc = .ok (.isub, 1))  (K : Wj X k n Q (pc + 1) lv (.int (x - y) :: st) h) : Wj X k n Q pc lv (.int y :: .int x :: st) h := by
  obtain ⟨p, l, e, R, s, m, args, below, meth, c, D, mc, ms⟩ := X
  exact fun h1 h2 ls H locs hl hR hL => lv_isub C.1 C.2.1 d (K h1 h2 ls H locs hl hR hL)
theorem w_lsub {x y : Int64} (C : Cx X own cc nL ret nm fr lo)  (d : decode cc pc = .ok (.lsub, 1))  (K : Wj X k n Q (pc + 1) lv (.long (x - y) :: st) h) : Wj X k n Q pc lv (.long y :: .long x :: st) h := by
  obtain ⟨p, l, e, R, s, m, args, below, meth, c, D, mc, ms⟩ := X
  exact fun h1 h2 ls H locs hl hR hL => lv_lsub C.1 C.2.1 d (K h1 h2 ls H locs hl hR hL)
theorem w_imul {x y : Int32} (C : Cx X own cc nL ret nm fr lo)  (d : decode cc pc = .ok (.imul, 1))  (K : Wj X k n Q (pc + 1) lv (.int (x * y) :: st) h) : Wj X k n Q pc lv (.int y :: .int x :: st) h := by
  obtain ⟨p, l, e, R, s, m, args, below, meth, c, D, mc, ms⟩ := X
  exact fun h1 h2 ls H locs hl hR hL => lv_imul C.1 C.2.1 d (K h1 h2 ls H locs hl hR hL)
theorem w_lmul {x y : Int64} (C : Cx X own cc nL ret nm fr lo)  (d : decode cc pc = .ok (.lmul, 1))  (K : Wj X k n Q (pc + 1) lv (.long (x * y) :: st) h) : Wj X k n Q pc lv (.long y :: .long x :: st) h := by
  obtain ⟨p, l, e, R, s, m, args, below, meth, c, D, mc, ms⟩ := X
  exact fun h1 h2 ls H locs hl hR hL => lv_lmul C.1 C.2.1 d (K h1 h2 ls H locs hl hR hL)
theorem w_iand {x y : Int32} (C : Cx X own cc nL ret nm fr lo)  (d : decode cc pc = .ok (.iand, 1))  (K : Wj X k n Q (pc + 1) lv (.int (x &&& y) :: st) h) : Wj X k n Q pc lv (.int y :: .int x :: st) h := by
  obtain ⟨p, l, e, R, s, m, args, below, meth, c, D, mc, ms⟩ := X
  exact fun h1 h2 ls H locs hl hR hL => lv_iand C.1 C.2.1 d (K h1 h2 ls H locs hl hR hL)
theorem w_land {x y : Int64} (C : Cx X own cc nL ret nm fr lo)  (d : decode cc pc = .ok (.land, 1))  (K : Wj X k n Q (pc + 1) lv (.long (x &&& y) :: st) h) : Wj X k n Q pc lv (.long y :: .long x :: st) h := by
  obtain ⟨p, l, e, R, s, m, args, below, meth, c, D, mc, ms⟩ := X
  exact fun h1 h2 ls H locs hl hR hL => lv_land C.1 C.2.1 d (K h1 h2 ls H locs hl hR hL)
theorem w_ior {x y : Int32} (C : Cx X own cc nL ret nm fr lo)  (d : decode cc pc = .ok (.ior, 1))  (K : Wj X k n Q (pc + 1) lv (.int (x ||| y) :: st) h) : Wj X k n Q pc lv (.int y :: .int x :: st) h := by
  obtain ⟨p, l, e, R, s, m, args, below, meth, c, D, mc, ms⟩ := X
  exact fun h1 h2 ls H locs hl hR hL => lv_ior C.1 C.2.1 d (K h1 h2 ls H locs hl hR hL)
theorem w_lor {x y : Int64} (C : Cx X own cc nL ret nm fr lo)  (d : decode cc pc = .ok (.lor, 1))  (K : Wj X k n Q (pc + 1) lv (.long (x ||| y) :: st) h) : Wj X k n Q pc lv (.long y :: .long x :: st) h := by
  obtain ⟨p, l, e, R, s, m, args, below, meth, c, D, mc, ms⟩ := X
  exact fun h1 h2 ls H locs hl hR hL => lv_lor C.1 C.2.1 d (K h1 h2 ls H locs hl hR hL)
theorem w_ixor {x y : Int32} (C : Cx X own cc nL ret nm fr lo)  (d : decode cc pc = .ok (.ixor, 1))  (K : Wj X k n Q (pc + 1) lv (.int (x ^^^ y) :: st) h) : Wj X k n Q pc lv (.int y :: .int x :: st) h := by
  obtain ⟨p, l, e, R, s, m, args, below, meth, c, D, mc, ms⟩ := X
  exact fun h1 h2 ls H locs hl hR hL => lv_ixor C.1 C.2.1 d (K h1 h2 ls H locs hl hR hL)
theorem w_lxor {x y : Int64} (C : Cx X own cc nL ret nm fr lo)  (d : decode cc pc = .ok (.lxor, 1))  (K : Wj X k n Q (pc + 1) lv (.long (x ^^^ y) :: st) h) : Wj X k n Q pc lv (.long y :: .long x :: st) h := by
  obtain ⟨p, l, e, R, s, m, args, below, meth, c, D, mc, ms⟩ := X
  exact fun h1 h2 ls H locs hl hR hL => lv_lxor C.1 C.2.1 d (K h1 h2 ls H locs hl hR hL)
theorem w_idiv {x y : Int32} (C : Cx X own cc nL ret nm fr lo)  (d : decode cc pc = .ok (.idiv, 1)) (hne : ¬ y = 0) (K : Wj X k n Q (pc + 1) lv (.int (x / y) :: st) h) : Wj X k n Q pc lv (.int y :: .int x :: st) h := by
  obtain ⟨p, l, e, R, s, m, args, below, meth, c, D, mc, ms⟩ := X
  exact fun h1 h2 ls H locs hl hR hL => lv_idiv C.1 C.2.1 d hne (K h1 h2 ls H locs hl hR hL)
theorem w_ldiv {x y : Int64} (C : Cx X own cc nL ret nm fr lo)  (d : decode cc pc = .ok (.ldiv, 1)) (hne : ¬ y = 0) (K : Wj X k n Q (pc + 1) lv (.long (x / y) :: st) h) : Wj X k n Q pc lv (.long y :: .long x :: st) h := by
  obtain ⟨p, l, e, R, s, m, args, below, meth, c, D, mc, ms⟩ := X
  exact fun h1 h2 ls H locs hl hR hL => lv_ldiv C.1 C.2.1 d hne (K h1 h2 ls H locs hl hR hL)
theorem w_irem {x y : Int32} (C : Cx X own cc nL ret nm fr lo) (d : decode cc pc = .ok (.irem, 1)) (hne : ¬ y = 0) (K : Wj X k n Q (pc + 1) lv (.int (x % y) :: st) h) : Wj X k n Q pc lv (.int y :: .int x :: st) h := by
  rw [← irem_eq] at K
  obtain ⟨p, l, e, R, s, m, args, below, meth, c, D, mc, ms⟩ := X
  exact fun h1 h2 ls H locs hl hR hL => lv_irem C.1 C.2.1 d hne (K h1 h2 ls H locs hl hR hL)
theorem w_lrem {x y : Int64} (C : Cx X own cc nL ret nm fr lo) (d : decode cc pc = .ok (.lrem, 1)) (hne : ¬ y = 0) (K : Wj X k n Q (pc + 1) lv (.long (x % y) :: st) h) : Wj X k n Q pc lv (.long y :: .long x :: st) h := by
  rw [← lrem_eq] at K
  obtain ⟨p, l, e, R, s, m, args, below, meth, c, D, mc, ms⟩ := X
  exact fun h1 h2 ls H locs hl hR hL => lv_lrem C.1 C.2.1 d hne (K h1 h2 ls H locs hl hR hL)
theorem w_ineg {x : Int32} (C : Cx X own cc nL ret nm fr lo)  (d : decode cc pc = .ok (.ineg, 1))  (K : Wj X k n Q (pc + 1) lv (.int (-x) :: st) h) : Wj X k n Q pc lv (.int x :: st) h := by
  obtain ⟨p, l, e, R, s, m, args, below, meth, c, D, mc, ms⟩ := X
  exact fun h1 h2 ls H locs hl hR hL => lv_ineg C.1 C.2.1 d (K h1 h2 ls H locs hl hR hL)
theorem w_lneg {x : Int64} (C : Cx X own cc nL ret nm fr lo)  (d : decode cc pc = .ok (.lneg, 1))  (K : Wj X k n Q (pc + 1) lv (.long (-x) :: st) h) : Wj X k n Q pc lv (.long x :: st) h := by
  obtain ⟨p, l, e, R, s, m, args, below, meth, c, D, mc, ms⟩ := X
  exact fun h1 h2 ls H locs hl hR hL => lv_lneg C.1 C.2.1 d (K h1 h2 ls H locs hl hR hL)
theorem w_ishl {x y : Int32} (C : Cx X own cc nL ret nm fr lo)  (d : decode cc pc = .ok (.ishl, 1))  (K : Wj X k n Q (pc + 1) lv (.int (x <<< (y &&& 31)) :: st) h) : Wj X k n Q pc lv (.int y :: .int x :: st) h := by
  obtain ⟨p, l, e, R, s, m, args, below, meth, c, D, mc, ms⟩ := X
  exact fun h1 h2 ls H locs hl hR hL => lv_ishl C.1 C.2.1 d (K h1 h2 ls H locs hl hR hL)
theorem w_ishr {x y : Int32} (C : Cx X own cc nL ret nm fr lo)  (d : decode cc pc = .ok (.ishr, 1))  (K : Wj X k n Q (pc + 1) lv (.int (x >>> (y &&& 31)) :: st) h) : Wj X k n Q pc lv (.int y :: .int x :: st) h := by
  obtain ⟨p, l, e, R, s, m, args, below, meth, c, D, mc, ms⟩ := X
  exact fun h1 h2 ls H locs hl hR hL => lv_ishr C.1 C.2.1 d (K h1 h2 ls H locs hl hR hL)
theorem w_iushr {x y : Int32} (C : Cx X own cc nL ret nm fr lo)  (d : decode cc pc = .ok (.iushr, 1))  (K : Wj X k n Q (pc + 1) lv (.int ((x.toUInt32 >>> (y.toUInt32 &&& Int32.toUInt32 31)).toInt32) :: st) h) : Wj X k n Q pc lv (.int y :: .int x :: st) h := by
  obtain ⟨p, l, e, R, s, m, args, below, meth, c, D, mc, ms⟩ := X
  exact fun h1 h2 ls H locs hl hR hL => lv_iushr C.1 C.2.1 d rfl (K h1 h2 ls H locs hl hR hL)
theorem w_i2l {x : Int32} (C : Cx X own cc nL ret nm fr lo)  (d : decode cc pc = .ok (.i2l, 1))  (K : Wj X k n Q (pc + 1) lv (.long x.toInt64 :: st) h) : Wj X k n Q pc lv (.int x :: st) h := by
  obtain ⟨p, l, e, R, s, m, args, below, meth, c, D, mc, ms⟩ := X
  exact fun h1 h2 ls H locs hl hR hL => lv_i2l C.1 C.2.1 d rfl (K h1 h2 ls H locs hl hR hL)
theorem w_l2i {x : Int64} (C : Cx X own cc nL ret nm fr lo)  (d : decode cc pc = .ok (.l2i, 1))  (K : Wj X k n Q (pc + 1) lv (.int x.toInt32 :: st) h) : Wj X k n Q pc lv (.long x :: st) h := by
  obtain ⟨p, l, e, R, s, m, args, below, meth, c, D, mc, ms⟩ := X
  exact fun h1 h2 ls H locs hl hR hL => lv_l2i C.1 C.2.1 d rfl (K h1 h2 ls H locs hl hR hL)
theorem w_i2c {x : Int32} (C : Cx X own cc nL ret nm fr lo)  (d : decode cc pc = .ok (.i2c, 1))  (K : Wj X k n Q (pc + 1) lv (.int (x.toUInt32 % 65536).toInt32 :: st) h) : Wj X k n Q pc lv (.int x :: st) h := by
  obtain ⟨p, l, e, R, s, m, args, below, meth, c, D, mc, ms⟩ := X
  exact fun h1 h2 ls H locs hl hR hL => lv_i2c C.1 C.2.1 d rfl (K h1 h2 ls H locs hl hR hL)
theorem w_dup {va : Value} (C : Cx X own cc nL ret nm fr lo)  (d : decode cc pc = .ok (.dup, 1)) (hva : va.category = 1) (K : Wj X k n Q (pc + 1) lv (va :: va :: st) h) : Wj X k n Q pc lv (va :: st) h := by
  obtain ⟨p, l, e, R, s, m, args, below, meth, c, D, mc, ms⟩ := X
  exact fun h1 h2 ls H locs hl hR hL => lv_dup C.1 C.2.1 d hva (K h1 h2 ls H locs hl hR hL)
theorem w_pop {va : Value} (C : Cx X own cc nL ret nm fr lo)  (d : decode cc pc = .ok (.pop, 1)) (hva : va.category = 1) (K : Wj X k n Q (pc + 1) lv st h) : Wj X k n Q pc lv (va :: st) h := by
  obtain ⟨p, l, e, R, s, m, args, below, meth, c, D, mc, ms⟩ := X
  exact fun h1 h2 ls H locs hl hR hL => lv_pop C.1 C.2.1 d hva (K h1 h2 ls H locs hl hR hL)
theorem w_pop2 {va : Value} (C : Cx X own cc nL ret nm fr lo)  (d : decode cc pc = .ok (.pop2, 1)) (hva : va.category = 2) (K : Wj X k n Q (pc + 1) lv st h) : Wj X k n Q pc lv (va :: st) h := by
  obtain ⟨p, l, e, R, s, m, args, below, meth, c, D, mc, ms⟩ := X
  exact fun h1 h2 ls H locs hl hR hL => lv_pop2_2 C.1 C.2.1 d hva (K h1 h2 ls H locs hl hR hL)
theorem w_dup_x1 {va vb : Value} (C : Cx X own cc nL ret nm fr lo)  (d : decode cc pc = .ok (.dup_x1, 1)) (hva : va.category = 1) (hvb : vb.category = 1) (K : Wj X k n Q (pc + 1) lv (va :: vb :: va :: st) h) : Wj X k n Q pc lv (va :: vb :: st) h := by
  obtain ⟨p, l, e, R, s, m, args, below, meth, c, D, mc, ms⟩ := X
  exact fun h1 h2 ls H locs hl hR hL => lv_dup_x1 C.1 C.2.1 d hva hvb (K h1 h2 ls H locs hl hR hL)
theorem w_dup2 {va vb : Value} (C : Cx X own cc nL ret nm fr lo)  (d : decode cc pc = .ok (.dup2, 1)) (hva : va.category = 1) (hvb : vb.category = 1) (K : Wj X k n Q (pc + 1) lv (va :: vb :: va :: vb :: st) h) : Wj X k n Q pc lv (va :: vb :: st) h := by
  obtain ⟨p, l, e, R, s, m, args, below, meth, c, D, mc, ms⟩ := X
  exact fun h1 h2 ls H locs hl hR hL => lv_dup2_11 C.1 C.2.1 d hva hvb (K h1 h2 ls H locs hl hR hL)
theorem w_dup2L {va : Value} (C : Cx X own cc nL ret nm fr lo)  (d : decode cc pc = .ok (.dup2, 1)) (hva : va.category = 2) (K : Wj X k n Q (pc + 1) lv (va :: va :: st) h) : Wj X k n Q pc lv (va :: st) h := by
  obtain ⟨p, l, e, R, s, m, args, below, meth, c, D, mc, ms⟩ := X
  exact fun h1 h2 ls H locs hl hR hL => lv_dup2_2 C.1 C.2.1 d hva (K h1 h2 ls H locs hl hR hL)
theorem w_null  (C : Cx X own cc nL ret nm fr lo)  (d : decode cc pc = .ok (.aconst_null, 1))  (K : Wj X k n Q (pc + 1) lv (.null :: st) h) : Wj X k n Q pc lv st h := by
  obtain ⟨p, l, e, R, s, m, args, below, meth, c, D, mc, ms⟩ := X
  exact fun h1 h2 ls H locs hl hR hL => lv_null C.1 C.2.1 d (K h1 h2 ls H locs hl hR hL)
theorem w_if_eq {x : Int32} {off : Int} {tgt : Nat} (C : Cx X own cc nL ret nm fr lo) (d : decode cc pc = .ok (.ifCond .eq off, 3)) (ht : (pc : Int) + off = (tgt : Int)) (K : (x = 0 → Wj X k n Q tgt lv st h) ∧ (¬ x = 0 → Wj X k n Q (pc + 3) lv st h)) : Wj X k n Q pc lv (.int x :: st) h := by
  obtain ⟨p, l, e, R, s, m, args, below, meth, c, D, mc, ms⟩ := X
  exact fun h1 h2 ls H locs hl hR hL => lv_if_eq C.1 C.2.1 d ht (fun q => K.1 q h1 h2 ls H locs hl hR hL) (fun q => K.2 q h1 h2 ls H locs hl hR hL)
theorem w_icmp_eq {x y : Int32} {off : Int} {tgt : Nat} (C : Cx X own cc nL ret nm fr lo) (d : decode cc pc = .ok (.if_icmp .eq off, 3)) (ht : (pc : Int) + off = (tgt : Int)) (K : (x = y → Wj X k n Q tgt lv st h) ∧ (¬ x = y → Wj X k n Q (pc + 3) lv st h)) : Wj X k n Q pc lv (.int y :: .int x :: st) h := by
  obtain ⟨p, l, e, R, s, m, args, below, meth, c, D, mc, ms⟩ := X
  exact fun h1 h2 ls H locs hl hR hL => lv_icmp_eq C.1 C.2.1 d ht (fun q => K.1 q h1 h2 ls H locs hl hR hL) (fun q => K.2 q h1 h2 ls H locs hl hR hL)
theorem w_if_ne {x : Int32} {off : Int} {tgt : Nat} (C : Cx X own cc nL ret nm fr lo) (d : decode cc pc = .ok (.ifCond .ne off, 3)) (ht : (pc : Int) + off = (tgt : Int)) (K : (¬ x = 0 → Wj X k n Q tgt lv st h) ∧ (x = 0 → Wj X k n Q (pc + 3) lv st h)) : Wj X k n Q pc lv (.int x :: st) h := by
  obtain ⟨p, l, e, R, s, m, args, below, meth, c, D, mc, ms⟩ := X
  exact fun h1 h2 ls H locs hl hR hL => lv_if_ne C.1 C.2.1 d ht (fun q => K.1 q h1 h2 ls H locs hl hR hL) (fun q => K.2 q h1 h2 ls H locs hl hR hL)
theorem w_icmp_ne {x y : Int32} {off : Int} {tgt : Nat} (C : Cx X own cc nL ret nm fr lo) (d : decode cc pc = .ok (.if_icmp .ne off, 3)) (ht : (pc : Int) + off = (tgt : Int)) (K : (¬ x = y → Wj X k n Q tgt lv st h) ∧ (x = y → Wj X k n Q (pc + 3) lv st h)) : Wj X k n Q pc lv (.int y :: .int x :: st) h := by
  obtain ⟨p, l, e, R, s, m, args, below, meth, c, D, mc, ms⟩ := X
  exact fun h1 h2 ls H locs hl hR hL => lv_icmp_ne C.1 C.2.1 d ht (fun q => K.1 q h1 h2 ls H locs hl hR hL) (fun q => K.2 q h1 h2 ls H locs hl hR hL)
theorem w_if_lt {x : Int32} {off : Int} {tgt : Nat} (C : Cx X own cc nL ret nm fr lo) (d : decode cc pc = .ok (.ifCond .lt off, 3)) (ht : (pc : Int) + off = (tgt : Int)) (K : (x < 0 → Wj X k n Q tgt lv st h) ∧ (¬ x < 0 → Wj X k n Q (pc + 3) lv st h)) : Wj X k n Q pc lv (.int x :: st) h := by
  obtain ⟨p, l, e, R, s, m, args, below, meth, c, D, mc, ms⟩ := X
  exact fun h1 h2 ls H locs hl hR hL => lv_if_lt C.1 C.2.1 d ht (fun q => K.1 q h1 h2 ls H locs hl hR hL) (fun q => K.2 q h1 h2 ls H locs hl hR hL)
theorem w_icmp_lt {x y : Int32} {off : Int} {tgt : Nat} (C : Cx X own cc nL ret nm fr lo) (d : decode cc pc = .ok (.if_icmp .lt off, 3)) (ht : (pc : Int) + off = (tgt : Int)) (K : (x < y → Wj X k n Q tgt lv st h) ∧ (¬ x < y → Wj X k n Q (pc + 3) lv st h)) : Wj X k n Q pc lv (.int y :: .int x :: st) h := by
  obtain ⟨p, l, e, R, s, m, args, below, meth, c, D, mc, ms⟩ := X
  exact fun h1 h2 ls H locs hl hR hL => lv_icmp_lt C.1 C.2.1 d ht (fun q => K.1 q h1 h2 ls H locs hl hR hL) (fun q => K.2 q h1 h2 ls H locs hl hR hL)
theorem w_if_ge {x : Int32} {off : Int} {tgt : Nat} (C : Cx X own cc nL ret nm fr lo) (d : decode cc pc = .ok (.ifCond .ge off, 3)) (ht : (pc : Int) + off = (tgt : Int)) (K : (0 ≤ x → Wj X k n Q tgt lv st h) ∧ (¬ 0 ≤ x → Wj X k n Q (pc + 3) lv st h)) : Wj X k n Q pc lv (.int x :: st) h := by
  obtain ⟨p, l, e, R, s, m, args, below, meth, c, D, mc, ms⟩ := X
  exact fun h1 h2 ls H locs hl hR hL => lv_if_ge C.1 C.2.1 d ht (fun q => K.1 q h1 h2 ls H locs hl hR hL) (fun q => K.2 q h1 h2 ls H locs hl hR hL)
theorem w_icmp_ge {x y : Int32} {off : Int} {tgt : Nat} (C : Cx X own cc nL ret nm fr lo) (d : decode cc pc = .ok (.if_icmp .ge off, 3)) (ht : (pc : Int) + off = (tgt : Int)) (K : (y ≤ x → Wj X k n Q tgt lv st h) ∧ (¬ y ≤ x → Wj X k n Q (pc + 3) lv st h)) : Wj X k n Q pc lv (.int y :: .int x :: st) h := by
  obtain ⟨p, l, e, R, s, m, args, below, meth, c, D, mc, ms⟩ := X
  exact fun h1 h2 ls H locs hl hR hL => lv_icmp_ge C.1 C.2.1 d ht (fun q => K.1 q h1 h2 ls H locs hl hR hL) (fun q => K.2 q h1 h2 ls H locs hl hR hL)
theorem w_if_gt {x : Int32} {off : Int} {tgt : Nat} (C : Cx X own cc nL ret nm fr lo) (d : decode cc pc = .ok (.ifCond .gt off, 3)) (ht : (pc : Int) + off = (tgt : Int)) (K : (0 < x → Wj X k n Q tgt lv st h) ∧ (¬ 0 < x → Wj X k n Q (pc + 3) lv st h)) : Wj X k n Q pc lv (.int x :: st) h := by
  obtain ⟨p, l, e, R, s, m, args, below, meth, c, D, mc, ms⟩ := X
  exact fun h1 h2 ls H locs hl hR hL => lv_if_gt C.1 C.2.1 d ht (fun q => K.1 q h1 h2 ls H locs hl hR hL) (fun q => K.2 q h1 h2 ls H locs hl hR hL)
theorem w_icmp_gt {x y : Int32} {off : Int} {tgt : Nat} (C : Cx X own cc nL ret nm fr lo) (d : decode cc pc = .ok (.if_icmp .gt off, 3)) (ht : (pc : Int) + off = (tgt : Int)) (K : (y < x → Wj X k n Q tgt lv st h) ∧ (¬ y < x → Wj X k n Q (pc + 3) lv st h)) : Wj X k n Q pc lv (.int y :: .int x :: st) h := by
  obtain ⟨p, l, e, R, s, m, args, below, meth, c, D, mc, ms⟩ := X
  exact fun h1 h2 ls H locs hl hR hL => lv_icmp_gt C.1 C.2.1 d ht (fun q => K.1 q h1 h2 ls H locs hl hR hL) (fun q => K.2 q h1 h2 ls H locs hl hR hL)
theorem w_if_le {x : Int32} {off : Int} {tgt : Nat} (C : Cx X own cc nL ret nm fr lo) (d : decode cc pc = .ok (.ifCond .le off, 3)) (ht : (pc : Int) + off = (tgt : Int)) (K : (x ≤ 0 → Wj X k n Q tgt lv st h) ∧ (¬ x ≤ 0 → Wj X k n Q (pc + 3) lv st h)) : Wj X k n Q pc lv (.int x :: st) h := by
  obtain ⟨p, l, e, R, s, m, args, below, meth, c, D, mc, ms⟩ := X
  exact fun h1 h2 ls H locs hl hR hL => lv_if_le C.1 C.2.1 d ht (fun q => K.1 q h1 h2 ls H locs hl hR hL) (fun q => K.2 q h1 h2 ls H locs hl hR hL)
theorem w_icmp_le {x y : Int32} {off : Int} {tgt : Nat} (C : Cx X own cc nL ret nm fr lo) (d : decode cc pc = .ok (.if_icmp .le off, 3)) (ht : (pc : Int) + off = (tgt : Int)) (K : (x ≤ y → Wj X k n Q tgt lv st h) ∧ (¬ x ≤ y → Wj X k n Q (pc + 3) lv st h)) : Wj X k n Q pc lv (.int y :: .int x :: st) h := by
  obtain ⟨p, l, e, R, s, m, args, below, meth, c, D, mc, ms⟩ := X
  exact fun h1 h2 ls H locs hl hR hL => lv_icmp_le C.1 C.2.1 d ht (fun q => K.1 q h1 h2 ls H locs hl hR hL) (fun q => K.2 q h1 h2 ls H locs hl hR hL)
theorem lcm_eq (x y : Int64) : lg_cmp x y = 0 ↔ x = y := by
  unfold lg_cmp
  simp only [gt_iff_lt, Int64.lt_iff_toInt_lt, Int64.le_iff_toInt_le, ← Int64.toInt_inj, Int32.lt_iff_toInt_lt, Int32.le_iff_toInt_le, ← Int32.toInt_inj]
  repeat' split
  all_goals (simp; try omega)
theorem w_lcmp_eq {x y : Int64} {off : Int} {tgt : Nat} (C : Cx X own cc nL ret nm fr lo) (d0 : decode cc pc = .ok (.lcmp, 1)) (d : decode cc (pc + 1) = .ok (.ifCond .eq off, 3)) (ht : ((pc + 1 : Nat) : Int) + off = (tgt : Int)) (K : (x = y → Wj X k n Q tgt lv st h) ∧ (¬ x = y → Wj X k n Q (pc + 4) lv st h)) : Wj X k n Q pc lv (.long y :: .long x :: st) h := by
  obtain ⟨p, l, e, R, s, m, args, below, meth, c, D, mc, ms⟩ := X
  exact fun h1 h2 ls H locs hl hR hL => W.lcmp C.1 C.2.1 d0 (lv_if_eq C.1 C.2.1 d ht (fun q => K.1 (by have := lcm_eq x y; simp_all) h1 h2 ls H locs hl hR hL) (fun q => K.2 (by have := lcm_eq x y; simp_all) h1 h2 ls H locs hl hR hL))
theorem lcm_ne (x y : Int64) : ¬ lg_cmp x y = 0 ↔ ¬ x = y := by
  unfold lg_cmp
  simp only [gt_iff_lt, Int64.lt_iff_toInt_lt, Int64.le_iff_toInt_le, ← Int64.toInt_inj, Int32.lt_iff_toInt_lt, Int32.le_iff_toInt_le, ← Int32.toInt_inj]
  repeat' split
  all_goals (simp; try omega)
theorem w_lcmp_ne {x y : Int64} {off : Int} {tgt : Nat} (C : Cx X own cc nL ret nm fr lo) (d0 : decode cc pc = .ok (.lcmp, 1)) (d : decode cc (pc + 1) = .ok (.ifCond .ne off, 3)) (ht : ((pc + 1 : Nat) : Int) + off = (tgt : Int)) (K : (¬ x = y → Wj X k n Q tgt lv st h) ∧ (x = y → Wj X k n Q (pc + 4) lv st h)) : Wj X k n Q pc lv (.long y :: .long x :: st) h := by
  obtain ⟨p, l, e, R, s, m, args, below, meth, c, D, mc, ms⟩ := X
  exact fun h1 h2 ls H locs hl hR hL => W.lcmp C.1 C.2.1 d0 (lv_if_ne C.1 C.2.1 d ht (fun q => K.1 (by have := lcm_ne x y; simp_all) h1 h2 ls H locs hl hR hL) (fun q => K.2 (by have := lcm_ne x y; simp_all) h1 h2 ls H locs hl hR hL))
theorem lcm_lt (x y : Int64) : lg_cmp x y < 0 ↔ x < y := by
  unfold lg_cmp
  simp only [gt_iff_lt, Int64.lt_iff_toInt_lt, Int64.le_iff_toInt_le, ← Int64.toInt_inj, Int32.lt_iff_toInt_lt, Int32.le_iff_toInt_le, ← Int32.toInt_inj]
  repeat' split
  all_goals (simp; try omega)
theorem w_lcmp_lt {x y : Int64} {off : Int} {tgt : Nat} (C : Cx X own cc nL ret nm fr lo) (d0 : decode cc pc = .ok (.lcmp, 1)) (d : decode cc (pc + 1) = .ok (.ifCond .lt off, 3)) (ht : ((pc + 1 : Nat) : Int) + off = (tgt : Int)) (K : (x < y → Wj X k n Q tgt lv st h) ∧ (¬ x < y → Wj X k n Q (pc + 4) lv st h)) : Wj X k n Q pc lv (.long y :: .long x :: st) h := by
  obtain ⟨p, l, e, R, s, m, args, below, meth, c, D, mc, ms⟩ := X
  exact fun h1 h2 ls H locs hl hR hL => W.lcmp C.1 C.2.1 d0 (lv_if_lt C.1 C.2.1 d ht (fun q => K.1 (by have := lcm_lt x y; simp_all) h1 h2 ls H locs hl hR hL) (fun q => K.2 (by have := lcm_lt x y; simp_all) h1 h2 ls H locs hl hR hL))
theorem lcm_ge (x y : Int64) : 0 ≤ lg_cmp x y ↔ y ≤ x := by
  unfold lg_cmp
  simp only [gt_iff_lt, Int64.lt_iff_toInt_lt, Int64.le_iff_toInt_le, ← Int64.toInt_inj, Int32.lt_iff_toInt_lt, Int32.le_iff_toInt_le, ← Int32.toInt_inj]
  repeat' split
  all_goals (simp; try omega)
theorem w_lcmp_ge {x y : Int64} {off : Int} {tgt : Nat} (C : Cx X own cc nL ret nm fr lo) (d0 : decode cc pc = .ok (.lcmp, 1)) (d : decode cc (pc + 1) = .ok (.ifCond .ge off, 3)) (ht : ((pc + 1 : Nat) : Int) + off = (tgt : Int)) (K : (y ≤ x → Wj X k n Q tgt lv st h) ∧ (¬ y ≤ x → Wj X k n Q (pc + 4) lv st h)) : Wj X k n Q pc lv (.long y :: .long x :: st) h := by
  obtain ⟨p, l, e, R, s, m, args, below, meth, c, D, mc, ms⟩ := X
  exact fun h1 h2 ls H locs hl hR hL => W.lcmp C.1 C.2.1 d0 (lv_if_ge C.1 C.2.1 d ht (fun q => K.1 (by have := lcm_ge x y; simp_all) h1 h2 ls H locs hl hR hL) (fun q => K.2 (by have := lcm_ge x y; simp_all) h1 h2 ls H locs hl hR hL))
theorem lcm_gt (x y : Int64) : 0 < lg_cmp x y ↔ y < x := by
  unfold lg_cmp
  simp only [gt_iff_lt, Int64.lt_iff_toInt_lt, Int64.le_iff_toInt_le, ← Int64.toInt_inj, Int32.lt_iff_toInt_lt, Int32.le_iff_toInt_le, ← Int32.toInt_inj]
  repeat' split
  all_goals (simp; try omega)
theorem w_lcmp_gt {x y : Int64} {off : Int} {tgt : Nat} (C : Cx X own cc nL ret nm fr lo) (d0 : decode cc pc = .ok (.lcmp, 1)) (d : decode cc (pc + 1) = .ok (.ifCond .gt off, 3)) (ht : ((pc + 1 : Nat) : Int) + off = (tgt : Int)) (K : (y < x → Wj X k n Q tgt lv st h) ∧ (¬ y < x → Wj X k n Q (pc + 4) lv st h)) : Wj X k n Q pc lv (.long y :: .long x :: st) h := by
  obtain ⟨p, l, e, R, s, m, args, below, meth, c, D, mc, ms⟩ := X
  exact fun h1 h2 ls H locs hl hR hL => W.lcmp C.1 C.2.1 d0 (lv_if_gt C.1 C.2.1 d ht (fun q => K.1 (by have := lcm_gt x y; simp_all) h1 h2 ls H locs hl hR hL) (fun q => K.2 (by have := lcm_gt x y; simp_all) h1 h2 ls H locs hl hR hL))
theorem lcm_le (x y : Int64) : lg_cmp x y ≤ 0 ↔ x ≤ y := by
  unfold lg_cmp
  simp only [gt_iff_lt, Int64.lt_iff_toInt_lt, Int64.le_iff_toInt_le, ← Int64.toInt_inj, Int32.lt_iff_toInt_lt, Int32.le_iff_toInt_le, ← Int32.toInt_inj]
  repeat' split
  all_goals (simp; try omega)
theorem w_lcmp_le {x y : Int64} {off : Int} {tgt : Nat} (C : Cx X own cc nL ret nm fr lo) (d0 : decode cc pc = .ok (.lcmp, 1)) (d : decode cc (pc + 1) = .ok (.ifCond .le off, 3)) (ht : ((pc + 1 : Nat) : Int) + off = (tgt : Int)) (K : (x ≤ y → Wj X k n Q tgt lv st h) ∧ (¬ x ≤ y → Wj X k n Q (pc + 4) lv st h)) : Wj X k n Q pc lv (.long y :: .long x :: st) h := by
  obtain ⟨p, l, e, R, s, m, args, below, meth, c, D, mc, ms⟩ := X
  exact fun h1 h2 ls H locs hl hR hL => W.lcmp C.1 C.2.1 d0 (lv_if_le C.1 C.2.1 d ht (fun q => K.1 (by have := lcm_le x y; simp_all) h1 h2 ls H locs hl hR hL) (fun q => K.2 (by have := lcm_le x y; simp_all) h1 h2 ls H locs hl hR hL))
theorem w_goto {off : Int} {tgt : Nat} (C : Cx X own cc nL ret nm fr lo) (d : decode cc pc = .ok (.goto off, 3)) (ht : (pc : Int) + off = (tgt : Int)) (K : Wj X k n Q tgt lv st h) : Wj X k n Q pc lv st h := by
  obtain ⟨p, l, e, R, s, m, args, below, meth, c, D, mc, ms⟩ := X
  exact fun h1 h2 ls H locs hl hR hL => lv_goto C.1 C.2.1 d ht (K h1 h2 ls H locs hl hR hL)
theorem w_ifnonnull {x : Nat} {off : Int} {tgt : Nat} (C : Cx X own cc nL ret nm fr lo) (d : decode cc pc = .ok (.ifnonnull off, 3)) (ht : (pc : Int) + off = (tgt : Int)) (K : Wj X k n Q tgt lv st h) : Wj X k n Q pc lv (.ref x :: st) h := by
  obtain ⟨p, l, e, R, s, m, args, below, meth, c, D, mc, ms⟩ := X
  exact fun h1 h2 ls H locs hl hR hL => lv_ifnonnull C.1 C.2.1 d ht (K h1 h2 ls H locs hl hR hL)
theorem w_ifnonnullN {off : Int} (C : Cx X own cc nL ret nm fr lo) (d : decode cc pc = .ok (.ifnonnull off, 3)) (K : Wj X k n Q (pc + 3) lv st h) : Wj X k n Q pc lv (.null :: st) h := by
  obtain ⟨p, l, e, R, s, m, args, below, meth, c, D, mc, ms⟩ := X
  exact fun h1 h2 ls H locs hl hR hL => lv_ifnonnullN C.1 C.2.1 d (K h1 h2 ls H locs hl hR hL)
theorem w_ldc {idx : Nat} {v : Int32} (C : Cx X own cc nL ret nm fr lo) (w : Cond.constant own idx v ∈ gwd) (d : decode cc pc = .ok (.ldc idx, 2)) (K : Wj X k n Q (pc + 2) lv (.int v :: st) h) : Wj X k n Q pc lv st h := by
  obtain ⟨p, l, e, R, s, m, args, below, meth, c, D, mc, ms⟩ := X
  exact fun h1 h2 ls H locs hl hR hL => lv_ldc C.1 C.2.1 C.2.2.2.1 (C.2.2.2.2.1 _ w) d (K h1 h2 ls H locs hl hR hL)
theorem w_ldcw {idx : Nat} {v : Int32} (C : Cx X own cc nL ret nm fr lo) (w : Cond.constant own idx v ∈ gwd) (d : decode cc pc = .ok (.ldc_w idx, 3)) (K : Wj X k n Q (pc + 3) lv (.int v :: st) h) : Wj X k n Q pc lv st h := by
  obtain ⟨p, l, e, R, s, m, args, below, meth, c, D, mc, ms⟩ := X
  exact fun h1 h2 ls H locs hl hR hL => lv_ldcw C.1 C.2.1 C.2.2.2.1 (C.2.2.2.2.1 _ w) d (K h1 h2 ls H locs hl hR hL)
theorem w_ldc2 {idx : Nat} {v : Int64} (C : Cx X own cc nL ret nm fr lo) (w : Cond.constantLong own idx v ∈ gwd) (d : decode cc pc = .ok (.ldc2_w idx, 3)) (K : Wj X k n Q (pc + 3) lv (.long v :: st) h) : Wj X k n Q pc lv st h := by
  obtain ⟨p, l, e, R, s, m, args, below, meth, c, D, mc, ms⟩ := X
  exact fun h1 h2 ls H locs hl hR hL => lv_ldc2 C.1 C.2.1 C.2.2.2.1 (C.2.2.2.2.1 _ w) d (K h1 h2 ls H locs hl hR hL)
theorem w_iret {x : Int32} (C : Cx X own cc nL (some .int) nm fr lo) (d : decode cc pc = .ok (.ireturn, 1)) (K : Q (some (.int x)) h) : Wj X k n Q pc lv [.int x] h := by
  obtain ⟨p, l, e, R, s, m, args, below, meth, c, D, mc, ms⟩ := X
  obtain ⟨hx, hb, hml, hown, hts, hK, hr, hlk, hnm⟩ := C
  exact fun h1 h2 ls H locs hl hR hL => W.widen h1 h2 (W.iret hx hb hr (fun t ht _ => ⟨_, h, rfl, K, by rw [ht]; exact hR⟩) hL d hlk)
theorem w_lret {x : Int64} (C : Cx X own cc nL (some .long) nm fr lo) (d : decode cc pc = .ok (.lreturn, 1)) (K : Q (some (.long x)) h) : Wj X k n Q pc lv [.long x] h := by
  obtain ⟨p, l, e, R, s, m, args, below, meth, c, D, mc, ms⟩ := X
  obtain ⟨hx, hb, hml, hown, hts, hK, hr, hlk, hnm⟩ := C
  exact fun h1 h2 ls H locs hl hR hL => W.widen h1 h2 (W.lret hx hb hr (fun t ht _ => ⟨_, h, rfl, K, by rw [ht]; exact hR⟩) hL d hlk)
theorem w_zret {x : Int32} (C : Cx X own cc nL (some .boolean) nm fr lo) (d : decode cc pc = .ok (.ireturn, 1)) (hz : x = 0 ∨ x = 1) (K : Q (some (.int x)) h) : Wj X k n Q pc lv [.int x] h := by
  obtain ⟨p, l, e, R, s, m, args, below, meth, c, D, mc, ms⟩ := X
  obtain ⟨hx, hb, hml, hown, hts, hK, hr, hlk, hnm⟩ := C
  have hn : narrow .boolean (.int x) = .int x := by rcases hz with rfl | rfl <;> rfl
  exact fun h1 h2 ls H locs hl hR hL => W.widen h1 h2 (W.zret hx hb hr hn (fun t ht _ => ⟨_, h, rfl, K, by rw [ht]; exact hR⟩) hL d hlk)
theorem w_vret (C : Cx X own cc nL none nm fr lo) (d : decode cc pc = .ok (.return_, 1)) (K : Q none h) : Wj X k n Q pc lv [] h := by
  obtain ⟨p, l, e, R, s, m, args, below, meth, c, D, mc, ms⟩ := X
  obtain ⟨hx, hb, hml, hown, hts, hK, hr, hlk, hnm⟩ := C
  exact fun h1 h2 ls H locs hl hR hL => W.widen h1 h2 (W.vret hx hb hr (fun t ht _ => ⟨_, h, rfl, K, by rw [ht]; exact hR⟩) hL d hlk)
theorem w_aret {x : Nat} {on : String} (C : Cx X own cc nL (some (.object on)) nm fr lo) (d : decode cc pc = .ok (.areturn, 1)) (K : Q (some (.ref x)) h) : Wj X k n Q pc lv [.ref x] h := by
  obtain ⟨p, l, e, R, s, m, args, below, meth, c, D, mc, ms⟩ := X
  obtain ⟨hx, hb, hml, hown, hts, hK, hr, hlk, hnm⟩ := C
  exact fun h1 h2 ls H locs hl hR hL => W.widen h1 h2 (W.aret hx hb hr (Or.inl ⟨_, rfl⟩) (Or.inr ⟨_, rfl⟩) (fun t ht _ => ⟨_, h, rfl, K, by rw [ht]; exact hR⟩) hL d hlk)
end Rows
end
section
-- fields, arrays, new cells, calls over the small heap
def FL (own : String) (idx c f : Nat) : Prop := ∃ r, vwCl[c]? = some r ∧ f < r.2.2 ∧ Cond.fieldLink own idx (r.2.1 f).1 (r.2.1 f).2.1 (r.2.1 f).2.2.1 ∈ gwd
def tyOK (t : Nat) (ty : FieldType) : Prop := (t = 0 → ty = .int) ∧ (t = 1 → ty = .long) ∧ (t = 2 → (∃ o, ty = .object o) ∨ ∃ e, ty = .array e) ∧ t < 3
def ClF (c : Nat) (r : vw_C) : Prop := (∀ w ∈ u_ws r.1 r.2.1 r.2.2, w ∈ gwd) ∧ (∀ f, f < r.2.2 → parseFieldDescriptor (r.2.1 f).2.2.1 = some (tyF c f)) ∧ (∀ a, a < r.2.2 → ∀ b, b < r.2.2 → a ≠ b → (r.2.1 a).2.1 ≠ (r.2.1 b).2.1) ∧ ∀ f, f < r.2.2 → tyOK (fty c f) (tyF c f)
def tyB (t : Nat) (ty : FieldType) : Bool := match t, ty with
  | 0, .int => true
  | 1, .long => true
  | 2, .object _ => true
  | 2, .array _ => true
  | _, _ => false
theorem tyB_ok {t : Nat} {ty : FieldType} (h : tyB t ty = true) : tyOK t ty := by
  unfold tyB at h
  split at h
  · exact ⟨fun _ => rfl, fun e => (by cases e), fun e => (by cases e), by omega⟩
  · exact ⟨fun e => (by cases e), fun _ => rfl, fun e => (by cases e), by omega⟩
  · exact ⟨fun e => (by cases e), fun e => (by cases e), fun _ => Or.inl ⟨_, rfl⟩, by omega⟩
  · exact ⟨fun e => (by cases e), fun e => (by cases e), fun _ => Or.inr ⟨_, rfl⟩, by omega⟩
  · cases h
theorem tyB_all : ∀ c, c < 11 → ∀ f, f < (vwCl.getD c ("", TX0, 0)).2.2 → tyB (fty c f) (tyF c f) = true := by decide +kernel
theorem clF : ∀ (c : Nat) (r : vw_C), vwCl[c]? = some r → ClF c r := by
  intro c r h
  have hb : ∀ f, f < r.2.2 → tyOK (fty c f) (tyF c f) := by
    intro f hf
    have hc : c < 11 := (List.getElem?_eq_some_iff.mp h).1
    refine tyB_ok (tyB_all c hc f ?_)
    have e : vwCl.getD c ("", TX0, 0) = r := by rw [List.getD_eq_getElem?_getD, h]; rfl
    rw [e]; exact hf
  match c, h, hb with
  | 0, h, hb => cases h; exact ⟨uwX0, tyX0_ok, nmX0, hb⟩
  | 1, h, hb => cases h; exact ⟨uwX1, tyX1_ok, nmX1, hb⟩
  | 2, h, hb => cases h; exact ⟨uwX2, tyX2_ok, nmX2, hb⟩
  | 3, h, hb => cases h; exact ⟨uwX3, tyX3_ok, nmX3, hb⟩
  | 4, h, hb => cases h; exact ⟨uwX4, tyX4_ok, nmX4, hb⟩
  | 5, h, hb => cases h; exact ⟨uwX5, tyX5_ok, nmX5, hb⟩
  | 6, h, hb => cases h; exact ⟨uwX6, tyX6_ok, nmX6, hb⟩
  | 7, h, hb => cases h; exact ⟨uwX7, tyX7_ok, nmX7, hb⟩
  | 8, h, hb => cases h; exact ⟨uwX8, tyX8_ok, nmX8, hb⟩
  | 9, h, hb => cases h; exact ⟨uwX9, tyX9_ok, nmX9, hb⟩
  | 10, h, hb => cases h; exact ⟨uwX10, tyX10_ok, nmX10, hb⟩
  | c + 11, h, hb => simp [vwCl] at h
/-- h' is h with one place of a's cell new -/
def Upd (h h' : Hp) (a f t : Nat) (v : Value) : Prop := hn h' = hn h ∧ (∀ b, kd h' b = kd h b) ∧ (∀ b, ln h' b = ln h b) ∧ (∀ b, b ≠ a → ∀ j, gi h' b j = gi h b j ∧ gl h' b j = gl h b j ∧ gr h' b j = gr h b j) ∧ fv h' a f t = v ∧ ∀ j, j ≠ f → ∀ t, fv h' a j t = fv h a j t
theorem upd_si (h : Hp) (a f : Nat) (x : Int32) : Upd h (si h a f x) a f 0 (.int x) := by
  refine ⟨rfl, fun _ => rfl, fun _ => rfl, fun b hb j => ⟨?_, rfl, rfl⟩, ?_, fun j hj t => ?_⟩
  · rw [gi_si, if_neg (fun e => hb e.1)]
  · show Value.int (gi (si h a f x) a f) = _
    rw [gi_si, if_pos ⟨rfl, rfl⟩]
  · unfold fv
    split
    · rw [gi_si, if_neg (fun e => hj e.2)]
    · rfl
    · rfl
theorem upd_sl (h : Hp) (a f : Nat) (x : Int64) : Upd h (sl h a f x) a f 1 (.long x) := by
  refine ⟨rfl, fun _ => rfl, fun _ => rfl, fun b hb j => ⟨rfl, ?_, rfl⟩, ?_, fun j hj t => ?_⟩
  · rw [gl_sl, if_neg (fun e => hb e.1)]
  · show Value.long (gl (sl h a f x) a f) = _
    rw [gl_sl, if_pos ⟨rfl, rfl⟩]
  · unfold fv
    split
    · rfl
    · rw [gl_sl, if_neg (fun e => hj e.2)]
    · rfl
theorem upd_sr (h : Hp) (a f : Nat) (x : Option Nat) : Upd h (sr h a f x) a f 2 (va_rf x) := by
  refine ⟨rfl, fun _ => rfl, fun _ => rfl, fun b hb j => ⟨rfl, rfl, ?_⟩, ?_, fun j hj t => ?_⟩
  · rw [gr_sr, if_neg (fun e => hb e.1)]
  · show va_rf (gr (sr h a f x) a f) = _
    rw [gr_sr, if_pos ⟨rfl, rfl⟩]
  · unfold fv
    split
    · rfl
    · rfl
    · rw [gr_sr, if_neg (fun e => hj e.2)]
theorem RelH.off {D : Dt} {h h' : Hp} {H H' : Heap} {a : Nat} (hR : RelH D h H) (ha : kd h a ≠ 0) (e2 : H'.size = H.size) (e3 : ∀ q : Nat, q ≠ a → H'[q]? = H[q]?) (u1 : hn h' = hn h) (u2 : ∀ b, kd h' b = kd h b) (u3 : ∀ b, b ≠ a → ln h' b = ln h b) (u4 : ∀ b, b ≠ a → ∀ j, gi h' b j = gi h b j ∧ gl h' b j = gl h b j ∧ gr h' b j = gr h b j) (hc : cellR D h' H' a) : RelH D h' H' := by
  obtain ⟨r1, r2, r3, r4⟩ := hR
  refine ⟨by rw [e2, u1]; exact r1, by rw [u1]; exact r2, fun q hq => ?_, fun b hb => ?_⟩
  · rw [e3 q (fun e => by have := (r4 a ha).1; omega)]; exact r3 q hq
  · rw [u2] at hb
    obtain ⟨b1, b2, b3⟩ := r4 b hb
    refine ⟨b1, by rw [u1]; exact b2, ?_⟩
    by_cases hba : b = a
    · rw [hba]; exact hc
    · exact b3.kept (e3 b hba) (u2 b) (u3 b hba) (fun j => (u4 b hba j).1) (fun j => (u4 b hba j).2.1) (fun j => (u4 b hba j).2.2)
theorem vwCl_lt {c : Nat} {r : vw_C} (h : vwCl[c]? = some r) : c < 11 := (List.getElem?_eq_some_iff.mp h).1
theorem RelH.put {D : Dt} {h h' : Hp} {H H' : Heap} {a c f : Nat} {r : vw_C} {v : Value} {cell : Cell} (hR : RelH D h H) (hk : kd h a = c + 1) (hc : vwCl[c]? = some r) (hf : f < r.2.2) (hap : ∀ x y, x < r.2.2 → y < r.2.2 → x ≠ y → D.1.2 c x ≠ D.1.2 c y)
    (q1 : H[a]? = some cell) (e1 : H'[a]? = some (cell.setSlot (D.1.2 c f) v)) (e2 : H'.size = H.size) (e3 : ∀ q : Nat, q ≠ a → H'[q]? = H[q]?) (u : Upd h h' a f (fty c f) v) : RelH D h' H' := by
  obtain ⟨u1, u2, u3, u4, u5, u6⟩ := u
  have hlt := vwCl_lt hc
  refine hR.off (by omega) e2 e3 u1 u2 (fun b _ => u3 b) u4 ⟨fun c' r' hk' hc' => ?_, fun h9 => ?_, fun h9 => ?_, fun h9 => ?_, fun h9 => ?_, fun h9 => ?_⟩
  · rw [u2, hk] at hk'
    have ec : c' = c := by omega
    subst ec
    have er : r' = r := Option.some.inj (hc'.symm.trans hc)
    subst er
    obtain ⟨cell', p1, p2, p3, p4⟩ := (hR.2.2.2 a (by omega)).2.2.1 _ _ hk hc
    have ecl : cell' = cell := Option.some.inj (p1.symm.trans q1)
    subst ecl
    refine t_OB.to (V := updV (fun j => fv h a j (fty c' j)) f v) ⟨_, e1, p2, p3, t_set p4 hap hf v⟩ (fun j hj => ?_)
    unfold updV
    by_cases hjf : j = f
    · subst hjf; simp [u5]
    · simp [hjf, u6 j hjf]
  all_goals (rw [u2, hk] at h9; omega)
section HeapRows
variable {X : Ctx} {k n : Nat} {Q : Pq} {pc : Nat} {lv : List (Nat × Value)} {st : List Value} {h : Hp} {own : String} {cc : ByteArray} {nL : Nat} {ret : Option FieldType} {nm : String} {fr lo : Nat} {a c f idx : Nat}
theorem w_get0 (C : Cx X own cc nL ret nm fr lo) (F : FL own idx c f) (hk : kd h a = c + 1) (d : decode cc pc = .ok (.getfield idx, 3)) (K : Wj X k n Q (pc + 3) lv (fv h a f (fty c f) :: st) h) : Wj X k n Q pc lv (.ref a :: st) h := by
  obtain ⟨p, l, e, R, s, m, args, below, meth, c0, D, mc, ms⟩ := X
  intro h1 h2 ls H locs hl hR hL
  obtain ⟨r, hc, hkN, hlink⟩ := F
  obtain ⟨hx, hb, hml, hown, hts, hK, hr⟩ := C
  obtain ⟨hin, hty, hnm, -⟩ := clF c r hc
  obtain ⟨cell, q1, q2, q3, q4⟩ := (hR.2.2.2 a (by omega)).2.2.1 _ _ hk hc
  obtain ⟨hS, hfc, kC, hkC, hkind⟩ := hK.1.1 c r hc
  obtain ⟨cf, kf, fi, fd, hi, hsl⟩ := hS f hkN
  refine W.getf hx hb hown (hts _ hlink) hi (u_facts hfc hkC (u_lays hts hin hkN) hi).1 q1 (by rw [q3]; exact fun h => by cases h) (v := fv h a f (fty c f)) ?_ rfl rfl d (K h1 h2 ls H locs hl hR hL)
  rw [hsl, q4 f hkN]
theorem w_getI (C : Cx X own cc nL ret nm fr lo) (F : FL own idx c f) (ht : fty c f = 0) (d : decode cc pc = .ok (.getfield idx, 3)) (hk : kd h a = c + 1) (K : Wj X k n Q (pc + 3) lv (.int (gi h a f) :: st) h) : Wj X k n Q pc lv (.ref a :: st) h := w_get0 C F hk d (by rw [ht]; exact K)
theorem w_getL (C : Cx X own cc nL ret nm fr lo) (F : FL own idx c f) (ht : fty c f = 1) (d : decode cc pc = .ok (.getfield idx, 3)) (hk : kd h a = c + 1) (K : Wj X k n Q (pc + 3) lv (.long (gl h a f) :: st) h) : Wj X k n Q pc lv (.ref a :: st) h := w_get0 C F hk d (by rw [ht]; exact K)
theorem w_getR {b : Nat} (C : Cx X own cc nL ret nm fr lo) (F : FL own idx c f) (ht : fty c f = 2) (d : decode cc pc = .ok (.getfield idx, 3)) (hk : kd h a = c + 1) (hb : gr h a f = some b) (K : Wj X k n Q (pc + 3) lv (.ref b :: st) h) : Wj X k n Q pc lv (.ref a :: st) h := w_get0 C F hk d (by rw [ht]; show Wj X k n Q (pc + 3) lv (va_rf (gr h a f) :: st) h; rw [hb]; exact K)
theorem w_getQ (C : Cx X own cc nL ret nm fr lo) (F : FL own idx c f) (ht : fty c f = 2) (d : decode cc pc = .ok (.getfield idx, 3)) (hk : kd h a = c + 1) (K : (gr h a f = none → Wj X k n Q (pc + 3) lv (.null :: st) h) ∧ (∀ b, gr h a f = some b → Wj X k n Q (pc + 3) lv (.ref b :: st) h)) : Wj X k n Q pc lv (.ref a :: st) h := w_get0 C F hk d (by
  rw [ht]; show Wj X k n Q (pc + 3) lv (va_rf (gr h a f) :: st) h
  cases hb : gr h a f with
  | none => exact K.1 hb
  | some b => exact K.2 b hb)
theorem w_put0 {v : Value} {h' : Hp} (C : Cx X own cc nL ret nm fr lo) (F : FL own idx c f) (hfin : ((vwCl.getD c ("", TX0, 0)).2.1 f).2.2.2 = false) (d : decode cc pc = .ok (.putfield idx, 3)) (hk : kd h a = c + 1) (hnr : narrow (tyF c f) v = v) (hfit : fits (tyF c f) v = true) (u : Upd h h' a f (fty c f) v) (K : Wj X k n Q (pc + 3) lv st h') : Wj X k n Q pc lv (v :: .ref a :: st) h := by
  obtain ⟨p, l, e, R, s, m, args, below, meth, c0, D, mc, ms⟩ := X
  intro h1 h2 ls H locs hl hR hL
  obtain ⟨r, hc, hkN, hlink⟩ := F
  obtain ⟨hx, hb, hml, hown, hts, hK, hr⟩ := C
  obtain ⟨hin, hty, hnm, -⟩ := clF c r hc
  have hap := va_apart (own := own) hts hin (tyF c) hty hnm hK.1 hc
  obtain ⟨cell, q1, q2, q3, q4⟩ := (hR.2.2.2 a (by omega)).2.2.1 _ _ hk hc
  obtain ⟨hS, hfc, kC, hkC, hkind⟩ := hK.1.1 c r hc
  obtain ⟨cf, kf, fi, fd, hi, hsl⟩ := hS f hkN
  have hfin : (r.2.1 f).2.2.2 = false := by
    have e : vwCl.getD c ("", TX0, 0) = r := by rw [List.getD_eq_getElem?_getD, hc]; rfl
    rw [e] at hfin; exact hfin
  have hlay := hts _ (hin _ (u_in_lay hkN))
  unfold u_lay at hlay
  rw [if_neg (by rw [hfin]; decide)] at hlay
  have hst := (u_facts hfc hkC (u_lays hts hin hkN) hi).1
  have h6 := u_store hfc hkC hkind hlay hi (hty f hkN) hnr hfit
  refine W.putK hx hb (f := fd) ⟨hown, hts _ hlink, ⟨_, _, _, hi⟩, hst⟩ (by rw [q2]; exact h6) q1 q3 (by rw [hsl]; exact k2_hasslot (q4 f hkN)) rfl rfl d fun H' e1 e2 e3 => ?_
  rw [hsl] at e1
  refine K h1 h2 ls H' _ hl (hR.put hk hc hkN (fun x y hx hy hne => hap x y hx hy hne) q1 e1 e2 e3 u) (fun q hq => ?_)
  rcases List.mem_append.mp hq with hq | hq
  · exact hL q hq
  · cases List.mem_singleton.mp hq
    exact (hR.2.2.2 a (by omega)).1
theorem w_putF0 {v : Value} {h' : Hp} (C : Cx X own cc nL ret "<init>" fr lo) (F : FL own idx c f) (hfin : ((vwCl.getD c ("", TX0, 0)).2.1 f).2.2.2 = true) (hdecl : ((vwCl.getD c ("", TX0, 0)).2.1 f).1 = own) (d : decode cc pc = .ok (.putfield idx, 3)) (hk : kd h a = c + 1) (hnr : narrow (tyF c f) v = v) (hfit : fits (tyF c f) v = true) (u : Upd h h' a f (fty c f) v) (K : Wj X k n Q (pc + 3) lv st h') : Wj X k n Q pc lv (v :: .ref a :: st) h := by
  obtain ⟨p, l, e, R, s, m, args, below, meth, c0, D, mc, ms⟩ := X
  intro h1 h2 ls H locs hl hR hL
  obtain ⟨r, hc, hkN, hlink⟩ := F
  obtain ⟨hx, hb, hml, hown, hts, hK, hr, hlk, hnmI, -⟩ := C
  obtain ⟨hin, hty, hnm, -⟩ := clF c r hc
  have hap := va_apart (own := own) hts hin (tyF c) hty hnm hK.1 hc
  obtain ⟨cell, q1, q2, q3, q4⟩ := (hR.2.2.2 a (by omega)).2.2.1 _ _ hk hc
  obtain ⟨hS, hfc, kC, hkC, hkind⟩ := hK.1.1 c r hc
  obtain ⟨cf, kf, fi, fd, hi, hsl⟩ := hS f hkN
  have e : vwCl.getD c ("", TX0, 0) = r := by rw [List.getD_eq_getElem?_getD, hc]; rfl
  rw [e] at hfin hdecl
  have hlay := hts _ (hin _ (u_in_lay hkN))
  unfold u_lay at hlay
  rw [if_pos hfin] at hlay
  have hst := (u_facts hfc hkC (u_lays hts hin hkN) hi).1
  have hcf : m.cls = cf := by
    obtain ⟨_, _, c', _, _, _, -, -, hf', -, -, -, hown2, -⟩ := Cond.laysFinal_spec hlay
    have e1 : c' = cf := by have := hi.symm.trans hf'; simp at this; exact this.1.symm
    rw [hdecl] at hown2
    rw [← e1]; exact Option.some.inj (hown.symm.trans hown2)
  have h6 := u_fits hfc hkC hkind (Or.inr hlay) hi (hty f hkN) hnr hfit
  refine W.putFinK hx hb hown (hts _ hlink) hi hst hcf hnmI (by rw [q2]; exact h6) q1 q3 (by rw [hsl]; exact k2_hasslot (q4 f hkN)) rfl rfl d fun H' e1 e2 e3 => ?_
  rw [hsl] at e1
  refine K h1 h2 ls H' _ hl (hR.put hk hc hkN (fun x y hx hy hne => hap x y hx hy hne) q1 e1 e2 e3 u) (fun q hq => ?_)
  rcases List.mem_append.mp hq with hq | hq
  · exact hL q hq
  · cases List.mem_singleton.mp hq
    exact (hR.2.2.2 a (by omega)).1
theorem tyI {c f : Nat} {ty : FieldType} (F : tyOK (fty c f) ty) (ht : fty c f = 0) (x : Int32) : narrow ty (.int x) = .int x ∧ fits ty (.int x) = true := by
  rw [F.1 ht]; exact ⟨rfl, rfl⟩
theorem tyL {c f : Nat} {ty : FieldType} (F : tyOK (fty c f) ty) (ht : fty c f = 1) (x : Int64) : narrow ty (.long x) = .long x ∧ fits ty (.long x) = true := by
  rw [F.2.1 ht]; exact ⟨rfl, rfl⟩
theorem tyR {c f : Nat} {ty : FieldType} (F : tyOK (fty c f) ty) (ht : fty c f = 2) (x : Nat) : narrow ty (.ref x) = .ref x ∧ fits ty (.ref x) = true := by
  rcases F.2.2.1 ht with ⟨o, rfl⟩ | ⟨o, rfl⟩ <;> exact ⟨rfl, rfl⟩
theorem tyN {c f : Nat} {ty : FieldType} (F : tyOK (fty c f) ty) (ht : fty c f = 2) : narrow ty .null = .null ∧ fits ty .null = true := by
  rcases F.2.2.1 ht with ⟨o, rfl⟩ | ⟨o, rfl⟩ <;> exact ⟨rfl, rfl⟩
theorem FL.ty (F : FL own idx c f) : tyOK (fty c f) (tyF c f) := by
  obtain ⟨r, hc, hf, -⟩ := F
  exact (clF c r hc).2.2.2 f hf
theorem w_putI {x : Int32} (C : Cx X own cc nL ret nm fr lo) (F : FL own idx c f) (hfin : ((vwCl.getD c ("", TX0, 0)).2.1 f).2.2.2 = false) (ht : fty c f = 0) (d : decode cc pc = .ok (.putfield idx, 3)) (hk : kd h a = c + 1) (K : Wj X k n Q (pc + 3) lv st (si h a f x)) : Wj X k n Q pc lv (.int x :: .ref a :: st) h :=
  w_put0 C F hfin d hk (tyI F.ty ht x).1 (tyI F.ty ht x).2 (by rw [ht]; exact upd_si h a f x) K
theorem w_putL {x : Int64} (C : Cx X own cc nL ret nm fr lo) (F : FL own idx c f) (hfin : ((vwCl.getD c ("", TX0, 0)).2.1 f).2.2.2 = false) (ht : fty c f = 1) (d : decode cc pc = .ok (.putfield idx, 3)) (hk : kd h a = c + 1) (K : Wj X k n Q (pc + 3) lv st (sl h a f x)) : Wj X k n Q pc lv (.long x :: .ref a :: st) h :=
  w_put0 C F hfin d hk (tyL F.ty ht x).1 (tyL F.ty ht x).2 (by rw [ht]; exact upd_sl h a f x) K
theorem w_putR {x : Nat} (C : Cx X own cc nL ret nm fr lo) (F : FL own idx c f) (hfin : ((vwCl.getD c ("", TX0, 0)).2.1 f).2.2.2 = false) (ht : fty c f = 2) (d : decode cc pc = .ok (.putfield idx, 3)) (hk : kd h a = c + 1) (K : Wj X k n Q (pc + 3) lv st (sr h a f (some x))) : Wj X k n Q pc lv (.ref x :: .ref a :: st) h :=
  w_put0 C F hfin d hk (tyR F.ty ht x).1 (tyR F.ty ht x).2 (by rw [ht]; exact upd_sr h a f (some x)) K
theorem w_putN (C : Cx X own cc nL ret nm fr lo) (F : FL own idx c f) (hfin : ((vwCl.getD c ("", TX0, 0)).2.1 f).2.2.2 = false) (ht : fty c f = 2) (d : decode cc pc = .ok (.putfield idx, 3)) (hk : kd h a = c + 1) (K : Wj X k n Q (pc + 3) lv st (sr h a f none)) : Wj X k n Q pc lv (.null :: .ref a :: st) h :=
  w_put0 C F hfin d hk (tyN F.ty ht).1 (tyN F.ty ht).2 (by rw [ht]; exact upd_sr h a f none) K
theorem w_putRF {x : Nat} (C : Cx X own cc nL ret "<init>" fr lo) (F : FL own idx c f) (hfin : ((vwCl.getD c ("", TX0, 0)).2.1 f).2.2.2 = true) (hdecl : ((vwCl.getD c ("", TX0, 0)).2.1 f).1 = own) (ht : fty c f = 2) (d : decode cc pc = .ok (.putfield idx, 3)) (hk : kd h a = c + 1) (K : Wj X k n Q (pc + 3) lv st (sr h a f (some x))) : Wj X k n Q pc lv (.ref x :: .ref a :: st) h :=
  w_putF0 C F hfin hdecl d hk (tyR F.ty ht x).1 (tyR F.ty ht x).2 (by rw [ht]; exact upd_sr h a f (some x)) K
end HeapRows
end
section
-- arrays, new cells, calls
/-- an array's row of contents, as the machine has it -/
def arrF (h : Hp) (a t : Nat) : Nat → Value := match t with
  | 1 => fun j => .long (gl h a j)
  | 4 => fun j => va_rf (gr h a j)
  | _ => fun j => .int (gi h a j)
theorem RelH.arr {D : Dt} {h : Hp} {H : Heap} {a : Nat} (t : Nat) (hR : RelH D h H) (hk : kd h a = 20 + t) (ht : t < 5) : H[a]? = some (arrV (D.2.1 t) (ln h a) (arrF h a t)) := by
  obtain ⟨c0, c1, c2, c3, c4, c5⟩ := (hR.2.2.2 a (by omega)).2.2
  match t, ht with
  | 0, _ => exact c1 hk
  | 1, _ => exact c2 hk
  | 2, _ => exact c3 hk
  | 3, _ => exact c4 hk
  | 4, _ => exact c5 hk
theorem cellR.arr {D : Dt} {h : Hp} {H : Heap} {a t : Nat} (hk : kd h a = 20 + t) (ht : t < 5) (e : H[a]? = some (arrV (D.2.1 t) (ln h a) (arrF h a t))) : cellR D h H a := by
  refine ⟨fun c r hk' hc => ?_, fun h9 => ?_, fun h9 => ?_, fun h9 => ?_, fun h9 => ?_, fun h9 => ?_⟩
  · have := vwCl_lt hc; omega
  all_goals (first
    | (have e9 : t = 0 := by omega
       subst e9; exact e)
    | (have e9 : t = 1 := by omega
       subst e9; exact e)
    | (have e9 : t = 2 := by omega
       subst e9; exact e)
    | (have e9 : t = 3 := by omega
       subst e9; exact e)
    | (have e9 : t = 4 := by omega
       subst e9; exact e))
theorem arrV_set (cI : ClassId) (N : Nat) (f : Nat → Value) (i : Nat) (v : Value) : (arrV cI N f).setSlot i v = arrV cI N (updV f i v) := arrV_store cI N i f v
theorem RelH.putA {D : Dt} {h h' : Hp} {H H' : Heap} {a t i : Nat} {v : Value} (hR : RelH D h H) (hk : kd h a = 20 + t) (ht : t < 5)
    (e1 : H'[a]? = some ((arrV (D.2.1 t) (ln h a) (arrF h a t)).setSlot i v)) (e2 : H'.size = H.size) (e3 : ∀ q : Nat, q ≠ a → H'[q]? = H[q]?) (u1 : hn h' = hn h) (u2 : ∀ b, kd h' b = kd h b) (u3 : ∀ b, ln h' b = ln h b) (u4 : ∀ b, b ≠ a → ∀ j, gi h' b j = gi h b j ∧ gl h' b j = gl h b j ∧ gr h' b j = gr h b j) (u5 : arrF h' a t = updV (arrF h a t) i v) : RelH D h' H' := by
  refine hR.off (by omega) e2 e3 u1 u2 (fun b _ => u3 b) u4 (cellR.arr (t := t) (by rw [u2]; exact hk) ht ?_)
  rw [e1, arrV_set, u5, u3]
theorem inb_vp {i : Int32} {N : Nat} (h : 0 ≤ i.toInt ∧ i.toInt < N) : vp_in i N := by
  intro q
  rcases q with q | q
  · have := Int32.lt_iff_toInt_lt.mp q
    simp at this; omega
  · have e : (i.toNatClampNeg : Int) = i.toInt := by
      show ((i.toInt.toNat : Nat) : Int) = _
      omega
    omega
/-- an index lies within -/
def inb (i : Int32) (N : Nat) : Prop := 0 ≤ i.toInt ∧ i.toInt < N
/-- an index as a number -/
def ix (i : Int32) : Nat := i.toInt.toNat
theorem ix_clamp (i : Int32) : i.toNatClampNeg = ix i := rfl
theorem ix_lt {i : Int32} {N : Nat} (h : inb i N) : ix i < N := by
  unfold ix inb at *; omega
theorem inb_not {i : Int32} {N : Nat} (h : inb i N) : ¬ (i < 0 ∨ N ≤ i.toNatClampNeg) := inb_vp h
section Arr
variable {X : Ctx} {k n : Nat} {Q : Pq} {pc : Nat} {lv : List (Nat × Value)} {st : List Value} {h : Hp} {own : String} {cc : ByteArray} {nL : Nat} {ret : Option FieldType} {nm : String} {fr lo : Nat} {a c f idx : Nat} {i : Int32}
theorem isArrT {D : Dt} {s : State} (hK : Kn D s) (t : Nat) (ty : FieldType) (ht : (tysD D)[t]? = some (D.2.1 t, ty)) (N : Nat) (z : Nat → Value) : s.isArrayOf (arrV (D.2.1 t) N z) ty := (hK.1.2 t _ ht).1 N z
theorem w_iald (C : Cx X own cc nL ret nm fr lo) (d : decode cc pc = .ok (.iaload, 1)) (hk : kd h a = 20) (hi : inb i (ln h a)) (K : Wj X k n Q (pc + 1) lv (.int (gi h a (ix i)) :: st) h) : Wj X k n Q pc lv (.int i :: .ref a :: st) h := by
  obtain ⟨p, l, e, R, s, m, args, below, meth, c0, D, mc, ms⟩ := X
  intro h1 h2 ls H locs hl hR hL
  exact W.iald (v := .int (gi h a (ix i))) C.1 C.2.1 (hR.arr 0 hk (by omega)) (isArrT C.2.2.2.2.2.1 0 .int rfl _ _) (fun q => by cases q) (by rw [arrV_size]; exact inb_not hi) (by rw [ix_clamp, arrV_read _ _ (ix_lt hi)]; rfl) rfl rfl d (K h1 h2 ls H locs hl hR hL)
theorem w_lald (C : Cx X own cc nL ret nm fr lo) (d : decode cc pc = .ok (.laload, 1)) (hk : kd h a = 21) (hi : inb i (ln h a)) (K : Wj X k n Q (pc + 1) lv (.long (gl h a (ix i)) :: st) h) : Wj X k n Q pc lv (.int i :: .ref a :: st) h := by
  obtain ⟨p, l, e, R, s, m, args, below, meth, c0, D, mc, ms⟩ := X
  intro h1 h2 ls H locs hl hR hL
  exact W.lald (v := .long (gl h a (ix i))) C.1 C.2.1 (hR.arr 1 hk (by omega)) (isArrT C.2.2.2.2.2.1 1 .long rfl _ _) (fun q => by cases q) (by rw [arrV_size]; exact inb_not hi) (by rw [ix_clamp, arrV_read _ _ (ix_lt hi)]; rfl) rfl rfl d (K h1 h2 ls H locs hl hR hL)
theorem w_cald (C : Cx X own cc nL ret nm fr lo) (d : decode cc pc = .ok (.caload, 1)) (hk : kd h a = 22) (hi : inb i (ln h a)) (K : Wj X k n Q (pc + 1) lv (.int (gi h a (ix i)) :: st) h) : Wj X k n Q pc lv (.int i :: .ref a :: st) h := by
  obtain ⟨p, l, e, R, s, m, args, below, meth, c0, D, mc, ms⟩ := X
  intro h1 h2 ls H locs hl hR hL
  exact W.cald (v := .int (gi h a (ix i))) C.1 C.2.1 (hR.arr 2 hk (by omega)) (isArrT C.2.2.2.2.2.1 2 .char rfl _ _) (fun q => by cases q) (by rw [arrV_size]; exact inb_not hi) (by rw [ix_clamp, arrV_read _ _ (ix_lt hi)]; rfl) rfl rfl d (K h1 h2 ls H locs hl hR hL)
theorem w_zald (C : Cx X own cc nL ret nm fr lo) (d : decode cc pc = .ok (.baload, 1)) (hk : kd h a = 23) (hi : inb i (ln h a)) (K : Wj X k n Q (pc + 1) lv (.int (gi h a (ix i)) :: st) h) : Wj X k n Q pc lv (.int i :: .ref a :: st) h := by
  obtain ⟨p, l, e, R, s, m, args, below, meth, c0, D, mc, ms⟩ := X
  intro h1 h2 ls H locs hl hR hL
  exact W.zald (v := .int (gi h a (ix i))) C.1 C.2.1 (hR.arr 3 hk (by omega)) (isArrT C.2.2.2.2.2.1 3 .boolean rfl _ _) (fun q => by cases q) (by rw [arrV_size]; exact inb_not hi) (by rw [ix_clamp, arrV_read _ _ (ix_lt hi)]; rfl) rfl rfl d (K h1 h2 ls H locs hl hR hL)
theorem w_aald (C : Cx X own cc nL ret nm fr lo) (d : decode cc pc = .ok (.aaload, 1)) (hk : kd h a = 24) (hi : inb i (ln h a)) (K : (gr h a (ix i) = none → Wj X k n Q (pc + 1) lv (.null :: st) h) ∧ (∀ b, gr h a (ix i) = some b → Wj X k n Q (pc + 1) lv (.ref b :: st) h)) : Wj X k n Q pc lv (.int i :: .ref a :: st) h := by
  obtain ⟨p, l, e, R, s, m, args, below, meth, c0, D, mc, ms⟩ := X
  intro h1 h2 ls H locs hl hR hL
  refine W.aald (v := va_rf (gr h a (ix i))) (ty := .object "DividingHead$Head") C.1 C.2.1 (hR.arr 4 hk (by omega)) (isArrT C.2.2.2.2.2.1 4 _ rfl _ _) rfl (fun q => by cases q) (by rw [arrV_size]; exact inb_not hi) (by rw [ix_clamp, arrV_read _ _ (ix_lt hi)]; rfl) rfl rfl d ?_
  cases hb : gr h a (ix i) with
  | none => exact K.1 hb h1 h2 ls H locs hl hR hL
  | some b => exact K.2 b hb h1 h2 ls H locs hl hR hL
theorem w_alen (t : Nat) (ht : t < 5) (C : Cx X own cc nL ret nm fr lo) (d : decode cc pc = .ok (.arraylength, 1)) (hk : kd h a = 20 + t) (K : Wj X k n Q (pc + 1) lv (.int (Int32.ofNat (ln h a)) :: st) h) : Wj X k n Q pc lv (.ref a :: st) h := by
  obtain ⟨p, l, e, R, s, m, args, below, meth, c0, D, mc, ms⟩ := X
  intro h1 h2 ls H locs hl hR hL
  have hg : ∃ ty, (tysD D)[t]? = some (D.2.1 t, ty) := by
    match t, ht with
    | 0, _ => exact ⟨_, rfl⟩
    | 1, _ => exact ⟨_, rfl⟩
    | 2, _ => exact ⟨_, rfl⟩
    | 3, _ => exact ⟨_, rfl⟩
    | 4, _ => exact ⟨_, rfl⟩
  obtain ⟨ty, hty⟩ := hg
  exact W.alen C.1 C.2.1 (hR.arr t hk ht) (isArrT C.2.2.2.2.2.1 t ty hty _ _) (by rw [arrV_size]) rfl rfl d (K h1 h2 ls H locs hl hR hL)
theorem locs_app {b : Nat} {locs L : List Loc} (h1 : ∀ q ∈ locs, b ≤ q.base) (h2 : ∀ q ∈ L, b ≤ q.base) : ∀ q ∈ locs ++ L, b ≤ q.base := fun q hq => (List.mem_append.mp hq).elim (h1 q) (h2 q)
theorem locs_one {b a j : Nat} (h : b ≤ a) : ∀ q ∈ ([⟨a, j⟩] : List Loc), b ≤ q.base := fun q hq => by cases List.mem_singleton.mp hq; exact h
theorem arrF_si {h : Hp} {a i t : Nat} {x : Int32} (h0 : t ≠ 1) (h4 : t ≠ 4) : arrF (si h a i x) a t = updV (arrF h a t) i (.int x) := by
  unfold arrF
  split
  · omega
  · omega
  · funext j
    unfold updV
    rw [gi_si]
    by_cases e : j = i <;> simp [e]
theorem arrF_sl {h : Hp} {a i : Nat} {x : Int64} : arrF (sl h a i x) a 1 = updV (arrF h a 1) i (.long x) := by
  unfold arrF
  funext j
  unfold updV
  show Value.long (gl (sl h a i x) a j) = _
  rw [gl_sl]
  by_cases e : j = i <;> simp [e]
theorem arrF_sr {h : Hp} {a i : Nat} {x : Option Nat} : arrF (sr h a i x) a 4 = updV (arrF h a 4) i (va_rf x) := by
  unfold arrF
  funext j
  unfold updV
  show va_rf (gr (sr h a i x) a j) = _
  rw [gr_sr]
  by_cases e : j = i <;> simp [e]
theorem w_iast {x : Int32} (C : Cx X own cc nL ret nm fr lo) (d : decode cc pc = .ok (.iastore, 1)) (hk : kd h a = 20) (hi : inb i (ln h a)) (K : Wj X k n Q (pc + 1) lv st (si h a (ix i) x)) : Wj X k n Q pc lv (.int x :: .int i :: .ref a :: st) h := by
  obtain ⟨p, l, e, R, s, m, args, below, meth, c0, D, mc, ms⟩ := X
  intro h1 h2 ls H locs hl hR hL
  refine W.iast C.1 C.2.1 (hR.arr 0 hk (by omega)) (isArrT C.2.2.2.2.2.1 0 .int rfl _ _) (fun q => by cases q) (by rw [arrV_size]; exact inb_not hi) rfl rfl d fun H' e1 e2 e3 => K h1 h2 ls H' _ hl ?_ (locs_app hL (locs_one (hR.2.2.2 a (by omega)).1))
  exact hR.putA (t := 0) hk (by omega) e1 e2 e3 rfl (fun _ => rfl) (fun _ => rfl) (fun b hb j => ⟨by rw [gi_si, if_neg (fun q => hb q.1)], rfl, rfl⟩) (arrF_si (by omega) (by omega))
theorem w_last {x : Int64} (C : Cx X own cc nL ret nm fr lo) (d : decode cc pc = .ok (.lastore, 1)) (hk : kd h a = 21) (hi : inb i (ln h a)) (K : Wj X k n Q (pc + 1) lv st (sl h a (ix i) x)) : Wj X k n Q pc lv (.long x :: .int i :: .ref a :: st) h := by
  obtain ⟨p, l, e, R, s, m, args, below, meth, c0, D, mc, ms⟩ := X
  intro h1 h2 ls H locs hl hR hL
  refine W.last C.1 C.2.1 (hR.arr 1 hk (by omega)) (isArrT C.2.2.2.2.2.1 1 .long rfl _ _) (fun q => by cases q) (by rw [arrV_size]; exact inb_not hi) rfl rfl d fun H' e1 e2 e3 => K h1 h2 ls H' _ hl ?_ (locs_app hL (locs_one (hR.2.2.2 a (by omega)).1))
  exact hR.putA (t := 1) hk (by omega) e1 e2 e3 rfl (fun _ => rfl) (fun _ => rfl) (fun b hb j => ⟨rfl, by rw [gl_sl, if_neg (fun q => hb q.1)], rfl⟩) arrF_sl
theorem w_cast {x : Int32} (C : Cx X own cc nL ret nm fr lo) (d : decode cc pc = .ok (.castore, 1)) (hk : kd h a = 22) (hi : inb i (ln h a)) (K : Wj X k n Q (pc + 1) lv st (si h a (ix i) (vp_nar .char x))) : Wj X k n Q pc lv (.int x :: .int i :: .ref a :: st) h := by
  obtain ⟨p, l, e, R, s, m, args, below, meth, c0, D, mc, ms⟩ := X
  intro h1 h2 ls H locs hl hR hL
  refine W.cast C.1 C.2.1 (hR.arr 2 hk (by omega)) (isArrT C.2.2.2.2.2.1 2 .char rfl _ _) (fun q => by cases q) (by rw [arrV_size]; exact inb_not hi) rfl rfl d fun H' e1 e2 e3 => K h1 h2 ls H' _ hl ?_ (locs_app hL (locs_one (hR.2.2.2 a (by omega)).1))
  exact hR.putA (t := 2) hk (by omega) e1 e2 e3 rfl (fun _ => rfl) (fun _ => rfl) (fun b hb j => ⟨by rw [gi_si, if_neg (fun q => hb q.1)], rfl, rfl⟩) (arrF_si (by omega) (by omega))
theorem w_zast {x : Int32} (C : Cx X own cc nL ret nm fr lo) (d : decode cc pc = .ok (.bastore, 1)) (hk : kd h a = 23) (hi : inb i (ln h a)) (K : Wj X k n Q (pc + 1) lv st (si h a (ix i) (vp_nar .boolean x))) : Wj X k n Q pc lv (.int x :: .int i :: .ref a :: st) h := by
  obtain ⟨p, l, e, R, s, m, args, below, meth, c0, D, mc, ms⟩ := X
  intro h1 h2 ls H locs hl hR hL
  refine W.zast C.1 C.2.1 (hR.arr 3 hk (by omega)) (isArrT C.2.2.2.2.2.1 3 .boolean rfl _ _) (fun q => by cases q) (by rw [arrV_size]; exact inb_not hi) rfl rfl d fun H' e1 e2 e3 => K h1 h2 ls H' _ hl ?_ (locs_app hL (locs_one (hR.2.2.2 a (by omega)).1))
  exact hR.putA (t := 3) hk (by omega) e1 e2 e3 rfl (fun _ => rfl) (fun _ => rfl) (fun b hb j => ⟨by rw [gi_si, if_neg (fun q => hb q.1)], rfl, rfl⟩) (arrF_si (by omega) (by omega))
theorem w_aast {x : Nat} (C : Cx X own cc nL ret nm fr lo) (d : decode cc pc = .ok (.aastore, 1)) (hk : kd h a = 24) (hi : inb i (ln h a)) (hx : kd h x = 5) (K : Wj X k n Q (pc + 1) lv st (sr h a (ix i) (some x))) : Wj X k n Q pc lv (.ref x :: .int i :: .ref a :: st) h := by
  obtain ⟨p, l, e, R, s, m, args, below, meth, c0, D, mc, ms⟩ := X
  intro h1 h2 ls H locs hl hR hL
  have hK := C.2.2.2.2.2.1
  obtain ⟨cv, v1, v2, v3, v4⟩ := (hR.2.2.2 x (by omega)).2.2.1 4 _ hx rfl
  obtain ⟨hS, hfc, kC, hkC, hkind⟩ := hK.1.1 4 _ rfl
  obtain ⟨kA, comp, g1, g2, g3, g4⟩ := (hK.1.2 4 _ rfl).2
  have e9 : comp = D.1.1 4 := Option.some.inj (g3.symm.trans hfc)
  subst e9
  refine W.aast C.1 C.2.1 (hR.arr 4 hk (by omega)) (fun q h => by cases h) (fun q => by cases q) g1 g2 rfl hkC ⟨fun q => inb_not hi (Or.inl q), by rw [arrV_size]; exact Nat.lt_of_not_le fun q => inb_not hi (Or.inr q)⟩ v1 (fun q h => by rw [v3] at h; cases h) (by rw [v2]; exact hkC) (by rw [v2]; exact va_asg _ _) rfl rfl d fun H' e1 e2 e3 => K h1 h2 ls H' _ hl ?_ (locs_app hL (locs_one (hR.2.2.2 a (by omega)).1))
  exact hR.putA (t := 4) hk (by omega) e1 e2 e3 rfl (fun _ => rfl) (fun _ => rfl) (fun b hb j => ⟨rfl, rfl, by rw [gr_sr, if_neg (fun q => hb q.1)]⟩) arrF_sr
end Arr
end
section
-- new cells, calls, switches, System.arraycopy
theorem RelH.new {D : Dt} {h : Hp} {H H' : Heap} {kk len : Nat} (hR : RelH D h H) (e2 : H'.size = H.size + 1) (e3 : ∀ q : Nat, q < H.size → H'[q]? = H[q]?) (hc : cellR D (nw h kk len) H' (hn h)) : RelH D (nw h kk len) H' := by
  obtain ⟨r1, r2, r3, r4⟩ := hR
  refine ⟨by rw [e2, r1]; rfl, by rw [hn_nw]; omega, fun q hq => ?_, fun b hb => ?_⟩
  · rw [e3 q (by omega)]; exact r3 q hq
  · by_cases hbh : b = hn h
    · subst hbh
      exact ⟨r2, by rw [hn_nw]; omega, hc⟩
    · rw [kd_nw, if_neg hbh] at hb
      obtain ⟨b1, b2, b3⟩ := r4 b hb
      exact ⟨b1, by rw [hn_nw]; omega, b3.kept (e3 b (by omega)) (by rw [kd_nw, if_neg hbh]) (by rw [ln_nw, if_neg hbh]) (fun j => by rw [gi_nw, if_neg hbh]) (fun j => by rw [gl_nw, if_neg hbh]) (fun j => by rw [gr_nw, if_neg hbh])⟩
def tyT (t : Nat) : FieldType := match t with
  | 0 => .int
  | 1 => .long
  | 2 => .char
  | _ => .boolean
def NL (own : String) (idx c : Nat) : Prop := ∃ r, vwCl[c]? = some r ∧ Cond.classLink own idx r.1 ∈ gwd ∧ Cond.instantiable r.1 r.2.2 ∈ gwd ∧ Cond.initialized r.1 ∈ gwd
section New
variable {X : Ctx} {k n : Nat} {Q : Pq} {pc : Nat} {lv : List (Nat × Value)} {st : List Value} {h : Hp} {own : String} {cc : ByteArray} {nL : Nat} {ret : Option FieldType} {nm : String} {fr lo : Nat} {a c f idx : Nat} {i : Int32}
theorem w_new {N : Nat} (C : Cx X own cc nL ret nm fr lo) (L : NL own idx c) (hN : (vwCl.getD c ("", TX0, 0)).2.2 = N) (d : decode cc pc = .ok (.new idx, 3)) (hcl : k + 1 ≤ mcX X) (hsl : n + N ≤ msX X) (K : Wj X (k + 1) (n + N) Q (pc + 3) lv (.ref (hn h) :: st) (nw h (c + 1) 0)) : Wj X k n Q pc lv st h := by
  obtain ⟨p, l, e, R, s, m, args, below, meth, c0, D, mc, ms⟩ := X
  intro h1 h2 ls H locs hl hR hL
  obtain ⟨hx, hb, hml, hown, hts, hK, hr, hlk, hnm, g1, g2, g3, g4⟩ := C
  obtain ⟨r, hc, l1, l2, l3⟩ := L
  have eN : N = r.2.2 := by
    have e : vwCl.getD c ("", TX0, 0) = r := by rw [List.getD_eq_getElem?_getD, hc]; rfl
    rw [← hN, e]
  subst eN
  obtain ⟨hin, hty, hnm, htk⟩ := clF c r hc
  have hKn := hK.1.1 c r hc
  refine W.newcK hx hb hown (hts _ l1) (hts _ l2) (hts _ l3) rfl d (by rw [g3]; exact hcl) (by rw [g4]; exact hsl) hKn.2.1 rfl fun H1 kC hkC e1 z1 o1 => ?_
  have hlt := vwCl_lt hc
  have K' := K hcl hsl ls H1 locs hl (hR.new z1 o1 ?_) hL
  · rw [hR.1]
    exact K'
  · rw [← hR.1]
    have hkd : kd (nw h (c + 1) 0) H.size = c + 1 := by rw [kd_nw, hR.1, if_pos rfl]
    refine ⟨fun c' r' hk' hc' => ?_, fun h9 => ?_, fun h9 => ?_, fun h9 => ?_, fun h9 => ?_, fun h9 => ?_⟩
    · have ec : c' = c := by omega
      subst ec
      have er : r' = r := Option.some.inj (hc'.symm.trans hc)
      subst er
      refine (u_born (tyF c') hts hin hKn hkC e1 hty).to (fun j hj => ?_)
      have ht := htk j hj
      have z0 : gi (nw h (c' + 1) 0) H.size j = 0 := by rw [gi_nw, hR.1, if_pos rfl]
      have z1 : gl (nw h (c' + 1) 0) H.size j = 0 := by rw [gl_nw, hR.1, if_pos rfl]
      have z2 : gr (nw h (c' + 1) 0) H.size j = none := by rw [gr_nw, hR.1, if_pos rfl]
      have h3 : fty c' j = 0 ∨ fty c' j = 1 ∨ fty c' j = 2 := by have := ht.2.2.2; omega
      rcases h3 with h3 | h3 | h3
      · rw [ht.1 h3, h3]; show Value.int 0 = Value.int (gi _ _ _); rw [z0]
      · rw [ht.2.1 h3, h3]; show Value.long 0 = Value.long (gl _ _ _); rw [z1]
      · rw [h3]; show _ = va_rf (gr _ _ _); rw [z2]
        rcases ht.2.2.1 h3 with ⟨o, e9⟩ | ⟨o, e9⟩ <;> rw [e9] <;> rfl
    all_goals (rw [hkd] at h9; omega)
theorem w_newa {atype : ArrayType} (t : Nat) {ty : FieldType} {N : Nat} (C : Cx X own cc nL ret nm fr lo) (hw : Cond.arrayClass (newarray.typeOf atype) ∈ gwd) (hty : newarray.typeOf atype = ty) (htt : (tyT t) = ty) (ht : t < 4) (d : decode cc pc = .ok (.newarray atype, 2)) (hi : ¬ i < 0) (hN : i.toNatClampNeg = N) (hby : N * componentBytes ty ≤ 536870912) (hcl : k + 1 ≤ mcX X) (hsl : n + N ≤ msX X) (K : Wj X (k + 1) (n + N) Q (pc + 2) lv (.ref (hn h) :: st) (nw h (20 + t) N)) : Wj X k n Q pc lv (.int i :: st) h := by
  obtain ⟨p, l, e, R, s, m, args, below, meth, c0, D, mc, ms⟩ := X
  intro h1 h2 ls H locs hl hR hL
  obtain ⟨hx, hb, hml, hown, hts, hK, hr, hlk, hnm, g1, g2, g3, g4⟩ := C
  subst hty
  refine va_newaK hx hb (hts _ hw) rfl d rfl hi hN hby (by rw [g3]; exact hcl) (by rw [g4]; exact hsl) rfl fun H1 cA e1 z1 o1 hAr hNm => ?_
  have hcA : cA = D.2.1 t ∧ (fun (_ : Nat) => defaultValue (newarray.typeOf atype)) = arrF (nw h (20 + t) N) H.size t := by
    have z0 : ∀ j, gi (nw h (20 + t) N) H.size j = 0 := fun j => by rw [gi_nw, hR.1, if_pos rfl]
    have z1 : ∀ j, gl (nw h (20 + t) N) H.size j = 0 := fun j => by rw [gl_nw, hR.1, if_pos rfl]
    match t, ht, htt with
    | 0, _, htt => exact ⟨Option.some.inj (hNm.symm.trans (by rw [← htt]; exact (hK.1.2 0 _ rfl).2)), by rw [← htt]; funext j; show Value.int 0 = Value.int (gi _ _ _); rw [z0]⟩
    | 1, _, htt => exact ⟨Option.some.inj (hNm.symm.trans (by rw [← htt]; exact (hK.1.2 1 _ rfl).2)), by rw [← htt]; funext j; show Value.long 0 = Value.long (gl _ _ _); rw [z1]⟩
    | 2, _, htt => exact ⟨Option.some.inj (hNm.symm.trans (by rw [← htt]; exact (hK.1.2 2 _ rfl).2)), by rw [← htt]; funext j; show Value.int 0 = Value.int (gi _ _ _); rw [z0]⟩
    | 3, _, htt => exact ⟨Option.some.inj (hNm.symm.trans (by rw [← htt]; exact (hK.1.2 3 _ rfl).2)), by rw [← htt]; funext j; show Value.int 0 = Value.int (gi _ _ _); rw [z0]⟩
  have K' := K hcl hsl ls H1 locs hl (hR.new z1 o1 ?_) hL
  · rw [hR.1]
    exact K'
  · rw [← hR.1]
    refine cellR.arr (t := t) (by rw [kd_nw, hR.1, if_pos rfl]) (by omega) ?_
    rw [e1, hcA.1, ln_nw, hR.1, if_pos rfl, hcA.2, hR.1]
theorem w_anew {N : Nat} (C : Cx X own cc nL ret nm fr lo) (hw : Cond.classLink own idx "DividingHead$Head" ∈ gwd) (d : decode cc pc = .ok (.anewarray idx, 3)) (hi : ¬ i < 0) (hN : i.toNatClampNeg = N) (hby : N * 4 ≤ 536870912) (hcl : k + 1 ≤ mcX X) (hsl : n + N ≤ msX X) (K : Wj X (k + 1) (n + N) Q (pc + 3) lv (.ref (hn h) :: st) (nw h 24 N)) : Wj X k n Q pc lv (.int i :: st) h := by
  obtain ⟨p, l, e, R, s, m, args, below, meth, c0, D, mc, ms⟩ := X
  intro h1 h2 ls H locs hl hR hL
  obtain ⟨hx, hb, hml, hown, hts, hK, hr, hlk, hnm, g1, g2, g3, g4⟩ := C
  subst hN
  refine W.anew hx hb hown (hts _ hw) (va_AO.use hK.2.2) rfl d rfl hi hby (by rw [g3]; exact hcl) (by rw [g4]; exact hsl) fun cA kA comp f1 f2 f3 f4 => ?_
  generalize hH1 : H.push ({ cls := cA, slots := Array.replicate i.toNatClampNeg .null, vm := .none } : Cell) = H1
  have z1 : H1.size = H.size + 1 := by rw [← hH1, Array.size_push]
  have e1 : H1[H.size]? = some (arrV cA i.toNatClampNeg (fun _ => .null)) := by rw [← hH1, Array.getElem?_push_size, ← arrV_new]
  have o1 : ∀ q : Nat, q < H.size → H1[q]? = H[q]? := fun q hq => by rw [← hH1, Array.getElem?_push, if_neg (Nat.ne_of_lt hq)]
  obtain ⟨kB, compB, b1, b2, b3, b4⟩ := (hK.1.2 4 _ rfl).2
  have hcA : cA = D.2.1 4 := Option.some.inj (f1.symm.trans b4)
  have K' := K hcl hsl ls H1 locs hl (hR.new z1 o1 ?_) hL
  · rw [hR.1]
    exact K'
  · rw [← hR.1]
    refine cellR.arr (t := 4) (by rw [kd_nw, hR.1, if_pos rfl]) (by omega) ?_
    have z2 : (fun (_ : Nat) => Value.null) = arrF (nw h 24 i.toNatClampNeg) H.size 4 := by
      funext j; show Value.null = va_rf (gr _ _ _); rw [gr_nw, hR.1, if_pos rfl]; rfl
    rw [e1, hcA, ln_nw, hR.1, if_pos rfl, z2, hR.1]
theorem w_objInit (C : Cx X own cc nL ret nm fr lo) (w1 : Cond.methodLink own idx Lib.objectInit ∈ gwd) (w2 : Cond.instanceMethod Lib.objectInit ∈ gwd) (w3 : Cond.code Lib.objectInit ⟨#[0xb1]⟩ 1 none ∈ gwd) (d : decode cc pc = .ok (.invokespecial idx, 3)) (hfr : 1 ≤ fr) (hlo : (st.map fun v => v.category).sum + 12 ≤ lo) (K : Wj X k n Q (pc + 3) lv st h) : Wj X k n Q pc lv (.ref a :: st) h := by
  obtain ⟨p, l, e, R, s, m, args, below, meth, c0, D, mc, ms⟩ := X
  intro h1 h2 ls H locs hl hR hL
  obtain ⟨hx, hb, hml, hown, hts, hK, hr, hlk, hnm, g1, g2, g3, g4⟩ := C
  exact W.objInit hx hb hown (hts _ w1) (hts _ w2) (hts _ w3) rfl hl.1 rfl d (by rw [g1]; exact hfr) (by rw [g2]; show 2 * 0 + _ + 12 ≤ lo; omega) (K h1 h2 ls H locs hl hR hL)
theorem w_tswIn {dflt lw hi off : Int} {offs : Array Int} {len tgt : Nat} {x : Int32} (C : Cx X own cc nL ret nm fr lo) (d : decode cc pc = .ok (.tableswitch dflt lw hi offs, len)) (q1 : ¬ x.toInt < lw) (q2 : ¬ hi < x.toInt) (ho : offs[(x.toInt - lw).toNat]? = some off) (ht : (pc : Int) + off = (tgt : Int)) (K : Wj X k n Q tgt lv st h) : Wj X k n Q pc lv (.int x :: st) h := by
  obtain ⟨p, l, e, R, s, m, args, below, meth, c0, D, mc, ms⟩ := X
  exact fun h1 h2 ls H locs hl hR hL => lv_tableIn C.1 C.2.1 d q1 q2 ho ht (K h1 h2 ls H locs hl hR hL)
theorem w_tswOut {dflt lw hi : Int} {offs : Array Int} {len tgt : Nat} {x : Int32} (C : Cx X own cc nL ret nm fr lo) (d : decode cc pc = .ok (.tableswitch dflt lw hi offs, len)) (q : x.toInt < lw ∨ hi < x.toInt) (ht : (pc : Int) + dflt = (tgt : Int)) (K : Wj X k n Q tgt lv st h) : Wj X k n Q pc lv (.int x :: st) h := by
  obtain ⟨p, l, e, R, s, m, args, below, meth, c0, D, mc, ms⟩ := X
  exact fun h1 h2 ls H locs hl hR hL => lv_tableOut C.1 C.2.1 d q ht (K h1 h2 ls H locs hl hR hL)
theorem w_lsw {dflt off : Int} {ps : Array (Int × Int)} {len tgt : Nat} {x : Int32} (C : Cx X own cc nL ret nm fr lo) (d : decode cc pc = .ok (.lookupswitch dflt ps, len)) (hp : (ps.toList.zip (ps.toList.drop 1)).all (fun (a, next) => a.1 < next.1) = true) (ho : Op.lookupswitch.offset ps.toList dflt x.toInt = off) (ht : (pc : Int) + off = (tgt : Int)) (K : Wj X k n Q tgt lv st h) : Wj X k n Q pc lv (.int x :: st) h := by
  obtain ⟨p, l, e, R, s, m, args, below, meth, c0, D, mc, ms⟩ := X
  exact fun h1 h2 ls H locs hl hR hL => lv_lookup C.1 C.2.1 d hp ho ht (K h1 h2 ls H locs hl hR hL)
end New
-- calls
def CL (own : String) (idx : Nat) (y : MethodName) (bytes : ByteArray) (maxL : Nat) (ret : Option FieldType) (na : Nat) : Prop :=
  Cond.methodLink own idx y ∈ gwd ∧ Cond.initialized y.cls ∈ gwd ∧ Cond.code y bytes maxL ret ∈ gwd ∧ y.cls ≠ "java/lang/invoke/MethodHandle" ∧ y.cls ≠ "java/lang/invoke/VarHandle" ∧ (parseMethodDescriptor y.desc).map (fun d => d.parameters.length) = some na
def CLN (own : String) (idx : Nat) (y : MethodName) (bytes : ByteArray) (maxL : Nat) (ret : Option FieldType) (na : Nat) : Prop :=
  Cond.methodLinkNest own idx y RX9 ∈ nestW ∧ Cond.initialized y.cls ∈ gwd ∧ Cond.code y bytes maxL ret ∈ gwd ∧ y.cls ≠ "java/lang/invoke/MethodHandle" ∧ y.cls ≠ "java/lang/invoke/VarHandle" ∧ (parseMethodDescriptor y.desc).map (fun d => d.parameters.length) = some na
theorem goodG {y : MethodName} {bytes : ByteArray} {maxL : Nat} {ret : Option FieldType} (h : Cond.code y bytes maxL ret ∈ gwd) : GoodIn gwd (.code y bytes maxL ret :: gwd) := fun w hw => by
  rcases List.mem_cons.mp hw with rfl | hw
  · exact ⟨h, gwd_good _ h⟩
  · exact ⟨hw, gwd_good _ hw⟩
section Calls2
variable {p : Program} {l : Launch} {e : Env} {R : Room} {s : State} {m : MethodId} {args : Array Value} {below : List Frame} {meth : Method} {c0 : Code} {D : Dt} {mc ms : Nat}
theorem blindS {av : List Value} {h : Hp} : FrameBlind (va_Pc av (fun U => RelH D h U.heap ∧ Kn D U)) := fun a U g mk q => ⟨q.1, q.2.1, Kn.same (u := U) (U := U.calling g mk a) rfl q.2.2⟩
theorem preS {av : List Value} {h : Hp} {H : Heap} (hR : RelH D h H) (hK : Kn D s) : PreS s H (va_Pc av (fun U => RelH D h U.heap ∧ Kn D U)) av := ⟨blindS, fun U hU hW => ⟨rfl, by rw [hU]; exact hR, hK.moved hW⟩⟩
theorem runW {k n k' n' : Nat} {Q Q' : Pq} {pc : Nat} {lv : List (Nat × Value)} {st st0 : List Value} {ls : Array Slot} {H : Heap} {locs : List Loc} {av : Array Value}
    (hr : va_Run p l e R s m args below meth c0 H locs k n k' n' (F0 m pc ls st0) st (Qm D Q' av) (fun q => D.2.2.size ≤ q)) (hl : lv_has ls c0.maxLocals lv) (hL : ∀ q ∈ locs, D.2.2.size ≤ q.base) (h1 : k + k' ≤ mc) (h2 : n + n' ≤ ms)
    (hq : ∀ v h', Q' v h' → Wj (p, l, e, R, s, m, args, below, meth, c0, D, mc, ms) (k + k') (n + n') Q (pc + 3) lv (v.toList ++ st) h') : W p l e R s m args below meth c0 H locs k n (MQ below (Qm D Q) args s mc ms (fun q => D.2.2.size ≤ q)) (F0 m pc ls st0) := by
  intro T hT X
  obtain ⟨v, st₀, t, T', L, e0, X', hL', e1, e2, ⟨v', h', ev, hp, hRel⟩, go⟩ := hr T hT X
  cases ev
  obtain ⟨t2, a1, b1⟩ := hq v h' hp h1 h2 ls t.heap (locs ++ L) hl hRel (locs_app hL hL') T' e1 X'
  exact ⟨t2, go t2 a1, b1⟩
end Calls2
section Calls3
variable {X : Ctx} {k n : Nat} {Q : Pq} {pc : Nat} {lv : List (Nat × Value)} {st st0 : List Value} {h : Hp} {own : String} {cc : ByteArray} {nL : Nat} {ret : Option FieldType} {nm : String} {fr lo : Nat} {b c idx na : Nat}
variable {y : MethodName} {bytes : ByteArray} {maxL fr' lo' k' n' : Nat} {ret' : Option FieldType} {As : List Value}
theorem w_callV (C : Cx X own cc nL ret nm fr lo) (L : CL own idx y bytes maxL ret' na) (L2 : Cond.instanceMethod y ∈ gwd ∧ Cond.selects y.cls y y ∈ gwd) (hrm : fr' + 1 ≤ fr ∧ 8 + (maxL + 11) + lo' ≤ lo) (d : decode cc pc = .ok (.invokevirtual idx, 3)) (hst : st0 = As.reverse ++ .ref b :: st) (hna : As.length = na) (hW : (st.map fun v => v.category).sum ≤ 8) (hc : (vwCl[c]?).map (fun r => r.1) = some y.cls) (hcl : k + k' ≤ mcX X) (hsl : n + n' ≤ msX X) (hk : kd h b = c + 1)
    (K : Sp (lX X) (dtX X) y bytes maxL ret' fr' lo' k' n' (.ref b :: As) h (fun v h' => Wj X (k + k') (n + n') Q (pc + 3) lv (v.toList ++ st) h')) : Wj X k n Q pc lv st0 h := by
  obtain ⟨p, l, e, R, s, m, args, below, meth, c0, D, mc, ms⟩ := X
  intro h1 h2 ls H locs hl hR hL
  obtain ⟨hx, hb, hml, hown, hts, hK, hr, hlk, hnm, g1, g2, g3, g4⟩ := C
  obtain ⟨w1, w2, w3, w4⟩ := L
  have hrc : ∃ r, vwCl[c]? = some r ∧ r.1 = y.cls := by
    cases hcc : vwCl[c]? with
    | none => rw [hcc] at hc; cases hc
    | some r => rw [hcc] at hc; exact ⟨r, rfl, Option.some.inj hc⟩
  obtain ⟨r, hc1, hc2⟩ := hrc
  obtain ⟨cell, q1, q2, q3, q4⟩ := (hR.2.2.2 b (by omega)).2.2.1 _ _ hk hc1
  have hfc := (hK.1.1 c r hc1).2.1
  refine runW (va_runV (Ts := gwd) (C := y.cls) (b := b) (As := As) (n := na) (free := fun q => D.2.2.size ≤ q) ⟨hx, hb, hml, hown, hts⟩ K ⟨callB_of na hts (goodG w3) rfl rfl rfl (hts _ w2) (hts _ w1) w4 ⟨by rw [g1]; exact hrm.1, by rw [g2]; exact hrm.2⟩, hts _ L2.1, hts _ L2.2⟩ ⟨blindS, ⟨cell, q1, by rw [q3]; rfl, by rw [q2, ← hc2]; exact hfc⟩, fun U hU hW => ⟨rfl, by rw [hU]; exact hR, hK.moved hW⟩⟩ rfl hna (by rw [← hml]; exact hl.1) hst (by show 2 * 0 + _ ≤ 8; omega) d ⟨by rw [g3]; exact hcl, by rw [g4]; exact hsl⟩) hl hL hcl hsl (fun v h' hw => hw)
theorem w_callS (C : Cx X own cc nL ret nm fr lo) (L : CL own idx y bytes maxL ret' na) (L2 : Cond.static y ∈ gwd) (hrm : fr' + 1 ≤ fr ∧ 8 + (maxL + 11) + lo' ≤ lo) (d : decode cc pc = .ok (.invokestatic idx, 3)) (hst : st0 = As.reverse ++ st) (hna : As.length = na) (hW : (st.map fun v => v.category).sum ≤ 8) (hcl : k + k' ≤ mcX X) (hsl : n + n' ≤ msX X)
    (K : Sp (lX X) (dtX X) y bytes maxL ret' fr' lo' k' n' As h (fun v h' => Wj X (k + k') (n + n') Q (pc + 3) lv (v.toList ++ st) h')) : Wj X k n Q pc lv st0 h := by
  obtain ⟨p, l, e, R, s, m, args, below, meth, c0, D, mc, ms⟩ := X
  intro h1 h2 ls H locs hl hR hL
  obtain ⟨hx, hb, hml, hown, hts, hK, hr, hlk, hnm, g1, g2, g3, g4⟩ := C
  obtain ⟨w1, w2, w3, w4⟩ := L
  exact runW (va_runS (Ts := gwd) (As := As) (n := na) (free := fun q => D.2.2.size ≤ q) ⟨hx, hb, hml, hown, hts⟩ K ⟨callB_of na hts (goodG w3) rfl rfl rfl (hts _ w2) (hts _ w1) w4 ⟨by rw [g1]; exact hrm.1, by rw [g2]; exact hrm.2⟩, hts _ L2⟩ (preS hR hK) rfl hna (by rw [← hml]; exact hl.1) hst (by show 2 * 0 + _ ≤ 8; omega) d ⟨by rw [g3]; exact hcl, by rw [g4]; exact hsl⟩) hl hL hcl hsl (fun v h' hw => hw)
theorem w_callI (C : Cx X own cc nL ret nm fr lo) (L : CL own idx y bytes maxL none na) (L2 : y.name = "<init>" ∧ Cond.instanceMethod y ∈ gwd) (hrm : fr' + 1 ≤ fr ∧ 8 + (maxL + 11) + lo' ≤ lo) (d : decode cc pc = .ok (.invokespecial idx, 3)) (hst : st0 = As.reverse ++ .ref b :: st) (hna : As.length = na) (hW : (st.map fun v => v.category).sum ≤ 8) (hcl : k + k' ≤ mcX X) (hsl : n + n' ≤ msX X)
    (K : Sp (lX X) (dtX X) y bytes maxL none fr' lo' k' n' (.ref b :: As) h (fun v h' => Wj X (k + k') (n + n') Q (pc + 3) lv (v.toList ++ st) h')) : Wj X k n Q pc lv st0 h := by
  obtain ⟨p, l, e, R, s, m, args, below, meth, c0, D, mc, ms⟩ := X
  intro h1 h2 ls H locs hl hR hL
  obtain ⟨hx, hb, hml, hown, hts, hK, hr, hlk, hnm, g1, g2, g3, g4⟩ := C
  obtain ⟨w1, w2, w3, w4⟩ := L
  exact runW (va_runI (Ts := gwd) (b := b) (As := As) (n := na) (free := fun q => D.2.2.size ≤ q) ⟨hx, hb, hml, hown, hts⟩ K ⟨callB_of na hts (goodG w3) rfl rfl rfl (hts _ w2) (hts _ w1) w4 ⟨by rw [g1]; exact hrm.1, by rw [g2]; exact hrm.2⟩, L2.1, hts _ L2.2⟩ (preS hR hK) rfl hna (by rw [← hml]; exact hl.1) hst (by show 2 * 0 + _ ≤ 8; omega) d ⟨by rw [g3]; exact hcl, by rw [g4]; exact hsl⟩) hl hL hcl hsl (fun v h' hw => hw)
theorem w_callSN (C : Cx X own cc nL ret nm fr lo) (L : CLN own idx y bytes maxL ret' na) (L2 : Cond.static y ∈ gwd) (hrm : fr' + 1 ≤ fr ∧ 8 + (maxL + 11) + lo' ≤ lo) (d : decode cc pc = .ok (.invokestatic idx, 3)) (hst : st0 = As.reverse ++ st) (hna : As.length = na) (hW : (st.map fun v => v.category).sum ≤ 8) (hcl : k + k' ≤ mcX X) (hsl : n + n' ≤ msX X)
    (K : Sp (lX X) (dtX X) y bytes maxL ret' fr' lo' k' n' As h (fun v h' => Wj X (k + k') (n + n') Q (pc + 3) lv (v.toList ++ st) h')) : Wj X k n Q pc lv st0 h := by
  obtain ⟨p, l, e, R, s, m, args, below, meth, c0, D, mc, ms⟩ := X
  intro h1 h2 ls H locs hl hR hL
  obtain ⟨hx, hb, hml, hown, hts, hK, hr, hlk, hnm, g1, g2, g3, g4⟩ := C
  obtain ⟨w1, w2, w3, w4⟩ := L
  exact runW (va_runSN (Ts := gwd) (As := As) (n := na) (host := RX9) (free := fun q => D.2.2.size ≤ q) ⟨hx, hb, hml, hown, hts⟩ K ⟨va_cnB na hts (goodG w3) rfl rfl rfl (hK.2.1 _ w1) (hts _ w2) w4 ⟨by rw [g1]; exact hrm.1, by rw [g2]; exact hrm.2⟩, hts _ L2, trivial⟩ (preS hR hK) rfl hna (by rw [← hml]; exact hl.1) hst (by show 2 * 0 + _ ≤ 8; omega) d ⟨by rw [g3]; exact hcl, by rw [g4]; exact hsl⟩) hl hL hcl hsl (fun v h' hw => hw)
theorem w_callIN (C : Cx X own cc nL ret nm fr lo) (L : CLN own idx y bytes maxL none na) (L2 : y.name = "<init>" ∧ Cond.instanceMethod y ∈ gwd) (hrm : fr' + 1 ≤ fr ∧ 8 + (maxL + 11) + lo' ≤ lo) (d : decode cc pc = .ok (.invokespecial idx, 3)) (hst : st0 = As.reverse ++ .ref b :: st) (hna : As.length = na) (hW : (st.map fun v => v.category).sum ≤ 8) (hcl : k + k' ≤ mcX X) (hsl : n + n' ≤ msX X)
    (K : Sp (lX X) (dtX X) y bytes maxL none fr' lo' k' n' (.ref b :: As) h (fun v h' => Wj X (k + k') (n + n') Q (pc + 3) lv (v.toList ++ st) h')) : Wj X k n Q pc lv st0 h := by
  obtain ⟨p, l, e, R, s, m, args, below, meth, c0, D, mc, ms⟩ := X
  intro h1 h2 ls H locs hl hR hL
  obtain ⟨hx, hb, hml, hown, hts, hK, hr, hlk, hnm, g1, g2, g3, g4⟩ := C
  obtain ⟨w1, w2, w3, w4⟩ := L
  exact runW (va_runIN (Ts := gwd) (b := b) (As := As) (n := na) (host := RX9) (free := fun q => D.2.2.size ≤ q) ⟨hx, hb, hml, hown, hts⟩ K ⟨va_cnB na hts (goodG w3) rfl rfl rfl (hK.2.1 _ w1) (hts _ w2) w4 ⟨by rw [g1]; exact hrm.1, by rw [g2]; exact hrm.2⟩, L2.1, hts _ L2.2⟩ (preS hR hK) rfl hna (by rw [← hml]; exact hl.1) hst (by show 2 * 0 + _ ≤ 8; omega) d ⟨by rw [g3]; exact hcl, by rw [g4]; exact hsl⟩) hl hL hcl hsl (fun v h' hw => hw)
end Calls3
end
section
section Copy
variable {X : Ctx} {k n : Nat} {Q : Pq} {pc : Nat} {lv : List (Nat × Value)} {st : List Value} {h : Hp} {own : String} {cc : ByteArray} {nL : Nat} {ret : Option FieldType} {nm : String} {fr lo : Nat} {idx : Nat}
theorem w_acopyI {a0 a : Nat} {sp dp z : Int32} (C : Cx X own cc nL ret nm fr lo) (w1 : Cond.methodLink own idx arraycopyName ∈ gwd) (w2 : Cond.native arraycopyName ∈ gwd) (w3 : Cond.static arraycopyName ∈ gwd) (w4 : Cond.initialized "java/lang/System" ∈ gwd) (d : decode cc pc = .ok (.invokestatic idx, 3)) (hfr : 1 ≤ fr) (hlo : (st.map fun v => v.category).sum + 18 ≤ lo) (hk0 : kd h a0 = 20) (hk : kd h a = 20) (q1 : ¬ sp < 0) (q2 : ¬ dp < 0) (q3 : ¬ z < 0) (q4 : ix sp + ix z ≤ ln h a0) (q5 : ix dp + ix z ≤ ln h a)
    (K : Wj X k n Q (pc + 3) lv st (siA h a (va_cpy (fun j => gi h a0 j) (fun j => gi h a j) (ix sp) (ix dp) (ix z)))) : Wj X k n Q pc lv (.int z :: .int dp :: .ref a :: .int sp :: .ref a0 :: st) h := by
  obtain ⟨p, l, e, R, s, m, args, below, meth, c0, D, mc, ms⟩ := X
  intro h1 h2 ls H locs hl hR hL
  obtain ⟨hx, hb, hml, hown, hts, hK, hr, hlk, hnm, g1, g2, g3, g4⟩ := C
  have nn : ∀ z : Int32, ¬ z < 0 → z.toInt = (z.toNatClampNeg : Int) := by
    intro z hz
    have hz0 : (0 : Int) ≤ z.toInt := by
      have := Int32.not_lt.mp hz
      simpa using Int32.le_iff_toInt_le.mp this
    show z.toInt = ((z.toInt.toNat : Nat) : Int)
    omega
  have hc0 : H[a0]? = some (arrV (D.2.1 0) (ln h a0) (fun j => .int (gi h a0 j))) := hR.arr 0 hk0 (by omega)
  have hc1 : H[a]? = some (arrV (D.2.1 0) (ln h a) (fun j => .int (gi h a j))) := hR.arr 0 hk (by omega)
  obtain ⟨-, k0, hkk0, cm0, hkc0⟩ := (hK.1.2 0 _ rfl).1 (ln h a0) (fun j => .int (gi h a0 j))
  intro T hT X
  obtain ⟨vm', X', step⟩ := X.arraycopy hx hown (hts _ w1) (hts _ w2) (hts _ w3) (hts _ w4) (src := a0) (dst := a) (cs := arrV (D.2.1 0) (ln h a0) (fun j => .int (gi h a0 j))) (cd := arrV (D.2.1 0) (ln h a) (fun j => .int (gi h a j))) (srcPos := sp) (destPos := dp) (n := z) (by rw [hT]; exact hc0) (by rw [hT]; exact hc1)
    (fun _ h => by cases h) (fun _ h => by cases h) (fun h => by cases h) (fun h => by cases h) hkk0 hkk0 hkc0 hkc0 (by simp [refKind]) q1 q2 q3
    (by rw [nn sp q1, nn z q3, arrV_size]; show ¬ _ > _; have := q4; rw [← ix_clamp, ← ix_clamp] at this; omega)
    (by rw [nn dp q2, nn z q3, arrV_size]; show ¬ _ > _; have := q5; rw [← ix_clamp, ← ix_clamp] at this; omega)
    (fun vm₁ _ i hi => by
      have e : (arrV (D.2.1 0) (ln h a0) (fun j => .int (gi h a0 j))).slots.getD (sp.toNatClampNeg + i) .null = .int (gi h a0 (sp.toNatClampNeg + i)) := by
        rw [Array.getD_eq_getD_getElem?, arrV_read _ _ (by have := q4; rw [← ix_clamp, ← ix_clamp] at this; omega)]
        rfl
      refine ⟨?_, ?_⟩
      · rw [e]; rfl
      · rw [e]
        exact trivial)
    (g := F0 m pc ls (.int z :: .int dp :: .ref a :: .int sp :: .ref a0 :: st)) rfl hl.1 (rest := st) rfl (by rw [hb]; exact d) (by rw [g1]; exact hfr) (by rw [g2]; show 2 * 0 + _ + (7 + 11) ≤ lo; omega)
  have e1 : copied (arrV (D.2.1 0) (ln h a0) (fun j => .int (gi h a0 j))) (arrV (D.2.1 0) (ln h a) (fun j => .int (gi h a j))) sp dp z = arrV (D.2.1 0) (ln h a) (fun j => .int (va_cpy (fun j => gi h a0 j) (fun j => gi h a j) sp.toNatClampNeg dp.toNatClampNeg z.toNatClampNeg j)) := va_copied (fun z => .int z) _ _ _ _ (by have := q4; rw [← ix_clamp, ← ix_clamp] at this; exact this)
  rw [e1] at X' step
  have hlt : a < H.size := (Array.getElem?_eq_some_iff.mp hc1).1
  generalize hcn : arrV (D.2.1 0) (ln h a) (fun j => .int (va_cpy (fun j => gi h a0 j) (fun j => gi h a j) sp.toNatClampNeg dp.toNatClampNeg z.toNatClampNeg j)) = cn at X' step
  have hheap : ((T.setVm vm').setCell a cn).heap = H.setIfInBounds a cn := by rw [← hT]; rfl
  have oq : ∀ q : Nat, q ≠ a → (H.setIfInBounds a cn)[q]? = H[q]? := fun q hq => by simp [Array.getElem?_setIfInBounds, Ne.symm hq]
  have oa : (H.setIfInBounds a cn)[a]? = some cn := by simp [Array.getElem?_setIfInBounds, hlt]
  have hRel : RelH D (siA h a (va_cpy (fun j => gi h a0 j) (fun j => gi h a j) (ix sp) (ix dp) (ix z))) (H.setIfInBounds a cn) := by
    refine hR.off (a := a) (by omega) (by simp) oq rfl (fun _ => rfl) (fun _ _ => rfl) (fun b hb j => ?_) (cellR.arr (t := 0) hk (by omega) ?_)
    · exact ⟨by rw [gi_siA, if_neg hb], rfl, rfl⟩
    · rw [oa, ← hcn]
      congr 2
      funext j
      show Value.int _ = Value.int (gi (siA h a _) a j)
      rw [gi_siA, if_pos rfl]; rfl
  obtain ⟨t, a1, b1⟩ := K h1 h2 ls (H.setIfInBounds a cn) _ hl hRel (locs_app hL (fun q hq => by
    obtain ⟨z9, -, hz⟩ := List.mem_map.mp hq
    rw [← hz]
    exact (hR.2.2.2 a (by omega)).1)) _ hheap X'
  exact ⟨t, step t a1, b1⟩
theorem w_acopyL {a0 a : Nat} {sp dp z : Int32} (C : Cx X own cc nL ret nm fr lo) (w1 : Cond.methodLink own idx arraycopyName ∈ gwd) (w2 : Cond.native arraycopyName ∈ gwd) (w3 : Cond.static arraycopyName ∈ gwd) (w4 : Cond.initialized "java/lang/System" ∈ gwd) (d : decode cc pc = .ok (.invokestatic idx, 3)) (hfr : 1 ≤ fr) (hlo : (st.map fun v => v.category).sum + 18 ≤ lo) (hk0 : kd h a0 = 21) (hk : kd h a = 21) (q1 : ¬ sp < 0) (q2 : ¬ dp < 0) (q3 : ¬ z < 0) (q4 : ix sp + ix z ≤ ln h a0) (q5 : ix dp + ix z ≤ ln h a)
    (K : Wj X k n Q (pc + 3) lv st (slA h a (va_cpy (fun j => gl h a0 j) (fun j => gl h a j) (ix sp) (ix dp) (ix z)))) : Wj X k n Q pc lv (.int z :: .int dp :: .ref a :: .int sp :: .ref a0 :: st) h := by
  obtain ⟨p, l, e, R, s, m, args, below, meth, c0, D, mc, ms⟩ := X
  intro h1 h2 ls H locs hl hR hL
  obtain ⟨hx, hb, hml, hown, hts, hK, hr, hlk, hnm, g1, g2, g3, g4⟩ := C
  have nn : ∀ z : Int32, ¬ z < 0 → z.toInt = (z.toNatClampNeg : Int) := by
    intro z hz
    have hz0 : (0 : Int) ≤ z.toInt := by
      have := Int32.not_lt.mp hz
      simpa using Int32.le_iff_toInt_le.mp this
    show z.toInt = ((z.toInt.toNat : Nat) : Int)
    omega
  have hc0 : H[a0]? = some (arrV (D.2.1 1) (ln h a0) (fun j => .long (gl h a0 j))) := hR.arr 1 hk0 (by omega)
  have hc1 : H[a]? = some (arrV (D.2.1 1) (ln h a) (fun j => .long (gl h a j))) := hR.arr 1 hk (by omega)
  obtain ⟨-, k0, hkk0, cm0, hkc0⟩ := (hK.1.2 1 _ rfl).1 (ln h a0) (fun j => .long (gl h a0 j))
  intro T hT X
  obtain ⟨vm', X', step⟩ := X.arraycopy hx hown (hts _ w1) (hts _ w2) (hts _ w3) (hts _ w4) (src := a0) (dst := a) (cs := arrV (D.2.1 1) (ln h a0) (fun j => .long (gl h a0 j))) (cd := arrV (D.2.1 1) (ln h a) (fun j => .long (gl h a j))) (srcPos := sp) (destPos := dp) (n := z) (by rw [hT]; exact hc0) (by rw [hT]; exact hc1)
    (fun _ h => by cases h) (fun _ h => by cases h) (fun h => by cases h) (fun h => by cases h) hkk0 hkk0 hkc0 hkc0 (by simp [refKind]) q1 q2 q3
    (by rw [nn sp q1, nn z q3, arrV_size]; show ¬ _ > _; have := q4; rw [← ix_clamp, ← ix_clamp] at this; omega)
    (by rw [nn dp q2, nn z q3, arrV_size]; show ¬ _ > _; have := q5; rw [← ix_clamp, ← ix_clamp] at this; omega)
    (fun vm₁ _ i hi => by
      have e : (arrV (D.2.1 1) (ln h a0) (fun j => .long (gl h a0 j))).slots.getD (sp.toNatClampNeg + i) .null = .long (gl h a0 (sp.toNatClampNeg + i)) := by
        rw [Array.getD_eq_getD_getElem?, arrV_read _ _ (by have := q4; rw [← ix_clamp, ← ix_clamp] at this; omega)]
        rfl
      refine ⟨?_, ?_⟩
      · rw [e]; rfl
      · rw [e]
        exact trivial)
    (g := F0 m pc ls (.int z :: .int dp :: .ref a :: .int sp :: .ref a0 :: st)) rfl hl.1 (rest := st) rfl (by rw [hb]; exact d) (by rw [g1]; exact hfr) (by rw [g2]; show 2 * 0 + _ + (7 + 11) ≤ lo; omega)
  have e1 : copied (arrV (D.2.1 1) (ln h a0) (fun j => .long (gl h a0 j))) (arrV (D.2.1 1) (ln h a) (fun j => .long (gl h a j))) sp dp z = arrV (D.2.1 1) (ln h a) (fun j => .long (va_cpy (fun j => gl h a0 j) (fun j => gl h a j) sp.toNatClampNeg dp.toNatClampNeg z.toNatClampNeg j)) := va_copied (fun z => .long z) _ _ _ _ (by have := q4; rw [← ix_clamp, ← ix_clamp] at this; exact this)
  rw [e1] at X' step
  have hlt : a < H.size := (Array.getElem?_eq_some_iff.mp hc1).1
  generalize hcn : arrV (D.2.1 1) (ln h a) (fun j => .long (va_cpy (fun j => gl h a0 j) (fun j => gl h a j) sp.toNatClampNeg dp.toNatClampNeg z.toNatClampNeg j)) = cn at X' step
  have hheap : ((T.setVm vm').setCell a cn).heap = H.setIfInBounds a cn := by rw [← hT]; rfl
  have oq : ∀ q : Nat, q ≠ a → (H.setIfInBounds a cn)[q]? = H[q]? := fun q hq => by simp [Array.getElem?_setIfInBounds, Ne.symm hq]
  have oa : (H.setIfInBounds a cn)[a]? = some cn := by simp [Array.getElem?_setIfInBounds, hlt]
  have hRel : RelH D (slA h a (va_cpy (fun j => gl h a0 j) (fun j => gl h a j) (ix sp) (ix dp) (ix z))) (H.setIfInBounds a cn) := by
    refine hR.off (a := a) (by omega) (by simp) oq rfl (fun _ => rfl) (fun _ _ => rfl) (fun b hb j => ?_) (cellR.arr (t := 1) hk (by omega) ?_)
    · exact ⟨rfl, by rw [gl_slA, if_neg hb], rfl⟩
    · rw [oa, ← hcn]
      congr 2
      funext j
      show Value.long _ = Value.long (gl (slA h a _) a j)
      rw [gl_slA, if_pos rfl]; rfl
  obtain ⟨t, a1, b1⟩ := K h1 h2 ls (H.setIfInBounds a cn) _ hl hRel (locs_app hL (fun q hq => by
    obtain ⟨z9, -, hz⟩ := List.mem_map.mp hq
    rw [← hz]
    exact (hR.2.2.2 a (by omega)).1)) _ hheap X'
  exact ⟨t, step t a1, b1⟩
end Copy
end
