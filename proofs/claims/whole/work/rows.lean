section
-- the tables' words, names and fields: by program (wip/whole/gen/gen_names.py) out of what TURN printed
/-- a private method of a class that the tables say can be made, by its rows of tables_1 -/
def lw_okq (q : MethodName × Nat) : Prop := (q.1.cls ≠ "java/lang/invoke/MethodHandle" ∧ q.1.cls ≠ "java/lang/invoke/VarHandle") ∧ Cond.instantiable q.1.cls q.2 ∈ tables_1 ∧ Cond.privateMethod q.1 ∈ tables_1 ∧ Cond.instanceMethod q.1 ∈ tables_1
theorem lw_p0 : lw_okq (⟨"DividingHead", "readPlates", "()I"⟩, 15) := ⟨⟨by decide +kernel, by decide +kernel⟩, List.mem_of_getElem? (i := 26) (by decide +kernel), List.mem_of_getElem? (i := 359) (by decide +kernel), List.mem_of_getElem? (i := 360) (by decide +kernel)⟩
theorem lw_p1 : lw_okq (⟨"DividingHead", "adopt", "(I)I"⟩, 15) := ⟨⟨by decide +kernel, by decide +kernel⟩, List.mem_of_getElem? (i := 26) (by decide +kernel), List.mem_of_getElem? (i := 401) (by decide +kernel), List.mem_of_getElem? (i := 402) (by decide +kernel)⟩
theorem lw_p2 : lw_okq (⟨"DividingHead", "readGears", "()I"⟩, 15) := ⟨⟨by decide +kernel, by decide +kernel⟩, List.mem_of_getElem? (i := 26) (by decide +kernel), List.mem_of_getElem? (i := 409) (by decide +kernel), List.mem_of_getElem? (i := 410) (by decide +kernel)⟩
theorem lw_p3 : lw_okq (⟨"DividingHead$CompoundWay", "tryPair", "(LDividingHead$Head;III)V"⟩, 6) := ⟨⟨by decide +kernel, by decide +kernel⟩, List.mem_of_getElem? (i := 88) (by decide +kernel), List.mem_of_getElem? (i := 466) (by decide +kernel), List.mem_of_getElem? (i := 467) (by decide +kernel)⟩
theorem lw_p4 : lw_okq (⟨"DividingHead$CompoundWay", "offer", "(III)Z"⟩, 6) := ⟨⟨by decide +kernel, by decide +kernel⟩, List.mem_of_getElem? (i := 88) (by decide +kernel), List.mem_of_getElem? (i := 471) (by decide +kernel), List.mem_of_getElem? (i := 472) (by decide +kernel)⟩
theorem lw_p5 : lw_okq (⟨"DividingHead$CompoundWay", "take", "(III)Z"⟩, 6) := ⟨⟨by decide +kernel, by decide +kernel⟩, List.mem_of_getElem? (i := 88) (by decide +kernel), List.mem_of_getElem? (i := 481) (by decide +kernel), List.mem_of_getElem? (i := 482) (by decide +kernel)⟩
theorem lw_p6 : lw_okq (⟨"DividingHead", "fittedShelf", "()LDividingHead$Shelf;"⟩, 15) := ⟨⟨by decide +kernel, by decide +kernel⟩, List.mem_of_getElem? (i := 26) (by decide +kernel), List.mem_of_getElem? (i := 492) (by decide +kernel), List.mem_of_getElem? (i := 493) (by decide +kernel)⟩
theorem lw_p7 : lw_okq (⟨"DividingHead$Shelf", "addTwos", "()V"⟩, 7) := ⟨⟨by decide +kernel, by decide +kernel⟩, List.mem_of_getElem? (i := 496) (by decide +kernel), List.mem_of_getElem? (i := 540) (by decide +kernel), List.mem_of_getElem? (i := 541) (by decide +kernel)⟩
theorem lw_p8 : lw_okq (⟨"DividingHead$Shelf", "tooth", "(I)I"⟩, 7) := ⟨⟨by decide +kernel, by decide +kernel⟩, List.mem_of_getElem? (i := 496) (by decide +kernel), List.mem_of_getElem? (i := 544) (by decide +kernel), List.mem_of_getElem? (i := 545) (by decide +kernel)⟩
theorem lw_p9 : lw_okq (⟨"DividingHead$Shelf", "add", "(III)V"⟩, 7) := ⟨⟨by decide +kernel, by decide +kernel⟩, List.mem_of_getElem? (i := 496) (by decide +kernel), List.mem_of_getElem? (i := 551) (by decide +kernel), List.mem_of_getElem? (i := 552) (by decide +kernel)⟩
theorem lw_p10 : lw_okq (⟨"DividingHead$Shelf", "slotOf", "(II)I"⟩, 7) := ⟨⟨by decide +kernel, by decide +kernel⟩, List.mem_of_getElem? (i := 496) (by decide +kernel), List.mem_of_getElem? (i := 556) (by decide +kernel), List.mem_of_getElem? (i := 557) (by decide +kernel)⟩
theorem lw_p11 : lw_okq (⟨"DividingHead$Shelf", "addFours", "()V"⟩, 7) := ⟨⟨by decide +kernel, by decide +kernel⟩, List.mem_of_getElem? (i := 496) (by decide +kernel), List.mem_of_getElem? (i := 562) (by decide +kernel), List.mem_of_getElem? (i := 563) (by decide +kernel)⟩
theorem lw_p12 : lw_okq (⟨"DividingHead$DifferentialWay", "tryNumber", "(LDividingHead$Head;LDividingHead$Shelf;III)V"⟩, 4) := ⟨⟨by decide +kernel, by decide +kernel⟩, List.mem_of_getElem? (i := 119) (by decide +kernel), List.mem_of_getElem? (i := 570) (by decide +kernel), List.mem_of_getElem? (i := 571) (by decide +kernel)⟩
theorem lw_p13 : lw_okq (⟨"DividingHead", "hasWay", "(II)Z"⟩, 15) := ⟨⟨by decide +kernel, by decide +kernel⟩, List.mem_of_getElem? (i := 26) (by decide +kernel), List.mem_of_getElem? (i := 587) (by decide +kernel), List.mem_of_getElem? (i := 588) (by decide +kernel)⟩
theorem lw_p14 : lw_okq (⟨"DividingHead", "tellWheels", "(LDividingHead$Shelf;I)I"⟩, 15) := ⟨⟨by decide +kernel, by decide +kernel⟩, List.mem_of_getElem? (i := 26) (by decide +kernel), List.mem_of_getElem? (i := 607) (by decide +kernel), List.mem_of_getElem? (i := 608) (by decide +kernel)⟩
theorem lw_p15 : lw_okq (⟨"DividingHead", "tellClosest", "(JJJ)I"⟩, 15) := ⟨⟨by decide +kernel, by decide +kernel⟩, List.mem_of_getElem? (i := 26) (by decide +kernel), List.mem_of_getElem? (i := 620) (by decide +kernel), List.mem_of_getElem? (i := 621) (by decide +kernel)⟩
def lw_privs_1 : List (MethodName × Nat) := [(⟨"DividingHead", "readPlates", "()I"⟩, 15), (⟨"DividingHead", "adopt", "(I)I"⟩, 15), (⟨"DividingHead", "readGears", "()I"⟩, 15), (⟨"DividingHead$CompoundWay", "tryPair", "(LDividingHead$Head;III)V"⟩, 6), (⟨"DividingHead$CompoundWay", "offer", "(III)Z"⟩, 6), (⟨"DividingHead$CompoundWay", "take", "(III)Z"⟩, 6), (⟨"DividingHead", "fittedShelf", "()LDividingHead$Shelf;"⟩, 15), (⟨"DividingHead$Shelf", "addTwos", "()V"⟩, 7), (⟨"DividingHead$Shelf", "tooth", "(I)I"⟩, 7), (⟨"DividingHead$Shelf", "add", "(III)V"⟩, 7), (⟨"DividingHead$Shelf", "slotOf", "(II)I"⟩, 7), (⟨"DividingHead$Shelf", "addFours", "()V"⟩, 7), (⟨"DividingHead$DifferentialWay", "tryNumber", "(LDividingHead$Head;LDividingHead$Shelf;III)V"⟩, 4), (⟨"DividingHead", "hasWay", "(II)Z"⟩, 15), (⟨"DividingHead", "tellWheels", "(LDividingHead$Shelf;I)I"⟩, 15), (⟨"DividingHead", "tellClosest", "(JJJ)I"⟩, 15)]
theorem lw_r1 : ∀ q ∈ lw_privs_1, lw_okq q := List.forall_mem_cons.mpr ⟨lw_p0, List.forall_mem_cons.mpr ⟨lw_p1, List.forall_mem_cons.mpr ⟨lw_p2, List.forall_mem_cons.mpr ⟨lw_p3, List.forall_mem_cons.mpr ⟨lw_p4, List.forall_mem_cons.mpr ⟨lw_p5, List.forall_mem_cons.mpr ⟨lw_p6, List.forall_mem_cons.mpr ⟨lw_p7, List.forall_mem_cons.mpr ⟨lw_p8, List.forall_mem_cons.mpr ⟨lw_p9, List.forall_mem_cons.mpr ⟨lw_p10, List.forall_mem_cons.mpr ⟨lw_p11, List.forall_mem_cons.mpr ⟨lw_p12, List.forall_mem_cons.mpr ⟨lw_p13, List.forall_mem_cons.mpr ⟨lw_p14, List.forall_mem_cons.mpr ⟨lw_p15, fun _ h => absurd h List.not_mem_nil⟩⟩⟩⟩⟩⟩⟩⟩⟩⟩⟩⟩⟩⟩⟩⟩
theorem lw_p16 : lw_okq (⟨"DividingHead", "findNear", "(JJI)V"⟩, 15) := ⟨⟨by decide +kernel, by decide +kernel⟩, List.mem_of_getElem? (i := 26) (by decide +kernel), List.mem_of_getElem? (i := 675) (by decide +kernel), List.mem_of_getElem? (i := 676) (by decide +kernel)⟩
theorem lw_p17 : lw_okq (⟨"DividingHead", "tellAngle", "(IJ)V"⟩, 15) := ⟨⟨by decide +kernel, by decide +kernel⟩, List.mem_of_getElem? (i := 26) (by decide +kernel), List.mem_of_getElem? (i := 693) (by decide +kernel), List.mem_of_getElem? (i := 694) (by decide +kernel)⟩
theorem lw_p18 : lw_okq (⟨"DividingHead$Head", "isPair", "(II)Z"⟩, 17) := ⟨⟨by decide +kernel, by decide +kernel⟩, List.mem_of_getElem? (i := 188) (by decide +kernel), List.mem_of_getElem? (i := 713) (by decide +kernel), List.mem_of_getElem? (i := 714) (by decide +kernel)⟩
theorem lw_p19 : lw_okq (⟨"DividingHead$Head", "compareMark", "(I)I"⟩, 17) := ⟨⟨by decide +kernel, by decide +kernel⟩, List.mem_of_getElem? (i := 188) (by decide +kernel), List.mem_of_getElem? (i := 749) (by decide +kernel), List.mem_of_getElem? (i := 750) (by decide +kernel)⟩
theorem lw_p20 : lw_okq (⟨"DividingHead", "putInDifferential", "()V"⟩, 15) := ⟨⟨by decide +kernel, by decide +kernel⟩, List.mem_of_getElem? (i := 26) (by decide +kernel), List.mem_of_getElem? (i := 777) (by decide +kernel), List.mem_of_getElem? (i := 778) (by decide +kernel)⟩
theorem lw_p21 : lw_okq (⟨"DividingHead", "windWay", "(I)V"⟩, 15) := ⟨⟨by decide +kernel, by decide +kernel⟩, List.mem_of_getElem? (i := 26) (by decide +kernel), List.mem_of_getElem? (i := 781) (by decide +kernel), List.mem_of_getElem? (i := 782) (by decide +kernel)⟩
theorem lw_p22 : lw_okq (⟨"DividingHead$GapList", "holdsGap", "()Z"⟩, 4) := ⟨⟨by decide +kernel, by decide +kernel⟩, List.mem_of_getElem? (i := 144) (by decide +kernel), List.mem_of_getElem? (i := 794) (by decide +kernel), List.mem_of_getElem? (i := 795) (by decide +kernel)⟩
theorem lw_p23 : lw_okq (⟨"DividingHead", "firstWrongOfDay", "()I"⟩, 15) := ⟨⟨by decide +kernel, by decide +kernel⟩, List.mem_of_getElem? (i := 26) (by decide +kernel), List.mem_of_getElem? (i := 841) (by decide +kernel), List.mem_of_getElem? (i := 842) (by decide +kernel)⟩
theorem lw_p24 : lw_okq (⟨"DividingHead", "doAct", "(I)I"⟩, 15) := ⟨⟨by decide +kernel, by decide +kernel⟩, List.mem_of_getElem? (i := 26) (by decide +kernel), List.mem_of_getElem? (i := 848) (by decide +kernel), List.mem_of_getElem? (i := 849) (by decide +kernel)⟩
theorem lw_p25 : lw_okq (⟨"DividingHead", "draw", "(I)I"⟩, 15) := ⟨⟨by decide +kernel, by decide +kernel⟩, List.mem_of_getElem? (i := 26) (by decide +kernel), List.mem_of_getElem? (i := 860) (by decide +kernel), List.mem_of_getElem? (i := 861) (by decide +kernel)⟩
theorem lw_p26 : lw_okq (⟨"java/lang/Throwable", "fillInStackTrace", "(I)Ljava/lang/Throwable;"⟩, 6) := ⟨⟨by decide +kernel, by decide +kernel⟩, List.mem_of_getElem? (i := 922) (by decide +kernel), List.mem_of_getElem? (i := 920) (by decide +kernel), List.mem_of_getElem? (i := 921) (by decide +kernel)⟩
theorem lw_p27 : lw_okq (⟨"DividingHeadModel", "begins", "(I)V"⟩, 43) := ⟨⟨by decide +kernel, by decide +kernel⟩, List.mem_of_getElem? (i := 983) (by decide +kernel), List.mem_of_getElem? (i := 989) (by decide +kernel), List.mem_of_getElem? (i := 990) (by decide +kernel)⟩
theorem lw_p28 : lw_okq (⟨"DividingHeadModel", "copies", "(II)V"⟩, 43) := ⟨⟨by decide +kernel, by decide +kernel⟩, List.mem_of_getElem? (i := 983) (by decide +kernel), List.mem_of_getElem? (i := 1128) (by decide +kernel), List.mem_of_getElem? (i := 1129) (by decide +kernel)⟩
theorem lw_p29 : lw_okq (⟨"DividingHeadModel", "reads", "()V"⟩, 43) := ⟨⟨by decide +kernel, by decide +kernel⟩, List.mem_of_getElem? (i := 983) (by decide +kernel), List.mem_of_getElem? (i := 1136) (by decide +kernel), List.mem_of_getElem? (i := 1137) (by decide +kernel)⟩
theorem lw_p30 : lw_okq (⟨"DividingHeadModel", "readsPlate", "(I)Z"⟩, 43) := ⟨⟨by decide +kernel, by decide +kernel⟩, List.mem_of_getElem? (i := 983) (by decide +kernel), List.mem_of_getElem? (i := 1140) (by decide +kernel), List.mem_of_getElem? (i := 1141) (by decide +kernel)⟩
theorem lw_p31 : lw_okq (⟨"DividingHeadModel", "two", "()I"⟩, 43) := ⟨⟨by decide +kernel, by decide +kernel⟩, List.mem_of_getElem? (i := 983) (by decide +kernel), List.mem_of_getElem? (i := 1144) (by decide +kernel), List.mem_of_getElem? (i := 1145) (by decide +kernel)⟩
def lw_privs_2 : List (MethodName × Nat) := [(⟨"DividingHead", "findNear", "(JJI)V"⟩, 15), (⟨"DividingHead", "tellAngle", "(IJ)V"⟩, 15), (⟨"DividingHead$Head", "isPair", "(II)Z"⟩, 17), (⟨"DividingHead$Head", "compareMark", "(I)I"⟩, 17), (⟨"DividingHead", "putInDifferential", "()V"⟩, 15), (⟨"DividingHead", "windWay", "(I)V"⟩, 15), (⟨"DividingHead$GapList", "holdsGap", "()Z"⟩, 4), (⟨"DividingHead", "firstWrongOfDay", "()I"⟩, 15), (⟨"DividingHead", "doAct", "(I)I"⟩, 15), (⟨"DividingHead", "draw", "(I)I"⟩, 15), (⟨"java/lang/Throwable", "fillInStackTrace", "(I)Ljava/lang/Throwable;"⟩, 6), (⟨"DividingHeadModel", "begins", "(I)V"⟩, 43), (⟨"DividingHeadModel", "copies", "(II)V"⟩, 43), (⟨"DividingHeadModel", "reads", "()V"⟩, 43), (⟨"DividingHeadModel", "readsPlate", "(I)Z"⟩, 43), (⟨"DividingHeadModel", "two", "()I"⟩, 43)]
theorem lw_r2 : ∀ q ∈ lw_privs_2, lw_okq q := List.forall_mem_cons.mpr ⟨lw_p16, List.forall_mem_cons.mpr ⟨lw_p17, List.forall_mem_cons.mpr ⟨lw_p18, List.forall_mem_cons.mpr ⟨lw_p19, List.forall_mem_cons.mpr ⟨lw_p20, List.forall_mem_cons.mpr ⟨lw_p21, List.forall_mem_cons.mpr ⟨lw_p22, List.forall_mem_cons.mpr ⟨lw_p23, List.forall_mem_cons.mpr ⟨lw_p24, List.forall_mem_cons.mpr ⟨lw_p25, List.forall_mem_cons.mpr ⟨lw_p26, List.forall_mem_cons.mpr ⟨lw_p27, List.forall_mem_cons.mpr ⟨lw_p28, List.forall_mem_cons.mpr ⟨lw_p29, List.forall_mem_cons.mpr ⟨lw_p30, List.forall_mem_cons.mpr ⟨lw_p31, fun _ h => absurd h List.not_mem_nil⟩⟩⟩⟩⟩⟩⟩⟩⟩⟩⟩⟩⟩⟩⟩⟩
theorem lw_p32 : lw_okq (⟨"DividingHeadModel", "digit", "()I"⟩, 43) := ⟨⟨by decide +kernel, by decide +kernel⟩, List.mem_of_getElem? (i := 983) (by decide +kernel), List.mem_of_getElem? (i := 1148) (by decide +kernel), List.mem_of_getElem? (i := 1149) (by decide +kernel)⟩
theorem lw_p33 : lw_okq (⟨"DividingHeadModel", "takesOf", "(Ljava/lang/String;)I"⟩, 43) := ⟨⟨by decide +kernel, by decide +kernel⟩, List.mem_of_getElem? (i := 983) (by decide +kernel), List.mem_of_getElem? (i := 1153) (by decide +kernel), List.mem_of_getElem? (i := 1154) (by decide +kernel)⟩
theorem lw_p34 : lw_okq (⟨"DividingHeadModel", "takes", "(C)Z"⟩, 43) := ⟨⟨by decide +kernel, by decide +kernel⟩, List.mem_of_getElem? (i := 983) (by decide +kernel), List.mem_of_getElem? (i := 1207) (by decide +kernel), List.mem_of_getElem? (i := 1208) (by decide +kernel)⟩
theorem lw_p35 : lw_okq (⟨"DividingHeadModel", "circlesOf", "(I)I"⟩, 43) := ⟨⟨by decide +kernel, by decide +kernel⟩, List.mem_of_getElem? (i := 983) (by decide +kernel), List.mem_of_getElem? (i := 1214) (by decide +kernel), List.mem_of_getElem? (i := 1215) (by decide +kernel)⟩
theorem lw_p36 : lw_okq (⟨"DividingHeadModel", "putsRead", "(I)I"⟩, 43) := ⟨⟨by decide +kernel, by decide +kernel⟩, List.mem_of_getElem? (i := 983) (by decide +kernel), List.mem_of_getElem? (i := 1218) (by decide +kernel), List.mem_of_getElem? (i := 1219) (by decide +kernel)⟩
theorem lw_p37 : lw_okq (⟨"DividingHeadModel", "done", "(I)I"⟩, 43) := ⟨⟨by decide +kernel, by decide +kernel⟩, List.mem_of_getElem? (i := 983) (by decide +kernel), List.mem_of_getElem? (i := 1222) (by decide +kernel), List.mem_of_getElem? (i := 1223) (by decide +kernel)⟩
theorem lw_p38 : lw_okq (⟨"DividingHeadModel", "circles", "()I"⟩, 43) := ⟨⟨by decide +kernel, by decide +kernel⟩, List.mem_of_getElem? (i := 983) (by decide +kernel), List.mem_of_getElem? (i := 1242) (by decide +kernel), List.mem_of_getElem? (i := 1243) (by decide +kernel)⟩
theorem lw_p39 : lw_okq (⟨"DividingHeadModel", "enters", "(J)V"⟩, 43) := ⟨⟨by decide +kernel, by decide +kernel⟩, List.mem_of_getElem? (i := 983) (by decide +kernel), List.mem_of_getElem? (i := 1246) (by decide +kernel), List.mem_of_getElem? (i := 1247) (by decide +kernel)⟩
theorem lw_p40 : lw_okq (⟨"DividingHeadModel", "holes", "(I)I"⟩, 43) := ⟨⟨by decide +kernel, by decide +kernel⟩, List.mem_of_getElem? (i := 983) (by decide +kernel), List.mem_of_getElem? (i := 1250) (by decide +kernel), List.mem_of_getElem? (i := 1251) (by decide +kernel)⟩
theorem lw_p41 : lw_okq (⟨"DividingHeadModel", "gearMany", "()I"⟩, 43) := ⟨⟨by decide +kernel, by decide +kernel⟩, List.mem_of_getElem? (i := 983) (by decide +kernel), List.mem_of_getElem? (i := 1258) (by decide +kernel), List.mem_of_getElem? (i := 1259) (by decide +kernel)⟩
theorem lw_p42 : lw_okq (⟨"DividingHeadModel", "teeth", "(I)I"⟩, 43) := ⟨⟨by decide +kernel, by decide +kernel⟩, List.mem_of_getElem? (i := 983) (by decide +kernel), List.mem_of_getElem? (i := 1262) (by decide +kernel), List.mem_of_getElem? (i := 1263) (by decide +kernel)⟩
theorem lw_p43 : lw_okq (⟨"DividingHeadModel", "hasSimple", "(II)Z"⟩, 43) := ⟨⟨by decide +kernel, by decide +kernel⟩, List.mem_of_getElem? (i := 983) (by decide +kernel), List.mem_of_getElem? (i := 1275) (by decide +kernel), List.mem_of_getElem? (i := 1276) (by decide +kernel)⟩
theorem lw_p44 : lw_okq (⟨"DividingHeadModel", "worm", "()I"⟩, 43) := ⟨⟨by decide +kernel, by decide +kernel⟩, List.mem_of_getElem? (i := 983) (by decide +kernel), List.mem_of_getElem? (i := 1279) (by decide +kernel), List.mem_of_getElem? (i := 1280) (by decide +kernel)⟩
theorem lw_p45 : lw_okq (⟨"DividingHeadModel", "firstSimple", "(I)I"⟩, 43) := ⟨⟨by decide +kernel, by decide +kernel⟩, List.mem_of_getElem? (i := 983) (by decide +kernel), List.mem_of_getElem? (i := 1283) (by decide +kernel), List.mem_of_getElem? (i := 1284) (by decide +kernel)⟩
theorem lw_p46 : lw_okq (⟨"DividingHeadModel", "allHoles", "(II)I"⟩, 43) := ⟨⟨by decide +kernel, by decide +kernel⟩, List.mem_of_getElem? (i := 983) (by decide +kernel), List.mem_of_getElem? (i := 1287) (by decide +kernel), List.mem_of_getElem? (i := 1288) (by decide +kernel)⟩
theorem lw_p47 : lw_okq (⟨"DividingHeadModel", "findsCompound", "(I)I"⟩, 43) := ⟨⟨by decide +kernel, by decide +kernel⟩, List.mem_of_getElem? (i := 983) (by decide +kernel), List.mem_of_getElem? (i := 1295) (by decide +kernel), List.mem_of_getElem? (i := 1296) (by decide +kernel)⟩
def lw_privs_3 : List (MethodName × Nat) := [(⟨"DividingHeadModel", "digit", "()I"⟩, 43), (⟨"DividingHeadModel", "takesOf", "(Ljava/lang/String;)I"⟩, 43), (⟨"DividingHeadModel", "takes", "(C)Z"⟩, 43), (⟨"DividingHeadModel", "circlesOf", "(I)I"⟩, 43), (⟨"DividingHeadModel", "putsRead", "(I)I"⟩, 43), (⟨"DividingHeadModel", "done", "(I)I"⟩, 43), (⟨"DividingHeadModel", "circles", "()I"⟩, 43), (⟨"DividingHeadModel", "enters", "(J)V"⟩, 43), (⟨"DividingHeadModel", "holes", "(I)I"⟩, 43), (⟨"DividingHeadModel", "gearMany", "()I"⟩, 43), (⟨"DividingHeadModel", "teeth", "(I)I"⟩, 43), (⟨"DividingHeadModel", "hasSimple", "(II)Z"⟩, 43), (⟨"DividingHeadModel", "worm", "()I"⟩, 43), (⟨"DividingHeadModel", "firstSimple", "(I)I"⟩, 43), (⟨"DividingHeadModel", "allHoles", "(II)I"⟩, 43), (⟨"DividingHeadModel", "findsCompound", "(I)I"⟩, 43)]
theorem lw_r3 : ∀ q ∈ lw_privs_3, lw_okq q := List.forall_mem_cons.mpr ⟨lw_p32, List.forall_mem_cons.mpr ⟨lw_p33, List.forall_mem_cons.mpr ⟨lw_p34, List.forall_mem_cons.mpr ⟨lw_p35, List.forall_mem_cons.mpr ⟨lw_p36, List.forall_mem_cons.mpr ⟨lw_p37, List.forall_mem_cons.mpr ⟨lw_p38, List.forall_mem_cons.mpr ⟨lw_p39, List.forall_mem_cons.mpr ⟨lw_p40, List.forall_mem_cons.mpr ⟨lw_p41, List.forall_mem_cons.mpr ⟨lw_p42, List.forall_mem_cons.mpr ⟨lw_p43, List.forall_mem_cons.mpr ⟨lw_p44, List.forall_mem_cons.mpr ⟨lw_p45, List.forall_mem_cons.mpr ⟨lw_p46, List.forall_mem_cons.mpr ⟨lw_p47, fun _ h => absurd h List.not_mem_nil⟩⟩⟩⟩⟩⟩⟩⟩⟩⟩⟩⟩⟩⟩⟩⟩
theorem lw_p48 : lw_okq (⟨"DividingHeadModel", "looksAt", "(IIII)I"⟩, 43) := ⟨⟨by decide +kernel, by decide +kernel⟩, List.mem_of_getElem? (i := 983) (by decide +kernel), List.mem_of_getElem? (i := 1299) (by decide +kernel), List.mem_of_getElem? (i := 1300) (by decide +kernel)⟩
theorem lw_p49 : lw_okq (⟨"DividingHeadModel", "findsDifferential", "(I)Z"⟩, 43) := ⟨⟨by decide +kernel, by decide +kernel⟩, List.mem_of_getElem? (i := 983) (by decide +kernel), List.mem_of_getElem? (i := 1310) (by decide +kernel), List.mem_of_getElem? (i := 1311) (by decide +kernel)⟩
theorem lw_p50 : lw_okq (⟨"DividingHeadModel", "isDifferential", "(II)Z"⟩, 43) := ⟨⟨by decide +kernel, by decide +kernel⟩, List.mem_of_getElem? (i := 983) (by decide +kernel), List.mem_of_getElem? (i := 1314) (by decide +kernel), List.mem_of_getElem? (i := 1315) (by decide +kernel)⟩
theorem lw_p51 : lw_okq (⟨"DividingHeadModel", "findsTrain", "(JJ)Z"⟩, 43) := ⟨⟨by decide +kernel, by decide +kernel⟩, List.mem_of_getElem? (i := 983) (by decide +kernel), List.mem_of_getElem? (i := 1318) (by decide +kernel), List.mem_of_getElem? (i := 1319) (by decide +kernel)⟩
theorem lw_p52 : lw_okq (⟨"DividingHeadModel", "nextTrain", "()Z"⟩, 43) := ⟨⟨by decide +kernel, by decide +kernel⟩, List.mem_of_getElem? (i := 983) (by decide +kernel), List.mem_of_getElem? (i := 1322) (by decide +kernel), List.mem_of_getElem? (i := 1323) (by decide +kernel)⟩
theorem lw_p53 : lw_okq (⟨"DividingHeadModel", "startsTrains", "(I)V"⟩, 43) := ⟨⟨by decide +kernel, by decide +kernel⟩, List.mem_of_getElem? (i := 983) (by decide +kernel), List.mem_of_getElem? (i := 1326) (by decide +kernel), List.mem_of_getElem? (i := 1327) (by decide +kernel)⟩
theorem lw_p54 : lw_okq (⟨"DividingHeadModel", "goesOn", "(I)Z"⟩, 43) := ⟨⟨by decide +kernel, by decide +kernel⟩, List.mem_of_getElem? (i := 983) (by decide +kernel), List.mem_of_getElem? (i := 1330) (by decide +kernel), List.mem_of_getElem? (i := 1331) (by decide +kernel)⟩
theorem lw_p55 : lw_okq (⟨"DividingHeadModel", "isUnlike", "(I)Z"⟩, 43) := ⟨⟨by decide +kernel, by decide +kernel⟩, List.mem_of_getElem? (i := 983) (by decide +kernel), List.mem_of_getElem? (i := 1334) (by decide +kernel), List.mem_of_getElem? (i := 1335) (by decide +kernel)⟩
theorem lw_p56 : lw_okq (⟨"DividingHeadModel", "beginsFour", "()Z"⟩, 43) := ⟨⟨by decide +kernel, by decide +kernel⟩, List.mem_of_getElem? (i := 983) (by decide +kernel), List.mem_of_getElem? (i := 1338) (by decide +kernel), List.mem_of_getElem? (i := 1339) (by decide +kernel)⟩
theorem lw_p57 : lw_okq (⟨"DividingHeadModel", "upper", "()J"⟩, 43) := ⟨⟨by decide +kernel, by decide +kernel⟩, List.mem_of_getElem? (i := 983) (by decide +kernel), List.mem_of_getElem? (i := 1342) (by decide +kernel), List.mem_of_getElem? (i := 1343) (by decide +kernel)⟩
theorem lw_p58 : lw_okq (⟨"DividingHeadModel", "lower", "()J"⟩, 43) := ⟨⟨by decide +kernel, by decide +kernel⟩, List.mem_of_getElem? (i := 983) (by decide +kernel), List.mem_of_getElem? (i := 1346) (by decide +kernel), List.mem_of_getElem? (i := 1347) (by decide +kernel)⟩
theorem lw_p59 : lw_okq (⟨"DividingHeadModel", "finds", "()V"⟩, 43) := ⟨⟨by decide +kernel, by decide +kernel⟩, List.mem_of_getElem? (i := 983) (by decide +kernel), List.mem_of_getElem? (i := 1350) (by decide +kernel), List.mem_of_getElem? (i := 1351) (by decide +kernel)⟩
theorem lw_p60 : lw_okq (⟨"DividingHeadModel", "waysOf", "(I)I"⟩, 43) := ⟨⟨by decide +kernel, by decide +kernel⟩, List.mem_of_getElem? (i := 983) (by decide +kernel), List.mem_of_getElem? (i := 1358) (by decide +kernel), List.mem_of_getElem? (i := 1359) (by decide +kernel)⟩
theorem lw_p61 : lw_okq (⟨"DividingHeadModel", "entersFound", "()V"⟩, 43) := ⟨⟨by decide +kernel, by decide +kernel⟩, List.mem_of_getElem? (i := 983) (by decide +kernel), List.mem_of_getElem? (i := 1373) (by decide +kernel), List.mem_of_getElem? (i := 1374) (by decide +kernel)⟩
theorem lw_p62 : lw_okq (⟨"DividingHeadModel", "findsNearest", "(JJJ)Z"⟩, 43) := ⟨⟨by decide +kernel, by decide +kernel⟩, List.mem_of_getElem? (i := 983) (by decide +kernel), List.mem_of_getElem? (i := 1381) (by decide +kernel), List.mem_of_getElem? (i := 1382) (by decide +kernel)⟩
theorem lw_p63 : lw_okq (⟨"DividingHeadModel", "isNearer", "(JJJJ)Z"⟩, 43) := ⟨⟨by decide +kernel, by decide +kernel⟩, List.mem_of_getElem? (i := 983) (by decide +kernel), List.mem_of_getElem? (i := 1388) (by decide +kernel), List.mem_of_getElem? (i := 1389) (by decide +kernel)⟩
def lw_privs_4 : List (MethodName × Nat) := [(⟨"DividingHeadModel", "looksAt", "(IIII)I"⟩, 43), (⟨"DividingHeadModel", "findsDifferential", "(I)Z"⟩, 43), (⟨"DividingHeadModel", "isDifferential", "(II)Z"⟩, 43), (⟨"DividingHeadModel", "findsTrain", "(JJ)Z"⟩, 43), (⟨"DividingHeadModel", "nextTrain", "()Z"⟩, 43), (⟨"DividingHeadModel", "startsTrains", "(I)V"⟩, 43), (⟨"DividingHeadModel", "goesOn", "(I)Z"⟩, 43), (⟨"DividingHeadModel", "isUnlike", "(I)Z"⟩, 43), (⟨"DividingHeadModel", "beginsFour", "()Z"⟩, 43), (⟨"DividingHeadModel", "upper", "()J"⟩, 43), (⟨"DividingHeadModel", "lower", "()J"⟩, 43), (⟨"DividingHeadModel", "finds", "()V"⟩, 43), (⟨"DividingHeadModel", "waysOf", "(I)I"⟩, 43), (⟨"DividingHeadModel", "entersFound", "()V"⟩, 43), (⟨"DividingHeadModel", "findsNearest", "(JJJ)Z"⟩, 43), (⟨"DividingHeadModel", "isNearer", "(JJJJ)Z"⟩, 43)]
theorem lw_r4 : ∀ q ∈ lw_privs_4, lw_okq q := List.forall_mem_cons.mpr ⟨lw_p48, List.forall_mem_cons.mpr ⟨lw_p49, List.forall_mem_cons.mpr ⟨lw_p50, List.forall_mem_cons.mpr ⟨lw_p51, List.forall_mem_cons.mpr ⟨lw_p52, List.forall_mem_cons.mpr ⟨lw_p53, List.forall_mem_cons.mpr ⟨lw_p54, List.forall_mem_cons.mpr ⟨lw_p55, List.forall_mem_cons.mpr ⟨lw_p56, List.forall_mem_cons.mpr ⟨lw_p57, List.forall_mem_cons.mpr ⟨lw_p58, List.forall_mem_cons.mpr ⟨lw_p59, List.forall_mem_cons.mpr ⟨lw_p60, List.forall_mem_cons.mpr ⟨lw_p61, List.forall_mem_cons.mpr ⟨lw_p62, List.forall_mem_cons.mpr ⟨lw_p63, fun _ h => absurd h List.not_mem_nil⟩⟩⟩⟩⟩⟩⟩⟩⟩⟩⟩⟩⟩⟩⟩⟩
theorem lw_p64 : lw_okq (⟨"DividingHeadModel", "entersNear", "()V"⟩, 43) := ⟨⟨by decide +kernel, by decide +kernel⟩, List.mem_of_getElem? (i := 983) (by decide +kernel), List.mem_of_getElem? (i := 1392) (by decide +kernel), List.mem_of_getElem? (i := 1393) (by decide +kernel)⟩
theorem lw_p65 : lw_okq (⟨"DividingHeadModel", "entersPart", "(JJ)V"⟩, 43) := ⟨⟨by decide +kernel, by decide +kernel⟩, List.mem_of_getElem? (i := 983) (by decide +kernel), List.mem_of_getElem? (i := 1396) (by decide +kernel), List.mem_of_getElem? (i := 1397) (by decide +kernel)⟩
theorem lw_p66 : lw_okq (⟨"DividingHeadModel", "sorts", "()V"⟩, 43) := ⟨⟨by decide +kernel, by decide +kernel⟩, List.mem_of_getElem? (i := 983) (by decide +kernel), List.mem_of_getElem? (i := 1410) (by decide +kernel), List.mem_of_getElem? (i := 1411) (by decide +kernel)⟩
theorem lw_p67 : lw_okq (⟨"DividingHeadModel", "sinks", "(II)V"⟩, 43) := ⟨⟨by decide +kernel, by decide +kernel⟩, List.mem_of_getElem? (i := 983) (by decide +kernel), List.mem_of_getElem? (i := 1414) (by decide +kernel), List.mem_of_getElem? (i := 1415) (by decide +kernel)⟩
theorem lw_p68 : lw_okq (⟨"DividingHeadModel", "stepsTo", "(JJZ)I"⟩, 43) := ⟨⟨by decide +kernel, by decide +kernel⟩, List.mem_of_getElem? (i := 983) (by decide +kernel), List.mem_of_getElem? (i := 1427) (by decide +kernel), List.mem_of_getElem? (i := 1428) (by decide +kernel)⟩
theorem lw_p69 : lw_okq (⟨"DividingHeadModel", "usesOne", "(I)I"⟩, 43) := ⟨⟨by decide +kernel, by decide +kernel⟩, List.mem_of_getElem? (i := 983) (by decide +kernel), List.mem_of_getElem? (i := 1445) (by decide +kernel), List.mem_of_getElem? (i := 1446) (by decide +kernel)⟩
theorem lw_p70 : lw_okq (⟨"DividingHeadModel", "gearedOne", "(IIIII)I"⟩, 43) := ⟨⟨by decide +kernel, by decide +kernel⟩, List.mem_of_getElem? (i := 983) (by decide +kernel), List.mem_of_getElem? (i := 1453) (by decide +kernel), List.mem_of_getElem? (i := 1454) (by decide +kernel)⟩
theorem lw_p71 : lw_okq (⟨"DividingHeadModel", "isGear", "(I)Z"⟩, 43) := ⟨⟨by decide +kernel, by decide +kernel⟩, List.mem_of_getElem? (i := 983) (by decide +kernel), List.mem_of_getElem? (i := 1457) (by decide +kernel), List.mem_of_getElem? (i := 1458) (by decide +kernel)⟩
theorem lw_p72 : lw_okq (⟨"DividingHeadModel", "ungearedOne", "()I"⟩, 43) := ⟨⟨by decide +kernel, by decide +kernel⟩, List.mem_of_getElem? (i := 983) (by decide +kernel), List.mem_of_getElem? (i := 1465) (by decide +kernel), List.mem_of_getElem? (i := 1466) (by decide +kernel)⟩
theorem lw_p73 : lw_okq (⟨"DividingHeadModel", "turnsOne", "(III)I"⟩, 43) := ⟨⟨by decide +kernel, by decide +kernel⟩, List.mem_of_getElem? (i := 983) (by decide +kernel), List.mem_of_getElem? (i := 1473) (by decide +kernel), List.mem_of_getElem? (i := 1474) (by decide +kernel)⟩
theorem lw_p74 : lw_okq (⟨"DividingHeadModel", "goesBy", "(IJ)I"⟩, 43) := ⟨⟨by decide +kernel, by decide +kernel⟩, List.mem_of_getElem? (i := 983) (by decide +kernel), List.mem_of_getElem? (i := 1478) (by decide +kernel), List.mem_of_getElem? (i := 1479) (by decide +kernel)⟩
theorem lw_p75 : lw_okq (⟨"DividingHeadModel", "laysNext", "(IJ)Z"⟩, 43) := ⟨⟨by decide +kernel, by decide +kernel⟩, List.mem_of_getElem? (i := 983) (by decide +kernel), List.mem_of_getElem? (i := 1482) (by decide +kernel), List.mem_of_getElem? (i := 1483) (by decide +kernel)⟩
theorem lw_p76 : lw_okq (⟨"DividingHeadModel", "laysStep", "(I)V"⟩, 43) := ⟨⟨by decide +kernel, by decide +kernel⟩, List.mem_of_getElem? (i := 983) (by decide +kernel), List.mem_of_getElem? (i := 1486) (by decide +kernel), List.mem_of_getElem? (i := 1487) (by decide +kernel)⟩
theorem lw_p77 : lw_okq (⟨"DividingHeadModel", "trainLower", "()J"⟩, 43) := ⟨⟨by decide +kernel, by decide +kernel⟩, List.mem_of_getElem? (i := 983) (by decide +kernel), List.mem_of_getElem? (i := 1490) (by decide +kernel), List.mem_of_getElem? (i := 1491) (by decide +kernel)⟩
theorem lw_p78 : lw_okq (⟨"DividingHeadModel", "trainUpper", "()J"⟩, 43) := ⟨⟨by decide +kernel, by decide +kernel⟩, List.mem_of_getElem? (i := 983) (by decide +kernel), List.mem_of_getElem? (i := 1494) (by decide +kernel), List.mem_of_getElem? (i := 1495) (by decide +kernel)⟩
theorem lw_p79 : lw_okq (⟨"DividingHeadModel", "cutsOne", "()I"⟩, 43) := ⟨⟨by decide +kernel, by decide +kernel⟩, List.mem_of_getElem? (i := 983) (by decide +kernel), List.mem_of_getElem? (i := 1504) (by decide +kernel), List.mem_of_getElem? (i := 1505) (by decide +kernel)⟩
def lw_privs_5 : List (MethodName × Nat) := [(⟨"DividingHeadModel", "entersNear", "()V"⟩, 43), (⟨"DividingHeadModel", "entersPart", "(JJ)V"⟩, 43), (⟨"DividingHeadModel", "sorts", "()V"⟩, 43), (⟨"DividingHeadModel", "sinks", "(II)V"⟩, 43), (⟨"DividingHeadModel", "stepsTo", "(JJZ)I"⟩, 43), (⟨"DividingHeadModel", "usesOne", "(I)I"⟩, 43), (⟨"DividingHeadModel", "gearedOne", "(IIIII)I"⟩, 43), (⟨"DividingHeadModel", "isGear", "(I)Z"⟩, 43), (⟨"DividingHeadModel", "ungearedOne", "()I"⟩, 43), (⟨"DividingHeadModel", "turnsOne", "(III)I"⟩, 43), (⟨"DividingHeadModel", "goesBy", "(IJ)I"⟩, 43), (⟨"DividingHeadModel", "laysNext", "(IJ)Z"⟩, 43), (⟨"DividingHeadModel", "laysStep", "(I)V"⟩, 43), (⟨"DividingHeadModel", "trainLower", "()J"⟩, 43), (⟨"DividingHeadModel", "trainUpper", "()J"⟩, 43), (⟨"DividingHeadModel", "cutsOne", "()I"⟩, 43)]
theorem lw_r5 : ∀ q ∈ lw_privs_5, lw_okq q := List.forall_mem_cons.mpr ⟨lw_p64, List.forall_mem_cons.mpr ⟨lw_p65, List.forall_mem_cons.mpr ⟨lw_p66, List.forall_mem_cons.mpr ⟨lw_p67, List.forall_mem_cons.mpr ⟨lw_p68, List.forall_mem_cons.mpr ⟨lw_p69, List.forall_mem_cons.mpr ⟨lw_p70, List.forall_mem_cons.mpr ⟨lw_p71, List.forall_mem_cons.mpr ⟨lw_p72, List.forall_mem_cons.mpr ⟨lw_p73, List.forall_mem_cons.mpr ⟨lw_p74, List.forall_mem_cons.mpr ⟨lw_p75, List.forall_mem_cons.mpr ⟨lw_p76, List.forall_mem_cons.mpr ⟨lw_p77, List.forall_mem_cons.mpr ⟨lw_p78, List.forall_mem_cons.mpr ⟨lw_p79, fun _ h => absurd h List.not_mem_nil⟩⟩⟩⟩⟩⟩⟩⟩⟩⟩⟩⟩⟩⟩⟩⟩
theorem lw_p80 : lw_okq (⟨"DividingHeadModel", "markAt", "(JJ)I"⟩, 43) := ⟨⟨by decide +kernel, by decide +kernel⟩, List.mem_of_getElem? (i := 983) (by decide +kernel), List.mem_of_getElem? (i := 1508) (by decide +kernel), List.mem_of_getElem? (i := 1509) (by decide +kernel)⟩
theorem lw_p81 : lw_okq (⟨"DividingHeadModel", "marks", "()I"⟩, 43) := ⟨⟨by decide +kernel, by decide +kernel⟩, List.mem_of_getElem? (i := 983) (by decide +kernel), List.mem_of_getElem? (i := 1512) (by decide +kernel), List.mem_of_getElem? (i := 1513) (by decide +kernel)⟩
theorem lw_p82 : lw_okq (⟨"DividingHeadModel", "markUp", "(I)J"⟩, 43) := ⟨⟨by decide +kernel, by decide +kernel⟩, List.mem_of_getElem? (i := 983) (by decide +kernel), List.mem_of_getElem? (i := 1516) (by decide +kernel), List.mem_of_getElem? (i := 1517) (by decide +kernel)⟩
theorem lw_p83 : lw_okq (⟨"DividingHeadModel", "markLow", "(I)J"⟩, 43) := ⟨⟨by decide +kernel, by decide +kernel⟩, List.mem_of_getElem? (i := 983) (by decide +kernel), List.mem_of_getElem? (i := 1520) (by decide +kernel), List.mem_of_getElem? (i := 1521) (by decide +kernel)⟩
theorem lw_p84 : lw_okq (⟨"DividingHeadModel", "wipesOne", "()I"⟩, 43) := ⟨⟨by decide +kernel, by decide +kernel⟩, List.mem_of_getElem? (i := 983) (by decide +kernel), List.mem_of_getElem? (i := 1528) (by decide +kernel), List.mem_of_getElem? (i := 1529) (by decide +kernel)⟩
theorem lw_p85 : lw_okq (⟨"DividingHeadModel", "hasWay", "(II)Z"⟩, 43) := ⟨⟨by decide +kernel, by decide +kernel⟩, List.mem_of_getElem? (i := 983) (by decide +kernel), List.mem_of_getElem? (i := 1537) (by decide +kernel), List.mem_of_getElem? (i := 1538) (by decide +kernel)⟩
theorem lw_p86 : lw_okq (⟨"DividingHeadModel", "stepsBy", "(II)V"⟩, 43) := ⟨⟨by decide +kernel, by decide +kernel⟩, List.mem_of_getElem? (i := 983) (by decide +kernel), List.mem_of_getElem? (i := 1541) (by decide +kernel), List.mem_of_getElem? (i := 1542) (by decide +kernel)⟩
theorem lw_p87 : lw_okq (⟨"DividingHeadModel", "laysGaps", "()I"⟩, 43) := ⟨⟨by decide +kernel, by decide +kernel⟩, List.mem_of_getElem? (i := 983) (by decide +kernel), List.mem_of_getElem? (i := 1545) (by decide +kernel), List.mem_of_getElem? (i := 1546) (by decide +kernel)⟩
theorem lw_p88 : lw_okq (⟨"DividingHeadModel", "laysGap", "(I)V"⟩, 43) := ⟨⟨by decide +kernel, by decide +kernel⟩, List.mem_of_getElem? (i := 983) (by decide +kernel), List.mem_of_getElem? (i := 1549) (by decide +kernel), List.mem_of_getElem? (i := 1550) (by decide +kernel)⟩
theorem lw_p89 : lw_okq (⟨"DividingHeadModel", "readsAct", "(I)Z"⟩, 43) := ⟨⟨by decide +kernel, by decide +kernel⟩, List.mem_of_getElem? (i := 983) (by decide +kernel), List.mem_of_getElem? (i := 1576) (by decide +kernel), List.mem_of_getElem? (i := 1577) (by decide +kernel)⟩
theorem lw_p90 : lw_okq (⟨"DividingHeadModel", "doesAct", "(I)I"⟩, 43) := ⟨⟨by decide +kernel, by decide +kernel⟩, List.mem_of_getElem? (i := 983) (by decide +kernel), List.mem_of_getElem? (i := 1582) (by decide +kernel), List.mem_of_getElem? (i := 1583) (by decide +kernel)⟩
theorem lw_p91 : lw_okq (⟨"DividingHeadModel", "draws", "(I)I"⟩, 43) := ⟨⟨by decide +kernel, by decide +kernel⟩, List.mem_of_getElem? (i := 983) (by decide +kernel), List.mem_of_getElem? (i := 1591) (by decide +kernel), List.mem_of_getElem? (i := 1592) (by decide +kernel)⟩
def lw_privs_6 : List (MethodName × Nat) := [(⟨"DividingHeadModel", "markAt", "(JJ)I"⟩, 43), (⟨"DividingHeadModel", "marks", "()I"⟩, 43), (⟨"DividingHeadModel", "markUp", "(I)J"⟩, 43), (⟨"DividingHeadModel", "markLow", "(I)J"⟩, 43), (⟨"DividingHeadModel", "wipesOne", "()I"⟩, 43), (⟨"DividingHeadModel", "hasWay", "(II)Z"⟩, 43), (⟨"DividingHeadModel", "stepsBy", "(II)V"⟩, 43), (⟨"DividingHeadModel", "laysGaps", "()I"⟩, 43), (⟨"DividingHeadModel", "laysGap", "(I)V"⟩, 43), (⟨"DividingHeadModel", "readsAct", "(I)Z"⟩, 43), (⟨"DividingHeadModel", "doesAct", "(I)I"⟩, 43), (⟨"DividingHeadModel", "draws", "(I)I"⟩, 43)]
theorem lw_r6 : ∀ q ∈ lw_privs_6, lw_okq q := List.forall_mem_cons.mpr ⟨lw_p80, List.forall_mem_cons.mpr ⟨lw_p81, List.forall_mem_cons.mpr ⟨lw_p82, List.forall_mem_cons.mpr ⟨lw_p83, List.forall_mem_cons.mpr ⟨lw_p84, List.forall_mem_cons.mpr ⟨lw_p85, List.forall_mem_cons.mpr ⟨lw_p86, List.forall_mem_cons.mpr ⟨lw_p87, List.forall_mem_cons.mpr ⟨lw_p88, List.forall_mem_cons.mpr ⟨lw_p89, List.forall_mem_cons.mpr ⟨lw_p90, List.forall_mem_cons.mpr ⟨lw_p91, fun _ h => absurd h List.not_mem_nil⟩⟩⟩⟩⟩⟩⟩⟩⟩⟩⟩⟩
def lw_privs : List (MethodName × Nat) := lw_privs_1 ++ (lw_privs_2 ++ (lw_privs_3 ++ (lw_privs_4 ++ (lw_privs_5 ++ (lw_privs_6)))))
def lw_tbl : List Cond := k2_sels lw_privs ++ tables_1
theorem lw_privs_ok : ∀ q ∈ lw_privs, lw_okq q := by
  show ∀ q ∈ lw_privs_1 ++ (lw_privs_2 ++ (lw_privs_3 ++ (lw_privs_4 ++ (lw_privs_5 ++ (lw_privs_6))))), lw_okq q
  exact List.forall_mem_append.mpr ⟨lw_r1, List.forall_mem_append.mpr ⟨lw_r2, List.forall_mem_append.mpr ⟨lw_r3, List.forall_mem_append.mpr ⟨lw_r4, List.forall_mem_append.mpr ⟨lw_r5, lw_r6⟩⟩⟩⟩⟩
def RX0 : String := "DividingHead$CompoundWay"
def TX0 : u_T := fun k => match k with
  | 0 => ("DividingHead$CompoundWay", "sum", "I", false)
  | 1 => ("DividingHead$CompoundWay", "first", "I", false)
  | 2 => ("DividingHead$CompoundWay", "second", "I", false)
  | 3 => ("DividingHead$CompoundWay", "turns", "I", false)
  | 4 => ("DividingHead$CompoundWay", "a", "I", false)
  | _ => ("DividingHead$CompoundWay", "b", "I", false)
def tyX0 : Nat → FieldType := fun k => match k with
  | 0 => .int
  | 1 => .int
  | 2 => .int
  | 3 => .int
  | 4 => .int
  | _ => .int
theorem nmX0 : ∀ a, a < 6 → ∀ b, b < 6 → a ≠ b → (TX0 a).2.1 ≠ (TX0 b).2.1 := by decide +kernel
theorem tyX0_ok : ∀ k, k < 6 → parseFieldDescriptor (TX0 k).2.2.1 = some (tyX0 k) := by decide +kernel
abbrev cX0_init : ByteArray := prog_2_method_1_code
def yX0_init : MethodName := ⟨RX0, "<init>", "()V"⟩
abbrev cX0_look : ByteArray := prog_2_method_2_code
def yX0_look : MethodName := ⟨RX0, "look", "(LDividingHead$Head;I)V"⟩
abbrev cX0_tryPair : ByteArray := prog_2_method_3_code
def yX0_tryPair : MethodName := ⟨RX0, "tryPair", "(LDividingHead$Head;III)V"⟩
abbrev cX0_offer : ByteArray := prog_2_method_4_code
def yX0_offer : MethodName := ⟨RX0, "offer", "(III)Z"⟩
abbrev cX0_take : ByteArray := prog_2_method_5_code
def yX0_take : MethodName := ⟨RX0, "take", "(III)Z"⟩
def RX1 : String := "DividingHead$DifferentialWay"
def TX1 : u_T := fun k => match k with
  | 0 => ("DividingHead$DifferentialWay", "nearWay", "LDividingHead$SimpleWay;", true)
  | 1 => ("DividingHead$DifferentialWay", "number", "I", false)
  | 2 => ("DividingHead$DifferentialWay", "entry", "I", false)
  | _ => ("DividingHead$DifferentialWay", "side", "I", false)
def tyX1 : Nat → FieldType := fun k => match k with
  | 0 => .object "DividingHead$SimpleWay"
  | 1 => .int
  | 2 => .int
  | _ => .int
theorem nmX1 : ∀ a, a < 4 → ∀ b, b < 4 → a ≠ b → (TX1 a).2.1 ≠ (TX1 b).2.1 := by decide +kernel
theorem tyX1_ok : ∀ k, k < 4 → parseFieldDescriptor (TX1 k).2.2.1 = some (tyX1 k) := by decide +kernel
abbrev cX1_init : ByteArray := prog_3_method_1_code
def yX1_init : MethodName := ⟨RX1, "<init>", "()V"⟩
abbrev cX1_look : ByteArray := prog_3_method_2_code
def yX1_look : MethodName := ⟨RX1, "look", "(LDividingHead$Head;LDividingHead$Shelf;I)V"⟩
abbrev cX1_tryNumber : ByteArray := prog_3_method_3_code
def yX1_tryNumber : MethodName := ⟨RX1, "tryNumber", "(LDividingHead$Head;LDividingHead$Shelf;III)V"⟩
def RX2 : String := "DividingHead$Fraction"
def TX2 : u_T := fun k => match k with
  | 0 => ("DividingHead$Fraction", "up", "J", false)
  | _ => ("DividingHead$Fraction", "low", "J", false)
def tyX2 : Nat → FieldType := fun k => match k with
  | 0 => .long
  | _ => .long
theorem nmX2 : ∀ a, a < 2 → ∀ b, b < 2 → a ≠ b → (TX2 a).2.1 ≠ (TX2 b).2.1 := by decide +kernel
theorem tyX2_ok : ∀ k, k < 2 → parseFieldDescriptor (TX2 k).2.2.1 = some (tyX2 k) := by decide +kernel
abbrev cX2_init : ByteArray := prog_4_method_1_code
def yX2_init : MethodName := ⟨RX2, "<init>", "()V"⟩
abbrev cX2_put : ByteArray := prog_4_method_2_code
def yX2_put : MethodName := ⟨RX2, "put", "(JJ)V"⟩
abbrev cX2_copyFrom : ByteArray := prog_4_method_3_code
def yX2_copyFrom : MethodName := ⟨RX2, "copyFrom", "(LDividingHead$Fraction;)V"⟩
def RX3 : String := "DividingHead$GapList"
def TX3 : u_T := fun k => match k with
  | 0 => ("DividingHead$GapList", "kinds", "I", false)
  | 1 => ("DividingHead$GapList", "gap", "LDividingHead$Fraction;", true)
  | 2 => ("DividingHead$GapList", "ups", "[J", true)
  | _ => ("DividingHead$GapList", "lows", "[J", true)
def tyX3 : Nat → FieldType := fun k => match k with
  | 0 => .int
  | 1 => .object "DividingHead$Fraction"
  | 2 => .array .long
  | _ => .array .long
theorem nmX3 : ∀ a, a < 4 → ∀ b, b < 4 → a ≠ b → (TX3 a).2.1 ≠ (TX3 b).2.1 := by decide +kernel
theorem tyX3_ok : ∀ k, k < 4 → parseFieldDescriptor (TX3 k).2.2.1 = some (tyX3 k) := by decide +kernel
abbrev cX3_init : ByteArray := prog_5_method_1_code
def yX3_init : MethodName := ⟨RX3, "<init>", "()V"⟩
abbrev cX3_look : ByteArray := prog_5_method_2_code
def yX3_look : MethodName := ⟨RX3, "look", "(LDividingHead$Head;)V"⟩
abbrev cX3_holdsGap : ByteArray := prog_5_method_3_code
def yX3_holdsGap : MethodName := ⟨RX3, "holdsGap", "()Z"⟩
abbrev cX3_tellExtreme : ByteArray := prog_5_method_4_code
def yX3_tellExtreme : MethodName := ⟨RX3, "tellExtreme", "(LDividingHead$Told;I)V"⟩
def RX4 : String := "DividingHead$Head"
def TX4 : u_T := fun k => match k with
  | 0 => ("DividingHead$Head", "worm", "I", false)
  | 1 => ("DividingHead$Head", "pitch", "I", false)
  | 2 => ("DividingHead$Head", "plateTotal", "I", false)
  | 3 => ("DividingHead$Head", "circleTotal", "I", false)
  | 4 => ("DividingHead$Head", "gearTotal", "I", false)
  | 5 => ("DividingHead$Head", "onCircle", "I", false)
  | 6 => ("DividingHead$Head", "wheelTotal", "I", false)
  | 7 => ("DividingHead$Head", "markTotal", "I", false)
  | 8 => ("DividingHead$Head", "ratio", "LDividingHead$Fraction;", true)
  | 9 => ("DividingHead$Head", "place", "LDividingHead$Fraction;", true)
  | 10 => ("DividingHead$Head", "next", "LDividingHead$Fraction;", true)
  | 11 => ("DividingHead$Head", "holes", "[I", true)
  | 12 => ("DividingHead$Head", "plateNumbers", "[I", true)
  | 13 => ("DividingHead$Head", "teeth", "[I", true)
  | 14 => ("DividingHead$Head", "markUps", "[J", true)
  | 15 => ("DividingHead$Head", "markLows", "[J", true)
  | _ => ("DividingHead$Head", "side", "I", false)
def tyX4 : Nat → FieldType := fun k => match k with
  | 0 => .int
  | 1 => .int
  | 2 => .int
  | 3 => .int
  | 4 => .int
  | 5 => .int
  | 6 => .int
  | 7 => .int
  | 8 => .object "DividingHead$Fraction"
  | 9 => .object "DividingHead$Fraction"
  | 10 => .object "DividingHead$Fraction"
  | 11 => .array .int
  | 12 => .array .int
  | 13 => .array .int
  | 14 => .array .long
  | 15 => .array .long
  | _ => .int
theorem nmX4 : ∀ a, a < 17 → ∀ b, b < 17 → a ≠ b → (TX4 a).2.1 ≠ (TX4 b).2.1 := by decide +kernel
theorem tyX4_ok : ∀ k, k < 17 → parseFieldDescriptor (TX4 k).2.2.1 = some (tyX4 k) := by decide +kernel
abbrev cX4_init : ByteArray := prog_6_method_1_code
def yX4_init : MethodName := ⟨RX4, "<init>", "()V"⟩
abbrev cX4_fillAtFirst : ByteArray := prog_6_method_2_code
def yX4_fillAtFirst : MethodName := ⟨RX4, "fillAtFirst", "()V"⟩
abbrev cX4_copyFrom : ByteArray := prog_6_method_3_code
def yX4_copyFrom : MethodName := ⟨RX4, "copyFrom", "(LDividingHead$Head;)V"⟩
abbrev cX4_dropPlates : ByteArray := prog_6_method_4_code
def yX4_dropPlates : MethodName := ⟨RX4, "dropPlates", "()V"⟩
abbrev cX4_addCircle : ByteArray := prog_6_method_5_code
def yX4_addCircle : MethodName := ⟨RX4, "addCircle", "(I)V"⟩
abbrev cX4_addGear : ByteArray := prog_6_method_6_code
def yX4_addGear : MethodName := ⟨RX4, "addGear", "(I)V"⟩
abbrev cX4_atFirst : ByteArray := prog_6_method_7_code
def yX4_atFirst : MethodName := ⟨RX4, "atFirst", "()V"⟩
abbrev cX4_isCircle : ByteArray := prog_6_method_8_code
def yX4_isCircle : MethodName := ⟨RX4, "isCircle", "(I)Z"⟩
abbrev cX4_isGear : ByteArray := prog_6_method_9_code
def yX4_isGear : MethodName := ⟨RX4, "isGear", "(I)Z"⟩
abbrev cX4_isMark : ByteArray := prog_6_method_10_code
def yX4_isMark : MethodName := ⟨RX4, "isMark", "(I)Z"⟩
abbrev cX4_holesOf : ByteArray := prog_6_method_11_code
def yX4_holesOf : MethodName := ⟨RX4, "holesOf", "(I)I"⟩
abbrev cX4_plateOf : ByteArray := prog_6_method_12_code
def yX4_plateOf : MethodName := ⟨RX4, "plateOf", "(I)I"⟩
abbrev cX4_teethOf : ByteArray := prog_6_method_13_code
def yX4_teethOf : MethodName := ⟨RX4, "teethOf", "(I)I"⟩
abbrev cX4_markUp : ByteArray := prog_6_method_14_code
def yX4_markUp : MethodName := ⟨RX4, "markUp", "(I)J"⟩
abbrev cX4_markLow : ByteArray := prog_6_method_15_code
def yX4_markLow : MethodName := ⟨RX4, "markLow", "(I)J"⟩
abbrev cX4_setTo : ByteArray := prog_6_method_16_code
def yX4_setTo : MethodName := ⟨RX4, "setTo", "(II)I"⟩
abbrev cX4_choose : ByteArray := prog_6_method_17_code
def yX4_choose : MethodName := ⟨RX4, "choose", "(I)I"⟩
abbrev cX4_putIn : ByteArray := prog_6_method_18_code
def yX4_putIn : MethodName := ⟨RX4, "putIn", "(IIIII)I"⟩
abbrev cX4_isPair : ByteArray := prog_6_method_19_code
def yX4_isPair : MethodName := ⟨RX4, "isPair", "(II)Z"⟩
abbrev cX4_takeOut : ByteArray := prog_6_method_20_code
def yX4_takeOut : MethodName := ⟨RX4, "takeOut", "()I"⟩
abbrev cX4_wind : ByteArray := prog_6_method_21_code
def yX4_wind : MethodName := ⟨RX4, "wind", "(III)I"⟩
abbrev cX4_stepOfHole : ByteArray := prog_6_method_22_code
def yX4_stepOfHole : MethodName := ⟨RX4, "stepOfHole", "(LDividingHead$Fraction;)V"⟩
abbrev cX4_scribe : ByteArray := prog_6_method_23_code
def yX4_scribe : MethodName := ⟨RX4, "scribe", "()I"⟩
abbrev cX4_compareMark : ByteArray := prog_6_method_24_code
def yX4_compareMark : MethodName := ⟨RX4, "compareMark", "(I)I"⟩
abbrev cX4_wipeAll : ByteArray := prog_6_method_25_code
def yX4_wipeAll : MethodName := ⟨RX4, "wipeAll", "()I"⟩
abbrev cX4_gapBehind : ByteArray := prog_6_method_26_code
def yX4_gapBehind : MethodName := ⟨RX4, "gapBehind", "(ILDividingHead$Fraction;)V"⟩
abbrev cX4_wayToMark : ByteArray := prog_6_method_27_code
def yX4_wayToMark : MethodName := ⟨RX4, "wayToMark", "(ILDividingHead$Fraction;)V"⟩
def RX5 : String := "DividingHead$Shelf"
def TX5 : u_T := fun k => match k with
  | 0 => ("DividingHead$Shelf", "size", "I", false)
  | 1 => ("DividingHead$Shelf", "gearTotal", "I", false)
  | 2 => ("DividingHead$Shelf", "teeth", "[I", true)
  | 3 => ("DividingHead$Shelf", "ups", "[I", true)
  | 4 => ("DividingHead$Shelf", "lows", "[I", true)
  | 5 => ("DividingHead$Shelf", "wheels", "[I", true)
  | _ => ("DividingHead$Shelf", "slots", "[I", true)
def tyX5 : Nat → FieldType := fun k => match k with
  | 0 => .int
  | 1 => .int
  | 2 => .array .int
  | 3 => .array .int
  | 4 => .array .int
  | 5 => .array .int
  | _ => .array .int
theorem nmX5 : ∀ a, a < 7 → ∀ b, b < 7 → a ≠ b → (TX5 a).2.1 ≠ (TX5 b).2.1 := by decide +kernel
theorem tyX5_ok : ∀ k, k < 7 → parseFieldDescriptor (TX5 k).2.2.1 = some (tyX5 k) := by decide +kernel
abbrev cX5_init : ByteArray := prog_7_method_1_code
def yX5_init : MethodName := ⟨RX5, "<init>", "()V"⟩
abbrev cX5_fit : ByteArray := prog_7_method_2_code
def yX5_fit : MethodName := ⟨RX5, "fit", "(LDividingHead$Head;)V"⟩
abbrev cX5_tooth : ByteArray := prog_7_method_3_code
def yX5_tooth : MethodName := ⟨RX5, "tooth", "(I)I"⟩
abbrev cX5_addTwos : ByteArray := prog_7_method_4_code
def yX5_addTwos : MethodName := ⟨RX5, "addTwos", "()V"⟩
abbrev cX5_addFours : ByteArray := prog_7_method_5_code
def yX5_addFours : MethodName := ⟨RX5, "addFours", "()V"⟩
abbrev cX5_pack : ByteArray := prog_7_method_6_code
def yX5_pack : MethodName := ⟨RX5, "pack", "(IIII)I"⟩
abbrev cX5_add : ByteArray := prog_7_method_7_code
def yX5_add : MethodName := ⟨RX5, "add", "(III)V"⟩
abbrev cX5_slotOf : ByteArray := prog_7_method_8_code
def yX5_slotOf : MethodName := ⟨RX5, "slotOf", "(II)I"⟩
abbrev cX5_find : ByteArray := prog_7_method_9_code
def yX5_find : MethodName := ⟨RX5, "find", "(JJ)I"⟩
abbrev cX5_up : ByteArray := prog_7_method_10_code
def yX5_up : MethodName := ⟨RX5, "up", "(I)I"⟩
abbrev cX5_low : ByteArray := prog_7_method_11_code
def yX5_low : MethodName := ⟨RX5, "low", "(I)I"⟩
abbrev cX5_wheel : ByteArray := prog_7_method_12_code
def yX5_wheel : MethodName := ⟨RX5, "wheel", "(II)I"⟩
abbrev cX5_wheelTotal : ByteArray := prog_7_method_13_code
def yX5_wheelTotal : MethodName := ⟨RX5, "wheelTotal", "(I)I"⟩
abbrev cX5_upper : ByteArray := prog_7_method_14_code
def yX5_upper : MethodName := ⟨RX5, "upper", "(JI)J"⟩
abbrev cX5_lower : ByteArray := prog_7_method_15_code
def yX5_lower : MethodName := ⟨RX5, "lower", "(JI)J"⟩
abbrev cX5_closest : ByteArray := prog_7_method_16_code
def yX5_closest : MethodName := ⟨RX5, "closest", "(JJJ)I"⟩
abbrev cX5_extreme : ByteArray := prog_7_method_17_code
def yX5_extreme : MethodName := ⟨RX5, "extreme", "(I)I"⟩
def RX6 : String := "DividingHead$SimpleWay"
def TX6 : u_T := fun k => match k with
  | 0 => ("DividingHead$SimpleWay", "many", "I", false)
  | 1 => ("DividingHead$SimpleWay", "first", "I", false)
  | 2 => ("DividingHead$SimpleWay", "turns", "I", false)
  | _ => ("DividingHead$SimpleWay", "holes", "I", false)
def tyX6 : Nat → FieldType := fun k => match k with
  | 0 => .int
  | 1 => .int
  | 2 => .int
  | _ => .int
theorem nmX6 : ∀ a, a < 4 → ∀ b, b < 4 → a ≠ b → (TX6 a).2.1 ≠ (TX6 b).2.1 := by decide +kernel
theorem tyX6_ok : ∀ k, k < 4 → parseFieldDescriptor (TX6 k).2.2.1 = some (tyX6 k) := by decide +kernel
abbrev cX6_init : ByteArray := prog_8_method_1_code
def yX6_init : MethodName := ⟨RX6, "<init>", "()V"⟩
abbrev cX6_look : ByteArray := prog_8_method_2_code
def yX6_look : MethodName := ⟨RX6, "look", "(LDividingHead$Head;I)V"⟩
def RX7 : String := "DividingHead$Text"
def TX7 : u_T := fun k => match k with
  | 0 => ("DividingHead$Text", "signs", "[C", true)
  | _ => ("DividingHead$Text", "size", "I", false)
def tyX7 : Nat → FieldType := fun k => match k with
  | 0 => .array .char
  | _ => .int
theorem nmX7 : ∀ a, a < 2 → ∀ b, b < 2 → a ≠ b → (TX7 a).2.1 ≠ (TX7 b).2.1 := by decide +kernel
theorem tyX7_ok : ∀ k, k < 2 → parseFieldDescriptor (TX7 k).2.2.1 = some (tyX7 k) := by decide +kernel
abbrev cX7_init : ByteArray := prog_9_method_1_code
def yX7_init : MethodName := ⟨RX7, "<init>", "()V"⟩
abbrev cX7_addFour : ByteArray := prog_9_method_2_code
def yX7_addFour : MethodName := ⟨RX7, "addFour", "(I)Z"⟩
abbrev cX7_at : ByteArray := prog_9_method_3_code
def yX7_at : MethodName := ⟨RX7, "at", "(I)I"⟩
abbrev cX7_isDigit : ByteArray := prog_9_method_4_code
def yX7_isDigit : MethodName := ⟨RX7, "isDigit", "(I)Z"⟩
abbrev cX7_firstNoDigit : ByteArray := prog_9_method_5_code
def yX7_firstNoDigit : MethodName := ⟨RX7, "firstNoDigit", "(II)I"⟩
abbrev cX7_number : ByteArray := prog_9_method_6_code
def yX7_number : MethodName := ⟨RX7, "number", "(II)I"⟩
def RX8 : String := "DividingHead$Told"
def TX8 : u_T := fun k => match k with
  | 0 => ("DividingHead$Told", "numbers", "[J", true)
  | _ => ("DividingHead$Told", "size", "I", false)
def tyX8 : Nat → FieldType := fun k => match k with
  | 0 => .array .long
  | _ => .int
theorem nmX8 : ∀ a, a < 2 → ∀ b, b < 2 → a ≠ b → (TX8 a).2.1 ≠ (TX8 b).2.1 := by decide +kernel
theorem tyX8_ok : ∀ k, k < 2 → parseFieldDescriptor (TX8 k).2.2.1 = some (tyX8 k) := by decide +kernel
abbrev cX8_init : ByteArray := prog_10_method_1_code
def yX8_init : MethodName := ⟨RX8, "<init>", "()V"⟩
abbrev cX8_clear : ByteArray := prog_10_method_2_code
def yX8_clear : MethodName := ⟨RX8, "clear", "()V"⟩
abbrev cX8_add : ByteArray := prog_10_method_3_code
def yX8_add : MethodName := ⟨RX8, "add", "(J)V"⟩
abbrev cX8_addFraction : ByteArray := prog_10_method_4_code
def yX8_addFraction : MethodName := ⟨RX8, "addFraction", "(LDividingHead$Fraction;)V"⟩
abbrev cX8_number : ByteArray := prog_10_method_5_code
def yX8_number : MethodName := ⟨RX8, "number", "(I)J"⟩
def RX9 : String := "DividingHead"
def TX9 : u_T := fun k => match k with
  | 0 => ("DividingHead", "text", "LDividingHead$Text;", true)
  | 1 => ("DividingHead", "told", "LDividingHead$Told;", true)
  | 2 => ("DividingHead", "simpleWay", "LDividingHead$SimpleWay;", true)
  | 3 => ("DividingHead", "compoundWay", "LDividingHead$CompoundWay;", true)
  | 4 => ("DividingHead", "differentialWay", "LDividingHead$DifferentialWay;", true)
  | 5 => ("DividingHead", "gapList", "LDividingHead$GapList;", true)
  | 6 => ("DividingHead", "found", "LDividingHead$Fraction;", true)
  | 7 => ("DividingHead", "off", "LDividingHead$Fraction;", true)
  | 8 => ("DividingHead", "past", "[LDividingHead$Head;", true)
  | 9 => ("DividingHead", "kept", "[LDividingHead$Head;", true)
  | 10 => ("DividingHead", "pastTotal", "I", false)
  | 11 => ("DividingHead", "drawn", "I", false)
  | 12 => ("DividingHead", "now", "LDividingHead$Head;", false)
  | 13 => ("DividingHead", "trial", "LDividingHead$Head;", false)
  | _ => ("DividingHead", "shelf", "LDividingHead$Shelf;", false)
def tyX9 : Nat → FieldType := fun k => match k with
  | 0 => .object "DividingHead$Text"
  | 1 => .object "DividingHead$Told"
  | 2 => .object "DividingHead$SimpleWay"
  | 3 => .object "DividingHead$CompoundWay"
  | 4 => .object "DividingHead$DifferentialWay"
  | 5 => .object "DividingHead$GapList"
  | 6 => .object "DividingHead$Fraction"
  | 7 => .object "DividingHead$Fraction"
  | 8 => .array (.object "DividingHead$Head")
  | 9 => .array (.object "DividingHead$Head")
  | 10 => .int
  | 11 => .int
  | 12 => .object "DividingHead$Head"
  | 13 => .object "DividingHead$Head"
  | _ => .object "DividingHead$Shelf"
theorem nmX9 : ∀ a, a < 15 → ∀ b, b < 15 → a ≠ b → (TX9 a).2.1 ≠ (TX9 b).2.1 := by decide +kernel
theorem tyX9_ok : ∀ k, k < 15 → parseFieldDescriptor (TX9 k).2.2.1 = some (tyX9 k) := by decide +kernel
abbrev cX9_init : ByteArray := prog_1_method_1_code
def yX9_init : MethodName := ⟨RX9, "<init>", "()V"⟩
abbrev cX9_sign : ByteArray := prog_1_method_2_code
def yX9_sign : MethodName := ⟨RX9, "sign", "(I)I"⟩
abbrev cX9_end : ByteArray := prog_1_method_3_code
def yX9_end : MethodName := ⟨RX9, "end", "(I)Z"⟩
abbrev cX9_plates : ByteArray := prog_1_method_4_code
def yX9_plates : MethodName := ⟨RX9, "plates", "()I"⟩
abbrev cX9_gears : ByteArray := prog_1_method_5_code
def yX9_gears : MethodName := ⟨RX9, "gears", "()I"⟩
abbrev cX9_readPlates : ByteArray := prog_1_method_6_code
def yX9_readPlates : MethodName := ⟨RX9, "readPlates", "()I"⟩
abbrev cX9_readGears : ByteArray := prog_1_method_7_code
def yX9_readGears : MethodName := ⟨RX9, "readGears", "()I"⟩
abbrev cX9_sets : ByteArray := prog_1_method_8_code
def yX9_sets : MethodName := ⟨RX9, "sets", "(II)I"⟩
abbrev cX9_circle : ByteArray := prog_1_method_9_code
def yX9_circle : MethodName := ⟨RX9, "circle", "(I)I"⟩
abbrev cX9_gear : ByteArray := prog_1_method_10_code
def yX9_gear : MethodName := ⟨RX9, "gear", "(I)I"⟩
abbrev cX9_simple : ByteArray := prog_1_method_11_code
def yX9_simple : MethodName := ⟨RX9, "simple", "(I)I"⟩
abbrev cX9_compound : ByteArray := prog_1_method_12_code
def yX9_compound : MethodName := ⟨RX9, "compound", "(I)I"⟩
abbrev cX9_differential : ByteArray := prog_1_method_13_code
def yX9_differential : MethodName := ⟨RX9, "differential", "(I)I"⟩
abbrev cX9_ways : ByteArray := prog_1_method_14_code
def yX9_ways : MethodName := ⟨RX9, "ways", "(I)I"⟩
abbrev cX9_hard : ByteArray := prog_1_method_15_code
def yX9_hard : MethodName := ⟨RX9, "hard", "(II)I"⟩
abbrev cX9_isParts : ByteArray := prog_1_method_16_code
def yX9_isParts : MethodName := ⟨RX9, "isParts", "(I)Z"⟩
abbrev cX9_hasWay : ByteArray := prog_1_method_17_code
def yX9_hasWay : MethodName := ⟨RX9, "hasWay", "(II)Z"⟩
abbrev cX9_fittedShelf : ByteArray := prog_1_method_18_code
def yX9_fittedShelf : MethodName := ⟨RX9, "fittedShelf", "()LDividingHead$Shelf;"⟩
abbrev cX9_train : ByteArray := prog_1_method_19_code
def yX9_train : MethodName := ⟨RX9, "train", "(II)I"⟩
abbrev cX9_nearest : ByteArray := prog_1_method_20_code
def yX9_nearest : MethodName := ⟨RX9, "nearest", "(II)I"⟩
abbrev cX9_ratios : ByteArray := prog_1_method_21_code
def yX9_ratios : MethodName := ⟨RX9, "ratios", "()I"⟩
abbrev cX9_lead : ByteArray := prog_1_method_22_code
def yX9_lead : MethodName := ⟨RX9, "lead", "(I)I"⟩
abbrev cX9_tellClosest : ByteArray := prog_1_method_23_code
def yX9_tellClosest : MethodName := ⟨RX9, "tellClosest", "(JJJ)I"⟩
abbrev cX9_tellWheels : ByteArray := prog_1_method_24_code
def yX9_tellWheels : MethodName := ⟨RX9, "tellWheels", "(LDividingHead$Shelf;I)I"⟩
abbrev cX9_near : ByteArray := prog_1_method_25_code
def yX9_near : MethodName := ⟨RX9, "near", "(III)I"⟩
abbrev cX9_findNear : ByteArray := prog_1_method_26_code
def yX9_findNear : MethodName := ⟨RX9, "findNear", "(JJI)V"⟩
abbrev cX9_treeSteps : ByteArray := prog_1_method_27_code
def yX9_treeSteps : MethodName := ⟨RX9, "treeSteps", "(JJ)I"⟩
abbrev cX9_tree : ByteArray := prog_1_method_28_code
def yX9_tree : MethodName := ⟨RX9, "tree", "(II)I"⟩
abbrev cX9_angle : ByteArray := prog_1_method_29_code
def yX9_angle : MethodName := ⟨RX9, "angle", "(I)I"⟩
abbrev cX9_tellAngle : ByteArray := prog_1_method_30_code
def yX9_tellAngle : MethodName := ⟨RX9, "tellAngle", "(IJ)V"⟩
abbrev cX9_uses : ByteArray := prog_1_method_31_code
def yX9_uses : MethodName := ⟨RX9, "uses", "(I)I"⟩
abbrev cX9_geared : ByteArray := prog_1_method_32_code
def yX9_geared : MethodName := ⟨RX9, "geared", "(IIIII)I"⟩
abbrev cX9_ungeared : ByteArray := prog_1_method_33_code
def yX9_ungeared : MethodName := ⟨RX9, "ungeared", "()I"⟩
abbrev cX9_cranks : ByteArray := prog_1_method_34_code
def yX9_cranks : MethodName := ⟨RX9, "cranks", "(III)I"⟩
abbrev cX9_cuts : ByteArray := prog_1_method_35_code
def yX9_cuts : MethodName := ⟨RX9, "cuts", "()I"⟩
abbrev cX9_wipes : ByteArray := prog_1_method_36_code
def yX9_wipes : MethodName := ⟨RX9, "wipes", "()I"⟩
abbrev cX9_divides : ByteArray := prog_1_method_37_code
def yX9_divides : MethodName := ⟨RX9, "divides", "(II)I"⟩
abbrev cX9_putInDifferential : ByteArray := prog_1_method_38_code
def yX9_putInDifferential : MethodName := ⟨RX9, "putInDifferential", "()V"⟩
abbrev cX9_windWay : ByteArray := prog_1_method_39_code
def yX9_windWay : MethodName := ⟨RX9, "windWay", "(I)V"⟩
abbrev cX9_mark : ByteArray := prog_1_method_40_code
def yX9_mark : MethodName := ⟨RX9, "mark", "(I)I"⟩
abbrev cX9_gaps : ByteArray := prog_1_method_41_code
def yX9_gaps : MethodName := ⟨RX9, "gaps", "()I"⟩
abbrev cX9_missing : ByteArray := prog_1_method_42_code
def yX9_missing : MethodName := ⟨RX9, "missing", "(I)I"⟩
abbrev cX9_reaches : ByteArray := prog_1_method_43_code
def yX9_reaches : MethodName := ⟨RX9, "reaches", "()I"⟩
abbrev cX9_day : ByteArray := prog_1_method_44_code
def yX9_day : MethodName := ⟨RX9, "day", "()I"⟩
abbrev cX9_firstWrongOfDay : ByteArray := prog_1_method_45_code
def yX9_firstWrongOfDay : MethodName := ⟨RX9, "firstWrongOfDay", "()I"⟩
abbrev cX9_lengthOfAct : ByteArray := prog_1_method_46_code
def yX9_lengthOfAct : MethodName := ⟨RX9, "lengthOfAct", "(I)I"⟩
abbrev cX9_doAct : ByteArray := prog_1_method_47_code
def yX9_doAct : MethodName := ⟨RX9, "doAct", "(I)I"⟩
abbrev cX9_undo : ByteArray := prog_1_method_48_code
def yX9_undo : MethodName := ⟨RX9, "undo", "()I"⟩
abbrev cX9_adopt : ByteArray := prog_1_method_49_code
def yX9_adopt : MethodName := ⟨RX9, "adopt", "(I)I"⟩
abbrev cX9_years : ByteArray := prog_1_method_50_code
def yX9_years : MethodName := ⟨RX9, "years", "(II)I"⟩
abbrev cX9_draw : ByteArray := prog_1_method_51_code
def yX9_draw : MethodName := ⟨RX9, "draw", "(I)I"⟩
abbrev cX9_keep : ByteArray := prog_1_method_52_code
def yX9_keep : MethodName := ⟨RX9, "keep", "(I)Z"⟩
abbrev cX9_again : ByteArray := prog_1_method_53_code
def yX9_again : MethodName := ⟨RX9, "again", "(I)Z"⟩
abbrev cX9_count : ByteArray := prog_1_method_54_code
def yX9_count : MethodName := ⟨RX9, "count", "(I)I"⟩
abbrev cX9_row : ByteArray := prog_1_method_55_code
def yX9_row : MethodName := ⟨RX9, "row", "(I)J"⟩
abbrev cX9_isBetween : ByteArray := prog_1_method_56_code
def yX9_isBetween : MethodName := ⟨RX9, "isBetween", "(III)Z"⟩
abbrev cX9_common : ByteArray := prog_1_method_57_code
def yX9_common : MethodName := ⟨RX9, "common", "(JJ)J"⟩
abbrev cX9_compareFractions : ByteArray := prog_1_method_58_code
def yX9_compareFractions : MethodName := ⟨RX9, "compareFractions", "(JJJJ)I"⟩
abbrev cX9_inverse : ByteArray := prog_1_method_59_code
def yX9_inverse : MethodName := ⟨RX9, "inverse", "(JJ)J"⟩
def RX10 : String := "DividingHeadModel"
def TX10 : u_T := fun k => match k with
  | 0 => ("DividingHeadModel", "thrown", "I", false)
  | 1 => ("DividingHeadModel", "told", "I", false)
  | 2 => ("DividingHeadModel", "row", "[J", true)
  | 3 => ("DividingHeadModel", "tape", "[I", true)
  | 4 => ("DividingHeadModel", "taped", "I", false)
  | 5 => ("DividingHeadModel", "at", "I", false)
  | 6 => ("DividingHeadModel", "to", "I", false)
  | 7 => ("DividingHeadModel", "mem", "[I", true)
  | 8 => ("DividingHeadModel", "part", "[J", true)
  | 9 => ("DividingHeadModel", "undos", "I", false)
  | 10 => ("DividingHeadModel", "firstHoles", "[I", true)
  | 11 => ("DividingHeadModel", "firstTeeth", "[I", true)
  | 12 => ("DividingHeadModel", "one", "I", false)
  | 13 => ("DividingHeadModel", "other", "I", false)
  | 14 => ("DividingHeadModel", "fullTurns", "I", false)
  | 15 => ("DividingHeadModel", "oneHoles", "I", false)
  | 16 => ("DividingHeadModel", "otherHoles", "I", false)
  | 17 => ("DividingHeadModel", "gear", "[I", true)
  | 18 => ("DividingHeadModel", "geared", "I", false)
  | 19 => ("DividingHeadModel", "found", "[I", true)
  | 20 => ("DividingHeadModel", "foundMany", "I", false)
  | 21 => ("DividingHeadModel", "nearParts", "I", false)
  | 22 => ("DividingHeadModel", "side", "I", false)
  | 23 => ("DividingHeadModel", "nearUpper", "J", false)
  | 24 => ("DividingHeadModel", "nearLower", "J", false)
  | 25 => ("DividingHeadModel", "offUpper", "J", false)
  | 26 => ("DividingHeadModel", "offLower", "J", false)
  | 27 => ("DividingHeadModel", "ratio", "[J", true)
  | 28 => ("DividingHeadModel", "ratios", "I", false)
  | 29 => ("DividingHeadModel", "stepUpper", "J", false)
  | 30 => ("DividingHeadModel", "stepLower", "J", false)
  | 31 => ("DividingHeadModel", "nextUpper", "J", false)
  | 32 => ("DividingHeadModel", "nextLower", "J", false)
  | 33 => ("DividingHeadModel", "gapUp", "J", false)
  | 34 => ("DividingHeadModel", "gapLow", "J", false)
  | 35 => ("DividingHeadModel", "gap", "[J", true)
  | 36 => ("DividingHeadModel", "aim", "[J", true)
  | 37 => ("DividingHeadModel", "act", "[I", true)
  | 38 => ("DividingHeadModel", "first", "[I", true)
  | 39 => ("DividingHeadModel", "second", "[I", true)
  | 40 => ("DividingHeadModel", "third", "[I", true)
  | 41 => ("DividingHeadModel", "random", "I", false)
  | _ => ("DividingHeadModel", "isKept", "[Z", true)
def tyX10 : Nat → FieldType := fun k => match k with
  | 0 => .int
  | 1 => .int
  | 2 => .array .long
  | 3 => .array .int
  | 4 => .int
  | 5 => .int
  | 6 => .int
  | 7 => .array .int
  | 8 => .array .long
  | 9 => .int
  | 10 => .array .int
  | 11 => .array .int
  | 12 => .int
  | 13 => .int
  | 14 => .int
  | 15 => .int
  | 16 => .int
  | 17 => .array .int
  | 18 => .int
  | 19 => .array .int
  | 20 => .int
  | 21 => .int
  | 22 => .int
  | 23 => .long
  | 24 => .long
  | 25 => .long
  | 26 => .long
  | 27 => .array .long
  | 28 => .int
  | 29 => .long
  | 30 => .long
  | 31 => .long
  | 32 => .long
  | 33 => .long
  | 34 => .long
  | 35 => .array .long
  | 36 => .array .long
  | 37 => .array .int
  | 38 => .array .int
  | 39 => .array .int
  | 40 => .array .int
  | 41 => .int
  | _ => .array .boolean
theorem nmX10 : ∀ a, a < 43 → ∀ b, b < 43 → a ≠ b → (TX10 a).2.1 ≠ (TX10 b).2.1 := by decide +kernel
theorem tyX10_ok : ∀ k, k < 43 → parseFieldDescriptor (TX10 k).2.2.1 = some (tyX10 k) := by decide +kernel
abbrev cX10_thrown : ByteArray := prog_12_method_1_code
def yX10_thrown : MethodName := ⟨RX10, "thrown", "()I"⟩
abbrev cX10_in : ByteArray := prog_12_method_2_code
def yX10_in : MethodName := ⟨RX10, "in", "(JJJ)Z"⟩
abbrev cX10_flag : ByteArray := prog_12_method_3_code
def yX10_flag : MethodName := ⟨RX10, "flag", "(Z)I"⟩
abbrev cX10_common : ByteArray := prog_12_method_4_code
def yX10_common : MethodName := ⟨RX10, "common", "(JJ)J"⟩
abbrev cX10_enters : ByteArray := prog_12_method_5_code
def yX10_enters : MethodName := ⟨RX10, "enters", "(J)V"⟩
abbrev cX10_entersPart : ByteArray := prog_12_method_6_code
def yX10_entersPart : MethodName := ⟨RX10, "entersPart", "(JJ)V"⟩
abbrev cX10_sign : ByteArray := prog_12_method_7_code
def yX10_sign : MethodName := ⟨RX10, "sign", "(I)I"⟩
abbrev cX10_end : ByteArray := prog_12_method_8_code
def yX10_end : MethodName := ⟨RX10, "end", "(I)Z"⟩
abbrev cX10_reads : ByteArray := prog_12_method_9_code
def yX10_reads : MethodName := ⟨RX10, "reads", "()V"⟩
abbrev cX10_takes : ByteArray := prog_12_method_10_code
def yX10_takes : MethodName := ⟨RX10, "takes", "(C)Z"⟩
abbrev cX10_takesOf : ByteArray := prog_12_method_11_code
def yX10_takesOf : MethodName := ⟨RX10, "takesOf", "(Ljava/lang/String;)I"⟩
abbrev cX10_digit : ByteArray := prog_12_method_12_code
def yX10_digit : MethodName := ⟨RX10, "digit", "()I"⟩
abbrev cX10_two : ByteArray := prog_12_method_13_code
def yX10_two : MethodName := ⟨RX10, "two", "()I"⟩
abbrev cX10_init : ByteArray := prog_12_method_14_code
def yX10_init : MethodName := ⟨RX10, "<init>", "()V"⟩
abbrev cX10_begins : ByteArray := prog_12_method_15_code
def yX10_begins : MethodName := ⟨RX10, "begins", "(I)V"⟩
abbrev cX10_copies : ByteArray := prog_12_method_16_code
def yX10_copies : MethodName := ⟨RX10, "copies", "(II)V"⟩
abbrev cX10_done : ByteArray := prog_12_method_17_code
def yX10_done : MethodName := ⟨RX10, "done", "(I)I"⟩
abbrev cX10_undo : ByteArray := prog_12_method_18_code
def yX10_undo : MethodName := ⟨RX10, "undo", "()I"⟩
abbrev cX10_worm : ByteArray := prog_12_method_19_code
def yX10_worm : MethodName := ⟨RX10, "worm", "()I"⟩
abbrev cX10_circles : ByteArray := prog_12_method_20_code
def yX10_circles : MethodName := ⟨RX10, "circles", "()I"⟩
abbrev cX10_holes : ByteArray := prog_12_method_21_code
def yX10_holes : MethodName := ⟨RX10, "holes", "(I)I"⟩
abbrev cX10_gearMany : ByteArray := prog_12_method_22_code
def yX10_gearMany : MethodName := ⟨RX10, "gearMany", "()I"⟩
abbrev cX10_teeth : ByteArray := prog_12_method_23_code
def yX10_teeth : MethodName := ⟨RX10, "teeth", "(I)I"⟩
abbrev cX10_readsPlate : ByteArray := prog_12_method_24_code
def yX10_readsPlate : MethodName := ⟨RX10, "readsPlate", "(I)Z"⟩
abbrev cX10_plates : ByteArray := prog_12_method_25_code
def yX10_plates : MethodName := ⟨RX10, "plates", "()I"⟩
abbrev cX10_circlesOf : ByteArray := prog_12_method_26_code
def yX10_circlesOf : MethodName := ⟨RX10, "circlesOf", "(I)I"⟩
abbrev cX10_putsRead : ByteArray := prog_12_method_27_code
def yX10_putsRead : MethodName := ⟨RX10, "putsRead", "(I)I"⟩
abbrev cX10_gears : ByteArray := prog_12_method_28_code
def yX10_gears : MethodName := ⟨RX10, "gears", "()I"⟩
abbrev cX10_sets : ByteArray := prog_12_method_29_code
def yX10_sets : MethodName := ⟨RX10, "sets", "(II)I"⟩
abbrev cX10_circle : ByteArray := prog_12_method_30_code
def yX10_circle : MethodName := ⟨RX10, "circle", "(I)I"⟩
abbrev cX10_gear : ByteArray := prog_12_method_31_code
def yX10_gear : MethodName := ⟨RX10, "gear", "(I)I"⟩
abbrev cX10_hasSimple : ByteArray := prog_12_method_32_code
def yX10_hasSimple : MethodName := ⟨RX10, "hasSimple", "(II)Z"⟩
abbrev cX10_firstSimple : ByteArray := prog_12_method_33_code
def yX10_firstSimple : MethodName := ⟨RX10, "firstSimple", "(I)I"⟩
abbrev cX10_isNumber : ByteArray := prog_12_method_34_code
def yX10_isNumber : MethodName := ⟨RX10, "isNumber", "(I)Z"⟩
abbrev cX10_allHoles : ByteArray := prog_12_method_35_code
def yX10_allHoles : MethodName := ⟨RX10, "allHoles", "(II)I"⟩
abbrev cX10_simple : ByteArray := prog_12_method_36_code
def yX10_simple : MethodName := ⟨RX10, "simple", "(I)I"⟩
abbrev cX10_size : ByteArray := prog_12_method_37_code
def yX10_size : MethodName := ⟨RX10, "size", "(I)I"⟩
abbrev cX10_looksAt : ByteArray := prog_12_method_38_code
def yX10_looksAt : MethodName := ⟨RX10, "looksAt", "(IIII)I"⟩
abbrev cX10_findsCompound : ByteArray := prog_12_method_39_code
def yX10_findsCompound : MethodName := ⟨RX10, "findsCompound", "(I)I"⟩
abbrev cX10_compound : ByteArray := prog_12_method_40_code
def yX10_compound : MethodName := ⟨RX10, "compound", "(I)I"⟩
abbrev cX10_isUnlike : ByteArray := prog_12_method_41_code
def yX10_isUnlike : MethodName := ⟨RX10, "isUnlike", "(I)Z"⟩
abbrev cX10_goesOn : ByteArray := prog_12_method_42_code
def yX10_goesOn : MethodName := ⟨RX10, "goesOn", "(I)Z"⟩
abbrev cX10_startsTrains : ByteArray := prog_12_method_43_code
def yX10_startsTrains : MethodName := ⟨RX10, "startsTrains", "(I)V"⟩
abbrev cX10_nextTrain : ByteArray := prog_12_method_44_code
def yX10_nextTrain : MethodName := ⟨RX10, "nextTrain", "()Z"⟩
abbrev cX10_beginsFour : ByteArray := prog_12_method_45_code
def yX10_beginsFour : MethodName := ⟨RX10, "beginsFour", "()Z"⟩
abbrev cX10_upper : ByteArray := prog_12_method_46_code
def yX10_upper : MethodName := ⟨RX10, "upper", "()J"⟩
abbrev cX10_lower : ByteArray := prog_12_method_47_code
def yX10_lower : MethodName := ⟨RX10, "lower", "()J"⟩
abbrev cX10_finds : ByteArray := prog_12_method_48_code
def yX10_finds : MethodName := ⟨RX10, "finds", "()V"⟩
abbrev cX10_findsTrain : ByteArray := prog_12_method_49_code
def yX10_findsTrain : MethodName := ⟨RX10, "findsTrain", "(JJ)Z"⟩
abbrev cX10_isDifferential : ByteArray := prog_12_method_50_code
def yX10_isDifferential : MethodName := ⟨RX10, "isDifferential", "(II)Z"⟩
abbrev cX10_findsDifferential : ByteArray := prog_12_method_51_code
def yX10_findsDifferential : MethodName := ⟨RX10, "findsDifferential", "(I)Z"⟩
abbrev cX10_differential : ByteArray := prog_12_method_52_code
def yX10_differential : MethodName := ⟨RX10, "differential", "(I)I"⟩
abbrev cX10_waysOf : ByteArray := prog_12_method_53_code
def yX10_waysOf : MethodName := ⟨RX10, "waysOf", "(I)I"⟩
abbrev cX10_ways : ByteArray := prog_12_method_54_code
def yX10_ways : MethodName := ⟨RX10, "ways", "(I)I"⟩
abbrev cX10_hard : ByteArray := prog_12_method_55_code
def yX10_hard : MethodName := ⟨RX10, "hard", "(II)I"⟩
abbrev cX10_isRatio : ByteArray := prog_12_method_56_code
def yX10_isRatio : MethodName := ⟨RX10, "isRatio", "(II)Z"⟩
abbrev cX10_entersFound : ByteArray := prog_12_method_57_code
def yX10_entersFound : MethodName := ⟨RX10, "entersFound", "()V"⟩
abbrev cX10_train : ByteArray := prog_12_method_58_code
def yX10_train : MethodName := ⟨RX10, "train", "(II)I"⟩
abbrev cX10_isNearer : ByteArray := prog_12_method_59_code
def yX10_isNearer : MethodName := ⟨RX10, "isNearer", "(JJJJ)Z"⟩
abbrev cX10_entersNear : ByteArray := prog_12_method_60_code
def yX10_entersNear : MethodName := ⟨RX10, "entersNear", "()V"⟩
abbrev cX10_findsNearest : ByteArray := prog_12_method_61_code
def yX10_findsNearest : MethodName := ⟨RX10, "findsNearest", "(JJJ)Z"⟩
abbrev cX10_nearest : ByteArray := prog_12_method_62_code
def yX10_nearest : MethodName := ⟨RX10, "nearest", "(II)I"⟩
abbrev cX10_lead : ByteArray := prog_12_method_63_code
def yX10_lead : MethodName := ⟨RX10, "lead", "(I)I"⟩
abbrev cX10_sinks : ByteArray := prog_12_method_64_code
def yX10_sinks : MethodName := ⟨RX10, "sinks", "(II)V"⟩
abbrev cX10_sorts : ByteArray := prog_12_method_65_code
def yX10_sorts : MethodName := ⟨RX10, "sorts", "()V"⟩
abbrev cX10_ratios : ByteArray := prog_12_method_66_code
def yX10_ratios : MethodName := ⟨RX10, "ratios", "()I"⟩
abbrev cX10_isLess : ByteArray := prog_12_method_67_code
def yX10_isLess : MethodName := ⟨RX10, "isLess", "(JJ)Z"⟩
abbrev cX10_stepsTo : ByteArray := prog_12_method_68_code
def yX10_stepsTo : MethodName := ⟨RX10, "stepsTo", "(JJZ)I"⟩
abbrev cX10_near : ByteArray := prog_12_method_69_code
def yX10_near : MethodName := ⟨RX10, "near", "(III)I"⟩
abbrev cX10_tree : ByteArray := prog_12_method_70_code
def yX10_tree : MethodName := ⟨RX10, "tree", "(II)I"⟩
abbrev cX10_angle : ByteArray := prog_12_method_71_code
def yX10_angle : MethodName := ⟨RX10, "angle", "(I)I"⟩
abbrev cX10_usesOne : ByteArray := prog_12_method_72_code
def yX10_usesOne : MethodName := ⟨RX10, "usesOne", "(I)I"⟩
abbrev cX10_uses : ByteArray := prog_12_method_73_code
def yX10_uses : MethodName := ⟨RX10, "uses", "(I)I"⟩
abbrev cX10_isGear : ByteArray := prog_12_method_74_code
def yX10_isGear : MethodName := ⟨RX10, "isGear", "(I)Z"⟩
abbrev cX10_trainUpper : ByteArray := prog_12_method_75_code
def yX10_trainUpper : MethodName := ⟨RX10, "trainUpper", "()J"⟩
abbrev cX10_trainLower : ByteArray := prog_12_method_76_code
def yX10_trainLower : MethodName := ⟨RX10, "trainLower", "()J"⟩
abbrev cX10_gearedOne : ByteArray := prog_12_method_77_code
def yX10_gearedOne : MethodName := ⟨RX10, "gearedOne", "(IIIII)I"⟩
abbrev cX10_geared : ByteArray := prog_12_method_78_code
def yX10_geared : MethodName := ⟨RX10, "geared", "(IIIII)I"⟩
abbrev cX10_ungearedOne : ByteArray := prog_12_method_79_code
def yX10_ungearedOne : MethodName := ⟨RX10, "ungearedOne", "()I"⟩
abbrev cX10_ungeared : ByteArray := prog_12_method_80_code
def yX10_ungeared : MethodName := ⟨RX10, "ungeared", "()I"⟩
abbrev cX10_laysStep : ByteArray := prog_12_method_81_code
def yX10_laysStep : MethodName := ⟨RX10, "laysStep", "(I)V"⟩
abbrev cX10_laysNext : ByteArray := prog_12_method_82_code
def yX10_laysNext : MethodName := ⟨RX10, "laysNext", "(IJ)Z"⟩
abbrev cX10_goesBy : ByteArray := prog_12_method_83_code
def yX10_goesBy : MethodName := ⟨RX10, "goesBy", "(IJ)I"⟩
abbrev cX10_turnsOne : ByteArray := prog_12_method_84_code
def yX10_turnsOne : MethodName := ⟨RX10, "turnsOne", "(III)I"⟩
abbrev cX10_cranks : ByteArray := prog_12_method_85_code
def yX10_cranks : MethodName := ⟨RX10, "cranks", "(III)I"⟩
abbrev cX10_marks : ByteArray := prog_12_method_86_code
def yX10_marks : MethodName := ⟨RX10, "marks", "()I"⟩
abbrev cX10_markUp : ByteArray := prog_12_method_87_code
def yX10_markUp : MethodName := ⟨RX10, "markUp", "(I)J"⟩
abbrev cX10_markLow : ByteArray := prog_12_method_88_code
def yX10_markLow : MethodName := ⟨RX10, "markLow", "(I)J"⟩
abbrev cX10_markAt : ByteArray := prog_12_method_89_code
def yX10_markAt : MethodName := ⟨RX10, "markAt", "(JJ)I"⟩
abbrev cX10_cutsOne : ByteArray := prog_12_method_90_code
def yX10_cutsOne : MethodName := ⟨RX10, "cutsOne", "()I"⟩
abbrev cX10_cuts : ByteArray := prog_12_method_91_code
def yX10_cuts : MethodName := ⟨RX10, "cuts", "()I"⟩
abbrev cX10_wipesOne : ByteArray := prog_12_method_92_code
def yX10_wipesOne : MethodName := ⟨RX10, "wipesOne", "()I"⟩
abbrev cX10_wipes : ByteArray := prog_12_method_93_code
def yX10_wipes : MethodName := ⟨RX10, "wipes", "()I"⟩
abbrev cX10_hasWay : ByteArray := prog_12_method_94_code
def yX10_hasWay : MethodName := ⟨RX10, "hasWay", "(II)Z"⟩
abbrev cX10_stepsBy : ByteArray := prog_12_method_95_code
def yX10_stepsBy : MethodName := ⟨RX10, "stepsBy", "(II)V"⟩
abbrev cX10_divides : ByteArray := prog_12_method_96_code
def yX10_divides : MethodName := ⟨RX10, "divides", "(II)I"⟩
abbrev cX10_laysGap : ByteArray := prog_12_method_97_code
def yX10_laysGap : MethodName := ⟨RX10, "laysGap", "(I)V"⟩
abbrev cX10_mark : ByteArray := prog_12_method_98_code
def yX10_mark : MethodName := ⟨RX10, "mark", "(I)I"⟩
abbrev cX10_isBelow : ByteArray := prog_12_method_99_code
def yX10_isBelow : MethodName := ⟨RX10, "isBelow", "(JJJJ)Z"⟩
abbrev cX10_laysGaps : ByteArray := prog_12_method_100_code
def yX10_laysGaps : MethodName := ⟨RX10, "laysGaps", "()I"⟩
abbrev cX10_gaps : ByteArray := prog_12_method_101_code
def yX10_gaps : MethodName := ⟨RX10, "gaps", "()I"⟩
abbrev cX10_missing : ByteArray := prog_12_method_102_code
def yX10_missing : MethodName := ⟨RX10, "missing", "(I)I"⟩
abbrev cX10_reaches : ByteArray := prog_12_method_103_code
def yX10_reaches : MethodName := ⟨RX10, "reaches", "()I"⟩
abbrev cX10_readsAct : ByteArray := prog_12_method_104_code
def yX10_readsAct : MethodName := ⟨RX10, "readsAct", "(I)Z"⟩
abbrev cX10_doesAct : ByteArray := prog_12_method_105_code
def yX10_doesAct : MethodName := ⟨RX10, "doesAct", "(I)I"⟩
abbrev cX10_day : ByteArray := prog_12_method_106_code
def yX10_day : MethodName := ⟨RX10, "day", "()I"⟩
abbrev cX10_draws : ByteArray := prog_12_method_107_code
def yX10_draws : MethodName := ⟨RX10, "draws", "(I)I"⟩
abbrev cX10_years : ByteArray := prog_12_method_108_code
def yX10_years : MethodName := ⟨RX10, "years", "(II)I"⟩
abbrev cX10_keep : ByteArray := prog_12_method_109_code
def yX10_keep : MethodName := ⟨RX10, "keep", "(I)Z"⟩
abbrev cX10_again : ByteArray := prog_12_method_110_code
def yX10_again : MethodName := ⟨RX10, "again", "(I)Z"⟩
abbrev cX10_count : ByteArray := prog_12_method_111_code
def yX10_count : MethodName := ⟨RX10, "count", "(I)I"⟩
abbrev cX10_row : ByteArray := prog_12_method_112_code
def yX10_row : MethodName := ⟨RX10, "row", "(I)J"⟩
def RJ6 : String := "java/lang/Integer"
def TJ6 : u_T := fun k => match k with
  | _ => ("", "", "", false)
def tyJ6 : Nat → FieldType := fun k => match k with
  | _ => .int
theorem nmJ6 : ∀ a, a < 0 → ∀ b, b < 0 → a ≠ b → (TJ6 a).2.1 ≠ (TJ6 b).2.1 := by decide +kernel
theorem tyJ6_ok : ∀ k, k < 0 → parseFieldDescriptor (TJ6 k).2.2.1 = some (tyJ6 k) := by decide +kernel
abbrev cJ6_bitCount_0f7a4 : ByteArray := prog_17_method_49_code
def yJ6_bitCount_0f7a4 : MethodName := ⟨RJ6, "bitCount", "(I)I"⟩
def RJ13 : String := "java/lang/Long"
def TJ13 : u_T := fun k => match k with
  | _ => ("", "", "", false)
def tyJ13 : Nat → FieldType := fun k => match k with
  | _ => .int
theorem nmJ13 : ∀ a, a < 0 → ∀ b, b < 0 → a ≠ b → (TJ13 a).2.1 ≠ (TJ13 b).2.1 := by decide +kernel
theorem tyJ13_ok : ∀ k, k < 0 → parseFieldDescriptor (TJ13 k).2.2.1 = some (tyJ13 k) := by decide +kernel
abbrev cJ13_compare_74951 : ByteArray := prog_18_method_42_code
def yJ13_compare_74951 : MethodName := ⟨RJ13, "compare", "(JJ)I"⟩
def RJ9 : String := "java/lang/Math"
def TJ9 : u_T := fun k => match k with
  | _ => ("", "", "", false)
def tyJ9 : Nat → FieldType := fun k => match k with
  | _ => .int
theorem nmJ9 : ∀ a, a < 0 → ∀ b, b < 0 → a ≠ b → (TJ9 a).2.1 ≠ (TJ9 b).2.1 := by decide +kernel
theorem tyJ9_ok : ∀ k, k < 0 → parseFieldDescriptor (TJ9 k).2.2.1 = some (tyJ9 k) := by decide +kernel
abbrev cJ9_floorDiv_7cf53 : ByteArray := prog_19_method_47_code
def yJ9_floorDiv_7cf53 : MethodName := ⟨RJ9, "floorDiv", "(II)I"⟩
abbrev cJ9_floorMod_7cf53 : ByteArray := prog_19_method_50_code
def yJ9_floorMod_7cf53 : MethodName := ⟨RJ9, "floorMod", "(II)I"⟩
abbrev cJ9_floorMod_f86c9 : ByteArray := prog_19_method_52_code
def yJ9_floorMod_f86c9 : MethodName := ⟨RJ9, "floorMod", "(JJ)J"⟩
abbrev cJ9_abs_0f7a4 : ByteArray := prog_19_method_59_code
def yJ9_abs_0f7a4 : MethodName := ⟨RJ9, "abs", "(I)I"⟩
abbrev cJ9_abs_067f4 : ByteArray := prog_19_method_61_code
def yJ9_abs_067f4 : MethodName := ⟨RJ9, "abs", "(J)J"⟩
def RJ7 : String := "java/util/Arrays"
def TJ7 : u_T := fun k => match k with
  | _ => ("", "", "", false)
def tyJ7 : Nat → FieldType := fun k => match k with
  | _ => .int
theorem nmJ7 : ∀ a, a < 0 → ∀ b, b < 0 → a ≠ b → (TJ7 a).2.1 ≠ (TJ7 b).2.1 := by decide +kernel
theorem tyJ7_ok : ∀ k, k < 0 → parseFieldDescriptor (TJ7 k).2.2.1 = some (tyJ7 k) := by decide +kernel
abbrev cJ7_fill_53178 : ByteArray := prog_28_method_103_code
def yJ7_fill_53178 : MethodName := ⟨RJ7, "fill", "([II)V"⟩
def RL : String := "DividingHeadLaw"
abbrev cL_circle : ByteArray := method_3_code
def yL_circle : MethodName := ⟨RL, "circle", "(LDividingHead;I[J)I"⟩
abbrev cL_gear : ByteArray := method_4_code
def yL_gear : MethodName := ⟨RL, "gear", "(LDividingHead;I[J)I"⟩
abbrev cL_row : ByteArray := method_5_code
def yL_row : MethodName := ⟨RL, "row", "(LDividingHead;I[J)I"⟩
abbrev cL_law : ByteArray := code
def yL_law : MethodName := ⟨RL, "law", "([I)Z"⟩
abbrev vwCl : List vw_C := [(RX0, TX0, 6), (RX1, TX1, 4), (RX2, TX2, 2), (RX3, TX3, 4), (RX4, TX4, 17), (RX5, TX5, 7), (RX6, TX6, 4), (RX7, TX7, 2), (RX8, TX8, 2), (RX9, TX9, 15), (RX10, TX10, 43)]
abbrev ftyT : List (List Nat) := [[0, 0, 0, 0, 0, 0], [2, 0, 0, 0], [1, 1], [0, 2, 2, 2], [0, 0, 0, 0, 0, 0, 0, 0, 2, 2, 2, 2, 2, 2, 2, 2, 0], [0, 0, 2, 2, 2, 2, 2], [0, 0, 0, 0], [2, 0], [2, 0], [2, 2, 2, 2, 2, 2, 2, 2, 2, 2, 0, 0, 2, 2, 2], [0, 0, 2, 2, 0, 0, 0, 2, 2, 0, 2, 2, 0, 0, 0, 0, 0, 2, 0, 2, 0, 0, 0, 1, 1, 1, 1, 2, 0, 1, 1, 1, 1, 1, 1, 2, 2, 2, 2, 2, 2, 0, 2]]
/-- the kind of a field: 0 int, 1 long, 2 a reference -/
def fty (c k : Nat) : Nat := (ftyT.getD c []).getD k 0
def tyF (c : Nat) : Nat → FieldType := match c with
  | 0 => tyX0
  | 1 => tyX1
  | 2 => tyX2
  | 3 => tyX3
  | 4 => tyX4
  | 5 => tyX5
  | 6 => tyX6
  | 7 => tyX7
  | 8 => tyX8
  | 9 => tyX9
  | _ => tyX10
def gwd : List Cond := lw_tbl.filter goodWord
theorem inG {w : Cond} (i : Nat) (h : lw_tbl[i]? = some w) (g : goodWord w = true) : w ∈ gwd := List.mem_filter.mpr ⟨List.mem_of_getElem? h, g⟩
theorem gwd_good : ∀ w ∈ gwd, (w.onTables && w.keeps) = true ∨ ∃ ty, w = .arrayClass ty := fun w h => good_of_word (List.mem_filter.mp h).2
theorem uwX0 : ∀ w ∈ u_ws RX0 TX0 6, w ∈ gwd := by
  intro w hw
  obtain ⟨k, hk, rfl⟩ := List.mem_map.mp hw
  have hk := List.mem_range.mp hk
  match k, hk with
  | 0, _ => exact inG 197 (by decide +kernel) rfl
  | 1, _ => exact inG 199 (by decide +kernel) rfl
  | 2, _ => exact inG 201 (by decide +kernel) rfl
  | 3, _ => exact inG 203 (by decide +kernel) rfl
  | 4, _ => exact inG 205 (by decide +kernel) rfl
  | 5, _ => exact inG 207 (by decide +kernel) rfl
  | k + 6, hk => omega
theorem uwX1 : ∀ w ∈ u_ws RX1 TX1 4, w ∈ gwd := by
  intro w hw
  obtain ⟨k, hk, rfl⟩ := List.mem_map.mp hw
  have hk := List.mem_range.mp hk
  match k, hk with
  | 0, _ => exact inG 226 (by decide +kernel) rfl
  | 1, _ => exact inG 228 (by decide +kernel) rfl
  | 2, _ => exact inG 230 (by decide +kernel) rfl
  | 3, _ => exact inG 232 (by decide +kernel) rfl
  | k + 4, hk => omega
theorem uwX2 : ∀ w ∈ u_ws RX2 TX2 2, w ∈ gwd := by
  intro w hw
  obtain ⟨k, hk, rfl⟩ := List.mem_map.mp hw
  have hk := List.mem_range.mp hk
  match k, hk with
  | 0, _ => exact inG 257 (by decide +kernel) rfl
  | 1, _ => exact inG 259 (by decide +kernel) rfl
  | k + 2, hk => omega
theorem uwX3 : ∀ w ∈ u_ws RX3 TX3 4, w ∈ gwd := by
  intro w hw
  obtain ⟨k, hk, rfl⟩ := List.mem_map.mp hw
  have hk := List.mem_range.mp hk
  match k, hk with
  | 0, _ => exact inG 267 (by decide +kernel) rfl
  | 1, _ => exact inG 269 (by decide +kernel) rfl
  | 2, _ => exact inG 271 (by decide +kernel) rfl
  | 3, _ => exact inG 273 (by decide +kernel) rfl
  | k + 4, hk => omega
theorem uwX4 : ∀ w ∈ u_ws RX4 TX4 17, w ∈ gwd := by
  intro w hw
  obtain ⟨k, hk, rfl⟩ := List.mem_map.mp hw
  have hk := List.mem_range.mp hk
  match k, hk with
  | 0, _ => exact inG 321 (by decide +kernel) rfl
  | 1, _ => exact inG 323 (by decide +kernel) rfl
  | 2, _ => exact inG 325 (by decide +kernel) rfl
  | 3, _ => exact inG 327 (by decide +kernel) rfl
  | 4, _ => exact inG 329 (by decide +kernel) rfl
  | 5, _ => exact inG 331 (by decide +kernel) rfl
  | 6, _ => exact inG 333 (by decide +kernel) rfl
  | 7, _ => exact inG 335 (by decide +kernel) rfl
  | 8, _ => exact inG 337 (by decide +kernel) rfl
  | 9, _ => exact inG 339 (by decide +kernel) rfl
  | 10, _ => exact inG 341 (by decide +kernel) rfl
  | 11, _ => exact inG 343 (by decide +kernel) rfl
  | 12, _ => exact inG 345 (by decide +kernel) rfl
  | 13, _ => exact inG 347 (by decide +kernel) rfl
  | 14, _ => exact inG 349 (by decide +kernel) rfl
  | 15, _ => exact inG 351 (by decide +kernel) rfl
  | 16, _ => exact inG 353 (by decide +kernel) rfl
  | k + 17, hk => omega
theorem uwX5 : ∀ w ∈ u_ws RX5 TX5 7, w ∈ gwd := by
  intro w hw
  obtain ⟨k, hk, rfl⟩ := List.mem_map.mp hw
  have hk := List.mem_range.mp hk
  match k, hk with
  | 0, _ => exact inG 601 (by decide +kernel) rfl
  | 1, _ => exact inG 603 (by decide +kernel) rfl
  | 2, _ => exact inG 605 (by decide +kernel) rfl
  | 3, _ => exact inG 607 (by decide +kernel) rfl
  | 4, _ => exact inG 609 (by decide +kernel) rfl
  | 5, _ => exact inG 611 (by decide +kernel) rfl
  | 6, _ => exact inG 613 (by decide +kernel) rfl
  | k + 7, hk => omega
theorem uwX6 : ∀ w ∈ u_ws RX6 TX6 4, w ∈ gwd := by
  intro w hw
  obtain ⟨k, hk, rfl⟩ := List.mem_map.mp hw
  have hk := List.mem_range.mp hk
  match k, hk with
  | 0, _ => exact inG 170 (by decide +kernel) rfl
  | 1, _ => exact inG 172 (by decide +kernel) rfl
  | 2, _ => exact inG 174 (by decide +kernel) rfl
  | 3, _ => exact inG 176 (by decide +kernel) rfl
  | k + 4, hk => omega
theorem uwX7 : ∀ w ∈ u_ws RX7 TX7 2, w ∈ gwd := by
  intro w hw
  obtain ⟨k, hk, rfl⟩ := List.mem_map.mp hw
  have hk := List.mem_range.mp hk
  match k, hk with
  | 0, _ => exact inG 134 (by decide +kernel) rfl
  | 1, _ => exact inG 136 (by decide +kernel) rfl
  | k + 2, hk => omega
theorem uwX8 : ∀ w ∈ u_ws RX8 TX8 2, w ∈ gwd := by
  intro w hw
  obtain ⟨k, hk, rfl⟩ := List.mem_map.mp hw
  have hk := List.mem_range.mp hk
  match k, hk with
  | 0, _ => exact inG 149 (by decide +kernel) rfl
  | 1, _ => exact inG 151 (by decide +kernel) rfl
  | k + 2, hk => omega
theorem uwX9 : ∀ w ∈ u_ws RX9 TX9 15, w ∈ gwd := by
  intro w hw
  obtain ⟨k, hk, rfl⟩ := List.mem_map.mp hw
  have hk := List.mem_range.mp hk
  match k, hk with
  | 0, _ => exact inG 392 (by decide +kernel) rfl
  | 1, _ => exact inG 394 (by decide +kernel) rfl
  | 2, _ => exact inG 396 (by decide +kernel) rfl
  | 3, _ => exact inG 398 (by decide +kernel) rfl
  | 4, _ => exact inG 400 (by decide +kernel) rfl
  | 5, _ => exact inG 402 (by decide +kernel) rfl
  | 6, _ => exact inG 404 (by decide +kernel) rfl
  | 7, _ => exact inG 406 (by decide +kernel) rfl
  | 8, _ => exact inG 408 (by decide +kernel) rfl
  | 9, _ => exact inG 410 (by decide +kernel) rfl
  | 10, _ => exact inG 412 (by decide +kernel) rfl
  | 11, _ => exact inG 414 (by decide +kernel) rfl
  | 12, _ => exact inG 416 (by decide +kernel) rfl
  | 13, _ => exact inG 418 (by decide +kernel) rfl
  | 14, _ => exact inG 420 (by decide +kernel) rfl
  | k + 15, hk => omega
theorem uwX10 : ∀ w ∈ u_ws RX10 TX10 43, w ∈ gwd := by
  intro w hw
  obtain ⟨k, hk, rfl⟩ := List.mem_map.mp hw
  have hk := List.mem_range.mp hk
  match k, hk with
  | 0, _ => exact inG 1127 (by decide +kernel) rfl
  | 1, _ => exact inG 1129 (by decide +kernel) rfl
  | 2, _ => exact inG 1131 (by decide +kernel) rfl
  | 3, _ => exact inG 1133 (by decide +kernel) rfl
  | 4, _ => exact inG 1135 (by decide +kernel) rfl
  | 5, _ => exact inG 1137 (by decide +kernel) rfl
  | 6, _ => exact inG 1139 (by decide +kernel) rfl
  | 7, _ => exact inG 1141 (by decide +kernel) rfl
  | 8, _ => exact inG 1143 (by decide +kernel) rfl
  | 9, _ => exact inG 1145 (by decide +kernel) rfl
  | 10, _ => exact inG 1147 (by decide +kernel) rfl
  | 11, _ => exact inG 1149 (by decide +kernel) rfl
  | 12, _ => exact inG 1151 (by decide +kernel) rfl
  | 13, _ => exact inG 1153 (by decide +kernel) rfl
  | 14, _ => exact inG 1155 (by decide +kernel) rfl
  | 15, _ => exact inG 1157 (by decide +kernel) rfl
  | 16, _ => exact inG 1159 (by decide +kernel) rfl
  | 17, _ => exact inG 1161 (by decide +kernel) rfl
  | 18, _ => exact inG 1163 (by decide +kernel) rfl
  | 19, _ => exact inG 1165 (by decide +kernel) rfl
  | 20, _ => exact inG 1167 (by decide +kernel) rfl
  | 21, _ => exact inG 1169 (by decide +kernel) rfl
  | 22, _ => exact inG 1171 (by decide +kernel) rfl
  | 23, _ => exact inG 1173 (by decide +kernel) rfl
  | 24, _ => exact inG 1175 (by decide +kernel) rfl
  | 25, _ => exact inG 1177 (by decide +kernel) rfl
  | 26, _ => exact inG 1179 (by decide +kernel) rfl
  | 27, _ => exact inG 1181 (by decide +kernel) rfl
  | 28, _ => exact inG 1183 (by decide +kernel) rfl
  | 29, _ => exact inG 1185 (by decide +kernel) rfl
  | 30, _ => exact inG 1187 (by decide +kernel) rfl
  | 31, _ => exact inG 1189 (by decide +kernel) rfl
  | 32, _ => exact inG 1191 (by decide +kernel) rfl
  | 33, _ => exact inG 1193 (by decide +kernel) rfl
  | 34, _ => exact inG 1195 (by decide +kernel) rfl
  | 35, _ => exact inG 1197 (by decide +kernel) rfl
  | 36, _ => exact inG 1199 (by decide +kernel) rfl
  | 37, _ => exact inG 1201 (by decide +kernel) rfl
  | 38, _ => exact inG 1203 (by decide +kernel) rfl
  | 39, _ => exact inG 1205 (by decide +kernel) rfl
  | 40, _ => exact inG 1207 (by decide +kernel) rfl
  | 41, _ => exact inG 1209 (by decide +kernel) rfl
  | 42, _ => exact inG 1211 (by decide +kernel) rfl
  | k + 43, hk => omega
end
section
-- THE SMALL HEAP: typed contents by address; what it says of the machine's heap; the judgement Wj over it, and its rows
abbrev Dt : Type := va_G × (Nat → ClassId) × Heap
abbrev Hp : Type := Nat × (Nat → Nat) × (Nat → Nat) × (Nat → Nat → Int32) × (Nat → Nat → Int64) × (Nat → Nat → Option Nat)
def hn (h : Hp) : Nat := h.1
def kd (h : Hp) (a : Nat) : Nat := h.2.1 a
def ln (h : Hp) (a : Nat) : Nat := h.2.2.1 a
def gi (h : Hp) (a k : Nat) : Int32 := h.2.2.2.1 a k
def gl (h : Hp) (a k : Nat) : Int64 := h.2.2.2.2.1 a k
def gr (h : Hp) (a k : Nat) : Option Nat := h.2.2.2.2.2 a k
def gp (h : Hp) (a k : Nat) : Nat := (gr h a k).getD 0
def up2 {α : Type} (f : Nat → Nat → α) (a k : Nat) (v : α) : Nat → Nat → α := fun b j => if b = a ∧ j = k then v else f b j
def si (h : Hp) (a k : Nat) (v : Int32) : Hp := (h.1, h.2.1, h.2.2.1, up2 h.2.2.2.1 a k v, h.2.2.2.2.1, h.2.2.2.2.2)
def sl (h : Hp) (a k : Nat) (v : Int64) : Hp := (h.1, h.2.1, h.2.2.1, h.2.2.2.1, up2 h.2.2.2.2.1 a k v, h.2.2.2.2.2)
def sr (h : Hp) (a k : Nat) (v : Option Nat) : Hp := (h.1, h.2.1, h.2.2.1, h.2.2.2.1, h.2.2.2.2.1, up2 h.2.2.2.2.2 a k v)
def up1 {α : Type} (f : Nat → α) (a : Nat) (v : α) : Nat → α := fun b => if b = a then v else f b
/-- a new cell of a kind, of a length -/
def nw (h : Hp) (kind len : Nat) : Hp := (h.1 + 1, up1 h.2.1 h.1 kind, up1 h.2.2.1 h.1 len, up1 h.2.2.2.1 h.1 (fun _ => 0), up1 h.2.2.2.2.1 h.1 (fun _ => 0), up1 h.2.2.2.2.2 h.1 (fun _ => none))
/-- rows of an array, all at once -/
def siA (h : Hp) (a : Nat) (f : Nat → Int32) : Hp := (h.1, h.2.1, h.2.2.1, up1 h.2.2.2.1 a f, h.2.2.2.2.1, h.2.2.2.2.2)
def slA (h : Hp) (a : Nat) (f : Nat → Int64) : Hp := (h.1, h.2.1, h.2.2.1, h.2.2.2.1, up1 h.2.2.2.2.1 a f, h.2.2.2.2.2)
theorem gi_si (h : Hp) (a k : Nat) (v : Int32) (b j : Nat) : gi (si h a k v) b j = if b = a ∧ j = k then v else gi h b j := rfl
theorem gl_si (h : Hp) (a k : Nat) (v : Int32) (b j : Nat) : gl (si h a k v) b j = gl h b j := rfl
theorem gr_si (h : Hp) (a k : Nat) (v : Int32) (b j : Nat) : gr (si h a k v) b j = gr h b j := rfl
theorem kd_si (h : Hp) (a k : Nat) (v : Int32) (b : Nat) : kd (si h a k v) b = kd h b := rfl
theorem ln_si (h : Hp) (a k : Nat) (v : Int32) (b : Nat) : ln (si h a k v) b = ln h b := rfl
theorem hn_si (h : Hp) (a k : Nat) (v : Int32) : hn (si h a k v) = hn h := rfl
theorem gi_sl (h : Hp) (a k : Nat) (v : Int64) (b j : Nat) : gi (sl h a k v) b j = gi h b j := rfl
theorem gl_sl (h : Hp) (a k : Nat) (v : Int64) (b j : Nat) : gl (sl h a k v) b j = if b = a ∧ j = k then v else gl h b j := rfl
theorem gr_sl (h : Hp) (a k : Nat) (v : Int64) (b j : Nat) : gr (sl h a k v) b j = gr h b j := rfl
theorem kd_sl (h : Hp) (a k : Nat) (v : Int64) (b : Nat) : kd (sl h a k v) b = kd h b := rfl
theorem ln_sl (h : Hp) (a k : Nat) (v : Int64) (b : Nat) : ln (sl h a k v) b = ln h b := rfl
theorem hn_sl (h : Hp) (a k : Nat) (v : Int64) : hn (sl h a k v) = hn h := rfl
theorem gi_sr (h : Hp) (a k : Nat) (v : Option Nat) (b j : Nat) : gi (sr h a k v) b j = gi h b j := rfl
theorem gl_sr (h : Hp) (a k : Nat) (v : Option Nat) (b j : Nat) : gl (sr h a k v) b j = gl h b j := rfl
theorem gr_sr (h : Hp) (a k : Nat) (v : Option Nat) (b j : Nat) : gr (sr h a k v) b j = if b = a ∧ j = k then v else gr h b j := rfl
theorem kd_sr (h : Hp) (a k : Nat) (v : Option Nat) (b : Nat) : kd (sr h a k v) b = kd h b := rfl
theorem ln_sr (h : Hp) (a k : Nat) (v : Option Nat) (b : Nat) : ln (sr h a k v) b = ln h b := rfl
theorem hn_sr (h : Hp) (a k : Nat) (v : Option Nat) : hn (sr h a k v) = hn h := rfl
theorem gi_nw (h : Hp) (kk len b j : Nat) : gi (nw h kk len) b j = if b = hn h then 0 else gi h b j := by
  show up1 h.2.2.2.1 h.1 (fun _ => 0) b j = _
  unfold up1 gi hn
  by_cases e : b = h.1 <;> simp [e]
theorem gl_nw (h : Hp) (kk len b j : Nat) : gl (nw h kk len) b j = if b = hn h then 0 else gl h b j := by
  show up1 h.2.2.2.2.1 h.1 (fun _ => 0) b j = _
  unfold up1 gl hn
  by_cases e : b = h.1 <;> simp [e]
theorem gr_nw (h : Hp) (kk len b j : Nat) : gr (nw h kk len) b j = if b = hn h then none else gr h b j := by
  show up1 h.2.2.2.2.2 h.1 (fun _ => none) b j = _
  unfold up1 gr hn
  by_cases e : b = h.1 <;> simp [e]
theorem kd_nw (h : Hp) (kk len b : Nat) : kd (nw h kk len) b = if b = hn h then kk else kd h b := rfl
theorem ln_nw (h : Hp) (kk len b : Nat) : ln (nw h kk len) b = if b = hn h then len else ln h b := rfl
theorem hn_nw (h : Hp) (kk len : Nat) : hn (nw h kk len) = hn h + 1 := rfl
theorem gi_siA (h : Hp) (a : Nat) (f : Nat → Int32) (b j : Nat) : gi (siA h a f) b j = if b = a then f j else gi h b j := by
  show up1 h.2.2.2.1 a f b j = _
  unfold up1 gi
  by_cases e : b = a <;> simp [e]
theorem gl_siA (h : Hp) (a : Nat) (f : Nat → Int32) (b j : Nat) : gl (siA h a f) b j = gl h b j := rfl
theorem gr_siA (h : Hp) (a : Nat) (f : Nat → Int32) (b j : Nat) : gr (siA h a f) b j = gr h b j := rfl
theorem kd_siA (h : Hp) (a : Nat) (f : Nat → Int32) (b : Nat) : kd (siA h a f) b = kd h b := rfl
theorem ln_siA (h : Hp) (a : Nat) (f : Nat → Int32) (b : Nat) : ln (siA h a f) b = ln h b := rfl
theorem hn_siA (h : Hp) (a : Nat) (f : Nat → Int32) : hn (siA h a f) = hn h := rfl
theorem gl_slA (h : Hp) (a : Nat) (f : Nat → Int64) (b j : Nat) : gl (slA h a f) b j = if b = a then f j else gl h b j := by
  show up1 h.2.2.2.2.1 a f b j = _
  unfold up1 gl
  by_cases e : b = a <;> simp [e]
theorem gi_slA (h : Hp) (a : Nat) (f : Nat → Int64) (b j : Nat) : gi (slA h a f) b j = gi h b j := rfl
theorem gr_slA (h : Hp) (a : Nat) (f : Nat → Int64) (b j : Nat) : gr (slA h a f) b j = gr h b j := rfl
theorem kd_slA (h : Hp) (a : Nat) (f : Nat → Int64) (b : Nat) : kd (slA h a f) b = kd h b := rfl
theorem ln_slA (h : Hp) (a : Nat) (f : Nat → Int64) (b : Nat) : ln (slA h a f) b = ln h b := rfl
theorem hn_slA (h : Hp) (a : Nat) (f : Nat → Int64) : hn (slA h a f) = hn h := rfl
/-- a field's value by its kind -/
def fv (h : Hp) (a k t : Nat) : Value := match t with
  | 0 => .int (gi h a k)
  | 1 => .long (gl h a k)
  | _ => va_rf (gr h a k)
/-- array kinds: 20 int, 21 long, 22 char, 23 boolean, 24 Head[] -/
def cellR (D : Dt) (h : Hp) (H : Heap) (a : Nat) : Prop :=
  (∀ c r, kd h a = c + 1 → vwCl[c]? = some r → t_OB a (D.1.1 c) r.2.2 (D.1.2 c) H (fun k => fv h a k (fty c k))) ∧
  (kd h a = 20 → H[a]? = some (arrV (D.2.1 0) (ln h a) (fun j => .int (gi h a j)))) ∧
  (kd h a = 21 → H[a]? = some (arrV (D.2.1 1) (ln h a) (fun j => .long (gl h a j)))) ∧
  (kd h a = 22 → H[a]? = some (arrV (D.2.1 2) (ln h a) (fun j => .int (gi h a j)))) ∧
  (kd h a = 23 → H[a]? = some (arrV (D.2.1 3) (ln h a) (fun j => .int (gi h a j)))) ∧
  (kd h a = 24 → H[a]? = some (arrV (D.2.1 4) (ln h a) (fun j => va_rf (gr h a j))))
def RelH (D : Dt) (h : Hp) (H : Heap) : Prop :=
  H.size = hn h ∧ D.2.2.size ≤ hn h ∧ (∀ q : Nat, q < D.2.2.size → H[q]? = D.2.2[q]?) ∧ ∀ a : Nat, kd h a ≠ 0 → D.2.2.size ≤ a ∧ a < hn h ∧ cellR D h H a
theorem cellR.kept {D : Dt} {h h' : Hp} {H H' : Heap} {a : Nat} (c : cellR D h H a) (e : H'[a]? = H[a]?) (k1 : kd h' a = kd h a) (k2 : ln h' a = ln h a) (k3 : ∀ j, gi h' a j = gi h a j) (k4 : ∀ j, gl h' a j = gl h a j) (k5 : ∀ j, gr h' a j = gr h a j) : cellR D h' H' a := by
  obtain ⟨c0, c1, c2, c3, c4, c5⟩ := c
  refine ⟨fun c r hk hr => ?_, fun hk => ?_, fun hk => ?_, fun hk => ?_, fun hk => ?_, fun hk => ?_⟩
  · rw [k1] at hk
    refine ((c0 c r hk hr).kept e).to (fun k _ => ?_)
    show fv h a k (fty c k) = fv h' a k (fty c k)
    unfold fv
    split <;> simp [k3, k4, k5]
  · rw [k1] at hk; rw [e, c1 hk, k2]; simp only [k3]
  · rw [k1] at hk; rw [e, c2 hk, k2]; simp only [k4]
  · rw [k1] at hk; rw [e, c3 hk, k2]; simp only [k3]
  · rw [k1] at hk; rw [e, c4 hk, k2]; simp only [k3]
  · rw [k1] at hk; rw [e, c5 hk, k2]; simp only [k5]
abbrev tysD (D : Dt) : List (ClassId × FieldType) := [(D.2.1 0, .int), (D.2.1 1, .long), (D.2.1 2, .char), (D.2.1 3, .boolean), (D.2.1 4, .object "DividingHead$Head")]
abbrev nestW : List Cond := [.methodLinkNest RX9 9 yX7_init RX9, .methodLinkNest RX9 18 yX8_init RX9, .methodLinkNest RX9 25 yX6_init RX9, .methodLinkNest RX9 32 yX0_init RX9, .methodLinkNest RX9 39 yX1_init RX9, .methodLinkNest RX1 11 yX6_init RX9, .methodLinkNest RX9 46 yX3_init RX9, .methodLinkNest RX3 17 yX2_init RX9, .methodLinkNest RX9 53 yX2_init RX9, .methodLinkNest RX9 77 yX4_init RX9, .methodLinkNest RX4 38 yX2_init RX9, .methodLinkNest RX2 16 yX9_common RX9, .methodLinkNest RX4 112 yX9_isBetween RX9, .methodLinkNest RX9 243 yX5_init RX9, .methodLinkNest RX5 64 yX9_common RX9, .methodLinkNest RX3 49 yX9_compareFractions RX9]
def Kn (D : Dt) (U : State) : Prop := va_K D.1 vwCl (tysD D) U ∧ (∀ w ∈ nestW, va_Nw w U) ∧ va_AO "DividingHead$Head" U
theorem nest_warm {s U : State} (hW : s.WarmedH U.vm) : ∀ w ∈ nestW, va_Nw w s → va_Nw w U := by
  intro w hw h
  simp only [nestW, List.mem_cons, List.not_mem_nil, or_false] at hw
  rcases hw with rfl | rfl | rfl | rfl | rfl | rfl | rfl | rfl | rfl | rfl | rfl | rfl | rfl | rfl | rfl | rfl <;> exact va_Nw.warmM hW h
end
section
-- THE JUDGEMENT Wj: from a frame over the small heap h the method comes to its end with Q; rows, one an instruction
abbrev Ctx : Type := Program × Launch × Env × Room × State × MethodId × Array Value × List Frame × Method × Code × Dt × Nat × Nat
abbrev Pq : Type := Option Value → Hp → Prop
def Qm (D : Dt) (Q : Pq) : Array Value → State → Outcome → State → Prop := fun _ _ o t => ∃ v h', o = .returned v ∧ Q v h' ∧ RelH D h' t.heap
abbrev mcX (X : Ctx) : Nat := X.2.2.2.2.2.2.2.2.2.2.2.1
abbrev msX (X : Ctx) : Nat := X.2.2.2.2.2.2.2.2.2.2.2.2
abbrev dtX (X : Ctx) : Dt := X.2.2.2.2.2.2.2.2.2.2.1
abbrev lX (X : Ctx) : Launch := X.2.1
def Wj (X : Ctx) (k n : Nat) (Q : Pq) (pc : Nat) (lv : List (Nat × Value)) (st : List Value) (h : Hp) : Prop :=
  match X with
  | (p, l, e, R, s, m, args, below, meth, c, D, mc, ms) => k ≤ mc → n ≤ ms → ∀ (ls : Array Slot) (H : Heap) (locs : List Loc), lv_has ls c.maxLocals lv → RelH D h H → (∀ q ∈ locs, D.2.2.size ≤ q.base) →
    W p l e R s m args below meth c H locs k n (MQ below (Qm D Q) args s mc ms (fun q => D.2.2.size ≤ q)) (F0 m pc ls st)
def Cx (X : Ctx) (own : String) (cc : ByteArray) (nL : Nat) (ret : Option FieldType) (nm : String) (fr lo : Nat) : Prop :=
  match X with
  | (p, l, e, R, s, m, args, below, meth, c, D, mc, ms) => p.tables.exec = Jvm.exec ∧ c.code = cc ∧ c.maxLocals = nL ∧ s.vm.findClass own = some m.cls ∧ (∀ w ∈ gwd, w.before args s = true) ∧ Kn D s ∧ meth.sig.returnType = ret ∧ meth.locks = false ∧ meth.name = nm ∧ R.frames = fr ∧ R.locals = lo ∧ R.cells = mc ∧ R.slots = ms
/-- a method's contract over the small heap -/
def Sp (l : Launch) (D : Dt) (y : MethodName) (cc : ByteArray) (nL : Nat) (ret : Option FieldType) (fr lo mc ms : Nat) (av : List Value) (h : Hp) (Q : Pq) : Prop :=
  Met l y (.code y cc nL ret :: gwd) { frames := fr, cells := mc, slots := ms, locals := lo } (va_Pc av (fun U => RelH D h U.heap ∧ Kn D U)) (Qm D Q) mc ms (fun q => D.2.2.size ≤ q)
theorem Kn.moved {D : Dt} {u U : State} (hW : u.WarmedH U.vm) (h : Kn D u) : Kn D U := ⟨h.1.moved hW.alike, fun w hw => nest_warm hW w hw (h.2.1 w hw), h.2.2.moved hW.alike⟩
theorem Kn.same {D : Dt} {u U : State} (hW : u.vm = U.vm) (h : Kn D u) : Kn D U := ⟨h.1.moved (by rw [hW]; exact Vm.Alike.refl _), fun w hw => by
  have h1 := h.2.1 w hw
  simp only [nestW, List.mem_cons, List.not_mem_nil, or_false] at hw
  rcases hw with rfl | rfl | rfl | rfl | rfl | rfl | rfl | rfl | rfl | rfl | rfl | rfl | rfl | rfl | rfl | rfl <;> exact va_Nw.same rfl hW h1, h.2.2.moved (by rw [hW]; exact Vm.Alike.refl _)⟩
theorem Sp.mono {l : Launch} {D : Dt} {y : MethodName} {cc : ByteArray} {nL : Nat} {ret : Option FieldType} {fr lo mc ms : Nat} {av : List Value} {h : Hp} {Q Q' : Pq} (hs : Sp l D y cc nL ret fr lo mc ms av h Q) (hq : ∀ v h', Q v h' → Q' v h') : Sp l D y cc nL ret fr lo mc ms av h Q' := by
  unfold Sp Met at hs ⊢
  exact MetFree.mono hs (fun _ _ h => h) (fun _ _ _ _ _ h => h) (fun a s o t _ hx => by
    obtain ⟨⟨v, h', e, hp, hr⟩, hf⟩ := hx
    exact ⟨⟨v, h', e, hq v h' hp, hr⟩, hf⟩)
theorem Sp.of {l : Launch} {D : Dt} {y : MethodName} {cc : ByteArray} {nL : Nat} {ret : Option FieldType} {fr lo mc ms : Nat} {av : List Value} {h : Hp} {Q : Pq} (hy : plainName y.cls = true) (hl : (lg_sl av).length ≤ nL)
    (body : ∀ X : Ctx, Cx X y.cls cc nL ret y.name fr lo → lX X = l → dtX X = D → mcX X = mc → msX X = ms → Wj X 0 0 Q 0 (lv_args 0 av) [] h) : Sp l D y cc nL ret fr lo mc ms av h Q := by
  refine Met.ofW (cc := cc) (maxL := nL) (ret := ret) hy rfl ?_
  intro p e s m args below meth c s₁ B hml hv
  obtain ⟨rfl, hR, hK⟩ := hv
  have hts := atoms_spec (ws := .code y cc nL ret :: gwd) B.pre
  have C : Cx (p, l, e, { frames := fr, cells := mc, slots := ms, locals := lo }, s, m, av.toArray, below, meth, c, D, mc, ms) y.cls cc nL ret y.name fr lo :=
    ⟨B.exec, B.bytes, hml, findClass_of_methodNamed B.named, fun w hw => hts w (List.mem_cons_of_mem _ hw), hK, B.returns, B.notSynchronized, (name_of_methodNamed B.named B.method).1, rfl, rfl, rfl, rfl⟩
  have hle := lv_entry av hl
  rw [lg_entry_eq]
  exact body _ C rfl rfl rfl rfl (Nat.zero_le _) (Nat.zero_le _) _ _ [] (by rw [hml]; exact hle) hR (fun _ h => by cases h)
-- locals
def lvget : List (Nat × Value) → Nat → Option Value
  | [], _ => none
  | (j, v) :: r, i => match Nat.beq j i with
    | true => some v
    | false => lvget r i
def vcat : Value → Bool
  | .long _ => true
  | .double _ => true
  | _ => false
theorem vcat_iff (v : Value) : v.category = 2 ↔ vcat v = true := by cases v <;> simp [Value.category, vcat]
def lvdel (i : Nat) : List (Nat × Value) → List (Nat × Value)
  | [] => []
  | (j, v) :: r => match Nat.beq j i with
    | true => lvdel i r
    | false => match Nat.beq (j + 1) i with
      | false => (j, v) :: lvdel i r
      | true => match vcat v with
        | true => lvdel i r
        | false => (j, v) :: lvdel i r
def lvdel2 (i : Nat) : List (Nat × Value) → List (Nat × Value)
  | [] => []
  | (j, v) :: r => match Nat.beq j i with
    | true => lvdel2 i r
    | false => match Nat.beq j (i + 1) with
      | true => lvdel2 i r
      | false => match Nat.beq (j + 1) i with
        | false => (j, v) :: lvdel2 i r
        | true => match vcat v with
          | true => lvdel2 i r
          | false => (j, v) :: lvdel2 i r
theorem beq_nat (a b : Nat) : (a == b) = Nat.beq a b := by
  rw [Bool.eq_iff_iff]
  simp [Nat.beq_eq]
theorem lvdel_eq (i : Nat) (l : List (Nat × Value)) : l.filter (fun q => !(q.1 == i) && !(q.1 + 1 == i && q.2.category == 2)) = lvdel i l := by
  induction l with
  | nil => rfl
  | cons q r ih =>
    obtain ⟨j, v⟩ := q
    rw [List.filter_cons, ih]
    simp only [lvdel, beq_nat]
    cases h1 : Nat.beq j i <;> cases h2 : Nat.beq (j + 1) i <;> cases h3 : vcat v <;> simp [vcat_iff, h3]
theorem lvdel2_eq (i : Nat) (l : List (Nat × Value)) : l.filter (fun q => !(q.1 == i) && (!(q.1 == i + 1) && !(q.1 + 1 == i && q.2.category == 2))) = lvdel2 i l := by
  induction l with
  | nil => rfl
  | cons q r ih =>
    obtain ⟨j, v⟩ := q
    rw [List.filter_cons, ih]
    simp only [lvdel2, beq_nat]
    cases h1 : Nat.beq j i <;> cases h4 : Nat.beq j (i + 1) <;> cases h2 : Nat.beq (j + 1) i <;> cases h3 : vcat v <;> simp [vcat_iff, h3]
theorem lvget_mem {l : List (Nat × Value)} {i : Nat} {v : Value} (h : lvget l i = some v) : (i, v) ∈ l := by
  induction l with
  | nil => cases h
  | cons q r ih =>
    obtain ⟨j, w⟩ := q
    unfold lvget at h
    cases hb : Nat.beq j i with
    | true =>
      rw [hb] at h
      have e := Nat.eq_of_beq_eq_true hb
      cases h
      rw [e]; exact List.mem_cons_self
    | false =>
      rw [hb] at h
      exact List.mem_cons_of_mem _ (ih h)
def lvsub : List (Nat × Value) → List (Nat × Value) → Prop
  | [], _ => True
  | (i, v) :: r, l => lvget l i = some v ∧ lvsub r l
theorem lvsub_has {ls : Array Slot} {nL : Nat} {l l' : List (Nat × Value)} (h : lv_has ls nL l) (hs : lvsub l' l) : lv_has ls nL l' := by
  refine ⟨h.1, h.2.1, ?_⟩
  induction l' with
  | nil => intro q hq; cases hq
  | cons q r ih =>
    obtain ⟨i, v⟩ := q
    intro q hq
    rcases List.mem_cons.mp hq with rfl | hq
    · exact h.2.2 _ (lvget_mem hs.1)
    · exact ih hs.2 q hq
theorem irem_eq (x y : Int32) : x - x / y * y = x % y := by
  apply Int32.toInt_inj.mp
  rw [Int32.toInt_sub, Int32.toInt_mul, Int32.toInt_div, Int32.toInt_mod, Int.bmod_mul_bmod, Int.sub_bmod_bmod]
  have h := Int.tmod_def x.toInt y.toInt
  rw [Int.mul_comm, ← h]
  have h2 := (x % y).toInt_bmod
  rw [Int32.toInt_mod] at h2
  exact h2
theorem lrem_eq (x y : Int64) : x - x / y * y = x % y := by
  apply Int64.toInt_inj.mp
  rw [Int64.toInt_sub, Int64.toInt_mul, Int64.toInt_div, Int64.toInt_mod, Int.bmod_mul_bmod, Int.sub_bmod_bmod]
  have h := Int.tmod_def x.toInt y.toInt
  rw [Int.mul_comm, ← h]
  have h2 := (x % y).toInt_bmod
  rw [Int64.toInt_mod] at h2
  exact h2
section Rows
variable {X : Ctx} {k n : Nat} {Q : Pq} {pc : Nat} {lv : List (Nat × Value)} {st : List Value} {h : Hp} {own : String} {cc : ByteArray} {nL : Nat} {ret : Option FieldType} {nm : String} {fr lo : Nat}
theorem w_sub {lv' : List (Nat × Value)} (hs : lvsub lv' lv) (K : Wj X k n Q pc lv' st h) : Wj X k n Q pc lv st h := by
  obtain ⟨p, l, e, R, s, m, args, below, meth, c, D, mc, ms⟩ := X
  exact fun h1 h2 ls H locs hl hR hL => K h1 h2 ls H locs (lvsub_has hl hs) hR hL
theorem w_heap {h' : Hp} (e : h' = h) (K : Wj X k n Q pc lv st h') : Wj X k n Q pc lv st h := e ▸ K
-- BY PROGRAM (gen_rows.py)
theorem w_iconst {z : Int} {v : Int32} (C : Cx X own cc nL ret nm fr lo)  (d : decode cc pc = .ok (.iconst z, 1)) (hv : Int32.ofInt z = v) (K : Wj X k n Q (pc + 1) lv (.int v :: st) h) : Wj X k n Q pc lv st h := by
  obtain ⟨p, l, e, R, s, m, args, below, meth, c, D, mc, ms⟩ := X
  exact fun h1 h2 ls H locs hl hR hL => lv_iconst C.1 C.2.1 d hv (K h1 h2 ls H locs hl hR hL)
theorem w_bipush {z : Int} {v : Int32} (C : Cx X own cc nL ret nm fr lo)  (d : decode cc pc = .ok (.bipush z, 2)) (hv : (Int8.ofInt z).toInt32 = v) (K : Wj X k n Q (pc + 2) lv (.int v :: st) h) : Wj X k n Q pc lv st h := by
  obtain ⟨p, l, e, R, s, m, args, below, meth, c, D, mc, ms⟩ := X
  exact fun h1 h2 ls H locs hl hR hL => lv_bipush C.1 C.2.1 d hv (K h1 h2 ls H locs hl hR hL)
theorem w_sipush {z : Int} {v : Int32} (C : Cx X own cc nL ret nm fr lo)  (d : decode cc pc = .ok (.sipush z, 3)) (hv : (Int16.ofInt z).toInt32 = v) (K : Wj X k n Q (pc + 3) lv (.int v :: st) h) : Wj X k n Q pc lv st h := by
  obtain ⟨p, l, e, R, s, m, args, below, meth, c, D, mc, ms⟩ := X
  exact fun h1 h2 ls H locs hl hR hL => lv_sipush C.1 C.2.1 d hv (K h1 h2 ls H locs hl hR hL)
theorem w_lconst {z : Fin 2} {v : Int64} (C : Cx X own cc nL ret nm fr lo)  (d : decode cc pc = .ok (.lconst z, 1)) (hv : Int64.ofNat (z : Nat) = v) (K : Wj X k n Q (pc + 1) lv (.long v :: st) h) : Wj X k n Q pc lv st h := by
  obtain ⟨p, l, e, R, s, m, args, below, meth, c, D, mc, ms⟩ := X
  exact fun h1 h2 ls H locs hl hR hL => lv_lconst C.1 C.2.1 d hv (K h1 h2 ls H locs hl hR hL)
theorem w_iload_n {i : Fin 4} {x : Int32} (C : Cx X own cc nL ret nm fr lo) (d : decode cc pc = .ok (.iload_n i, 1)) (hk : lvget lv (i : Nat) = some (.int x)) (K : Wj X k n Q (pc + 1) lv (.int x :: st) h) : Wj X k n Q pc lv st h := by
  obtain ⟨p, l, e, R, s, m, args, below, meth, c, D, mc, ms⟩ := X
  exact fun h1 h2 ls H locs hl hR hL => lv_iload_n C.1 C.2.1 d rfl (hl.2.2 _ (lvget_mem hk)) (K h1 h2 ls H locs hl hR hL)
theorem w_iload {i : Nat} {x : Int32} (C : Cx X own cc nL ret nm fr lo) (d : decode cc pc = .ok (.iload i, 2)) (hk : lvget lv i = some (.int x)) (K : Wj X k n Q (pc + 2) lv (.int x :: st) h) : Wj X k n Q pc lv st h := by
  obtain ⟨p, l, e, R, s, m, args, below, meth, c, D, mc, ms⟩ := X
  exact fun h1 h2 ls H locs hl hR hL => lv_iload C.1 C.2.1 d (hl.2.2 _ (lvget_mem hk)) (K h1 h2 ls H locs hl hR hL)
theorem w_istore_n {i : Fin 4} {x : Int32} (C : Cx X own cc nL ret nm fr lo) (d : decode cc pc = .ok (.istore_n i, 1)) (hi : (i : Nat) < nL) (K : Wj X k n Q (pc + 1) (((i : Nat), .int x) :: lvdel i lv) st h) : Wj X k n Q pc lv (.int x :: st) h := by
  obtain ⟨p, l, e, R, s, m, args, below, meth, c, D, mc, ms⟩ := X
  exact fun h1 h2 ls H locs hl hR hL => lv_istore_n C.1 C.2.1 d rfl hl (by rw [C.2.2.1]; exact hi) (by rw [lvdel_eq]) (fun ls hl => K h1 h2 ls H locs hl hR hL)
theorem w_istore {i : Nat} {x : Int32} (C : Cx X own cc nL ret nm fr lo) (d : decode cc pc = .ok (.istore i, 2)) (hi : i < nL) (K : Wj X k n Q (pc + 2) ((i, .int x) :: lvdel i lv) st h) : Wj X k n Q pc lv (.int x :: st) h := by
  obtain ⟨p, l, e, R, s, m, args, below, meth, c, D, mc, ms⟩ := X
  exact fun h1 h2 ls H locs hl hR hL => lv_istore C.1 C.2.1 d hl (by rw [C.2.2.1]; exact hi) (by rw [lvdel_eq]) (fun ls hl => K h1 h2 ls H locs hl hR hL)
theorem w_lload_n {i : Fin 4} {x : Int64} (C : Cx X own cc nL ret nm fr lo) (d : decode cc pc = .ok (.lload_n i, 1)) (hk : lvget lv (i : Nat) = some (.long x)) (K : Wj X k n Q (pc + 1) lv (.long x :: st) h) : Wj X k n Q pc lv st h := by
  obtain ⟨p, l, e, R, s, m, args, below, meth, c, D, mc, ms⟩ := X
  exact fun h1 h2 ls H locs hl hR hL => lv_lload_n C.1 C.2.1 d rfl (hl.2.2 _ (lvget_mem hk)) (K h1 h2 ls H locs hl hR hL)
theorem w_lload {i : Nat} {x : Int64} (C : Cx X own cc nL ret nm fr lo) (d : decode cc pc = .ok (.lload i, 2)) (hk : lvget lv i = some (.long x)) (K : Wj X k n Q (pc + 2) lv (.long x :: st) h) : Wj X k n Q pc lv st h := by
  obtain ⟨p, l, e, R, s, m, args, below, meth, c, D, mc, ms⟩ := X
  exact fun h1 h2 ls H locs hl hR hL => lv_lload C.1 C.2.1 d (hl.2.2 _ (lvget_mem hk)) (K h1 h2 ls H locs hl hR hL)
theorem w_lstore_n {i : Fin 4} {x : Int64} (C : Cx X own cc nL ret nm fr lo) (d : decode cc pc = .ok (.lstore_n i, 1)) (hi : (i : Nat) + 1 < nL) (K : Wj X k n Q (pc + 1) (((i : Nat), .long x) :: lvdel2 i lv) st h) : Wj X k n Q pc lv (.long x :: st) h := by
  obtain ⟨p, l, e, R, s, m, args, below, meth, c, D, mc, ms⟩ := X
  exact fun h1 h2 ls H locs hl hR hL => lv_lstore_n C.1 C.2.1 d rfl hl (by rw [C.2.2.1]; exact hi) (by rw [lvdel2_eq]) (fun ls hl => K h1 h2 ls H locs hl hR hL)
theorem w_lstore {i : Nat} {x : Int64} (C : Cx X own cc nL ret nm fr lo) (d : decode cc pc = .ok (.lstore i, 2)) (hi : i + 1 < nL) (K : Wj X k n Q (pc + 2) ((i, .long x) :: lvdel2 i lv) st h) : Wj X k n Q pc lv (.long x :: st) h := by
  obtain ⟨p, l, e, R, s, m, args, below, meth, c, D, mc, ms⟩ := X
  exact fun h1 h2 ls H locs hl hR hL => lv_lstore C.1 C.2.1 d hl (by rw [C.2.2.1]; exact hi) (by rw [lvdel2_eq]) (fun ls hl => K h1 h2 ls H locs hl hR hL)
theorem w_aload_n {i : Fin 4} {x : Nat} (C : Cx X own cc nL ret nm fr lo) (d : decode cc pc = .ok (.aload_n i, 1)) (hk : lvget lv (i : Nat) = some (.ref x)) (K : Wj X k n Q (pc + 1) lv (.ref x :: st) h) : Wj X k n Q pc lv st h := by
  obtain ⟨p, l, e, R, s, m, args, below, meth, c, D, mc, ms⟩ := X
  exact fun h1 h2 ls H locs hl hR hL => lv_aload_n C.1 C.2.1 d rfl (hl.2.2 _ (lvget_mem hk)) (K h1 h2 ls H locs hl hR hL)
theorem w_aload {i : Nat} {x : Nat} (C : Cx X own cc nL ret nm fr lo) (d : decode cc pc = .ok (.aload i, 2)) (hk : lvget lv i = some (.ref x)) (K : Wj X k n Q (pc + 2) lv (.ref x :: st) h) : Wj X k n Q pc lv st h := by
  obtain ⟨p, l, e, R, s, m, args, below, meth, c, D, mc, ms⟩ := X
  exact fun h1 h2 ls H locs hl hR hL => lv_aload C.1 C.2.1 d (hl.2.2 _ (lvget_mem hk)) (K h1 h2 ls H locs hl hR hL)
theorem w_astore_n {i : Fin 4} {x : Nat} (C : Cx X own cc nL ret nm fr lo) (d : decode cc pc = .ok (.astore_n i, 1)) (hi : (i : Nat) < nL) (K : Wj X k n Q (pc + 1) (((i : Nat), .ref x) :: lvdel i lv) st h) : Wj X k n Q pc lv (.ref x :: st) h := by
  obtain ⟨p, l, e, R, s, m, args, below, meth, c, D, mc, ms⟩ := X
  exact fun h1 h2 ls H locs hl hR hL => lv_astore_n C.1 C.2.1 d rfl hl (by rw [C.2.2.1]; exact hi) (by rw [lvdel_eq]) (fun ls hl => K h1 h2 ls H locs hl hR hL)
theorem w_astore {i : Nat} {x : Nat} (C : Cx X own cc nL ret nm fr lo) (d : decode cc pc = .ok (.astore i, 2)) (hi : i < nL) (K : Wj X k n Q (pc + 2) ((i, .ref x) :: lvdel i lv) st h) : Wj X k n Q pc lv (.ref x :: st) h := by
  obtain ⟨p, l, e, R, s, m, args, below, meth, c, D, mc, ms⟩ := X
  exact fun h1 h2 ls H locs hl hR hL => lv_astore C.1 C.2.1 d hl (by rw [C.2.2.1]; exact hi) (by rw [lvdel_eq]) (fun ls hl => K h1 h2 ls H locs hl hR hL)
theorem w_astore_nN {i : Fin 4} (C : Cx X own cc nL ret nm fr lo) (d : decode cc pc = .ok (.astore_n i, 1)) (hi : (i : Nat) < nL) (K : Wj X k n Q (pc + 1) (((i : Nat), .null) :: lvdel i lv) st h) : Wj X k n Q pc lv (.null :: st) h := by
  obtain ⟨p, l, e, R, s, m, args, below, meth, c, D, mc, ms⟩ := X
  exact fun h1 h2 ls H locs hl hR hL => lv_astore_nN C.1 C.2.1 d rfl hl (by rw [C.2.2.1]; exact hi) (by rw [lvdel_eq]) (fun ls hl => K h1 h2 ls H locs hl hR hL)
theorem w_astoreN {i : Nat} (C : Cx X own cc nL ret nm fr lo) (d : decode cc pc = .ok (.astore i, 2)) (hi : i < nL) (K : Wj X k n Q (pc + 2) ((i, .null) :: lvdel i lv) st h) : Wj X k n Q pc lv (.null :: st) h := by
  obtain ⟨p, l, e, R, s, m, args, below, meth, c, D, mc, ms⟩ := X
  exact fun h1 h2 ls H locs hl hR hL => lv_astoreN C.1 C.2.1 d hl (by rw [C.2.2.1]; exact hi) (by rw [lvdel_eq]) (fun ls hl => K h1 h2 ls H locs hl hR hL)
theorem w_aload_nN {i : Fin 4} (C : Cx X own cc nL ret nm fr lo) (d : decode cc pc = .ok (.aload_n i, 1)) (hk : lvget lv (i : Nat) = some .null) (K : Wj X k n Q (pc + 1) lv (.null :: st) h) : Wj X k n Q pc lv st h := by
  obtain ⟨p, l, e, R, s, m, args, below, meth, c, D, mc, ms⟩ := X
  exact fun h1 h2 ls H locs hl hR hL => lv_aload_nN C.1 C.2.1 d rfl (hl.2.2 _ (lvget_mem hk)) (K h1 h2 ls H locs hl hR hL)
theorem w_aloadN {i : Nat} (C : Cx X own cc nL ret nm fr lo) (d : decode cc pc = .ok (.aload i, 2)) (hk : lvget lv i = some .null) (K : Wj X k n Q (pc + 2) lv (.null :: st) h) : Wj X k n Q pc lv st h := by
  obtain ⟨p, l, e, R, s, m, args, below, meth, c, D, mc, ms⟩ := X
  exact fun h1 h2 ls H locs hl hR hL => lv_aloadN C.1 C.2.1 d (hl.2.2 _ (lvget_mem hk)) (K h1 h2 ls H locs hl hR hL)
theorem lvget_at {l : List (Nat × Value)} {i : Nat} {v : Value} (h : lvget l i = some v) : ∃ q : Nat, l[q]? = some (i, v) := List.getElem?_of_mem (lvget_mem h)
theorem w_iinc {i : Nat} {z : Int} {x : Int32} (C : Cx X own cc nL ret nm fr lo) (d : decode cc pc = .ok (.iinc i z, 3)) (hk : lvget lv i = some (.int x)) (hi : i < nL) (K : Wj X k n Q (pc + 3) ((i, .int (x + Int32.ofInt z)) :: lvdel i lv) st h) : Wj X k n Q pc lv st h := by
  obtain ⟨p, l, e, R, s, m, args, below, meth, c, D, mc, ms⟩ := X
  obtain ⟨q, hq⟩ := lvget_at hk
  exact fun h1 h2 ls H locs hl hR hL => lv_iinc C.1 C.2.1 d hl hq rfl (by rw [C.2.2.1]; exact hi) (by rw [lvdel_eq]) (fun ls hl => K h1 h2 ls H locs hl hR hL)
theorem w_iadd {x y : Int32} (C : Cx X own cc nL ret nm fr lo)  (d : decode cc pc = .ok (.iadd, 1))  (K : Wj X k n Q (pc + 1) lv (.int (x + y) :: st) h) : Wj X k n Q pc lv (.int y :: .int x :: st) h := by
  obtain ⟨p, l, e, R, s, m, args, below, meth, c, D, mc, ms⟩ := X
  exact fun h1 h2 ls H locs hl hR hL => lv_iadd C.1 C.2.1 d (K h1 h2 ls H locs hl hR hL)
theorem w_ladd {x y : Int64} (C : Cx X own cc nL ret nm fr lo)  (d : decode cc pc = .ok (.ladd, 1))  (K : Wj X k n Q (pc + 1) lv (.long (x + y) :: st) h) : Wj X k n Q pc lv (.long y :: .long x :: st) h := by
  obtain ⟨p, l, e, R, s, m, args, below, meth, c, D, mc, ms⟩ := X
  exact fun h1 h2 ls H locs hl hR hL => lv_ladd C.1 C.2.1 d (K h1 h2 ls H locs hl hR hL)
theorem w_isub {x y : Int32} (C : Cx X own cc nL ret nm fr lo)  (d : decode cc pc = .ok (.isub, 1))  (K : Wj X k n Q (pc + 1) lv (.int (x - y) :: st) h) : Wj X k n Q pc lv (.int y :: .int x :: st) h := by
  obtain ⟨p, l, e, R, s, m, args, below, meth, c, D, mc, ms⟩ := X
  exact fun h1 h2 ls H locs hl hR hL => lv_isub C.1 C.2.1 d (K h1 h2 ls H locs hl hR hL)
theorem w_lsub {x y : Int64} (C : Cx X own cc nL ret nm fr lo)  (d : decode cc pc = .ok (.lsub, 1))  (K : Wj X k n Q (pc + 1) lv (.long (x - y) :: st) h) : Wj X k n Q pc lv (.long y :: .long x :: st) h := by
  obtain ⟨p, l, e, R, s, m, args, below, meth, c, D, mc, ms⟩ := X
  exact fun h1 h2 ls H locs hl hR hL => lv_lsub C.1 C.2.1 d (K h1 h2 ls H locs hl hR hL)
theorem w_imul {x y : Int32} (C : Cx X own cc nL ret nm fr lo)  (d : decode cc pc = .ok (.imul, 1))  (K : Wj X k n Q (pc + 1) lv (.int (x * y) :: st) h) : Wj X k n Q pc lv (.int y :: .int x :: st) h := by
  obtain ⟨p, l, e, R, s, m, args, below, meth, c, D, mc, ms⟩ := X
  exact fun h1 h2 ls H locs hl hR hL => lv_imul C.1 C.2.1 d (K h1 h2 ls H locs hl hR hL)
theorem w_lmul {x y : Int64} (C : Cx X own cc nL ret nm fr lo)  (d : decode cc pc = .ok (.lmul, 1))  (K : Wj X k n Q (pc + 1) lv (.long (x * y) :: st) h) : Wj X k n Q pc lv (.long y :: .long x :: st) h := by
  obtain ⟨p, l, e, R, s, m, args, below, meth, c, D, mc, ms⟩ := X
  exact fun h1 h2 ls H locs hl hR hL => lv_lmul C.1 C.2.1 d (K h1 h2 ls H locs hl hR hL)
theorem w_iand {x y : Int32} (C : Cx X own cc nL ret nm fr lo)  (d : decode cc pc = .ok (.iand, 1))  (K : Wj X k n Q (pc + 1) lv (.int (x &&& y) :: st) h) : Wj X k n Q pc lv (.int y :: .int x :: st) h := by
  obtain ⟨p, l, e, R, s, m, args, below, meth, c, D, mc, ms⟩ := X
  exact fun h1 h2 ls H locs hl hR hL => lv_iand C.1 C.2.1 d (K h1 h2 ls H locs hl hR hL)
theorem w_land {x y : Int64} (C : Cx X own cc nL ret nm fr lo)  (d : decode cc pc = .ok (.land, 1))  (K : Wj X k n Q (pc + 1) lv (.long (x &&& y) :: st) h) : Wj X k n Q pc lv (.long y :: .long x :: st) h := by
  obtain ⟨p, l, e, R, s, m, args, below, meth, c, D, mc, ms⟩ := X
  exact fun h1 h2 ls H locs hl hR hL => lv_land C.1 C.2.1 d (K h1 h2 ls H locs hl hR hL)
theorem w_ior {x y : Int32} (C : Cx X own cc nL ret nm fr lo)  (d : decode cc pc = .ok (.ior, 1))  (K : Wj X k n Q (pc + 1) lv (.int (x ||| y) :: st) h) : Wj X k n Q pc lv (.int y :: .int x :: st) h := by
  obtain ⟨p, l, e, R, s, m, args, below, meth, c, D, mc, ms⟩ := X
  exact fun h1 h2 ls H locs hl hR hL => lv_ior C.1 C.2.1 d (K h1 h2 ls H locs hl hR hL)
theorem w_lor {x y : Int64} (C : Cx X own cc nL ret nm fr lo)  (d : decode cc pc = .ok (.lor, 1))  (K : Wj X k n Q (pc + 1) lv (.long (x ||| y) :: st) h) : Wj X k n Q pc lv (.long y :: .long x :: st) h := by
  obtain ⟨p, l, e, R, s, m, args, below, meth, c, D, mc, ms⟩ := X
  exact fun h1 h2 ls H locs hl hR hL => lv_lor C.1 C.2.1 d (K h1 h2 ls H locs hl hR hL)
theorem w_ixor {x y : Int32} (C : Cx X own cc nL ret nm fr lo)  (d : decode cc pc = .ok (.ixor, 1))  (K : Wj X k n Q (pc + 1) lv (.int (x ^^^ y) :: st) h) : Wj X k n Q pc lv (.int y :: .int x :: st) h := by
  obtain ⟨p, l, e, R, s, m, args, below, meth, c, D, mc, ms⟩ := X
  exact fun h1 h2 ls H locs hl hR hL => lv_ixor C.1 C.2.1 d (K h1 h2 ls H locs hl hR hL)
theorem w_lxor {x y : Int64} (C : Cx X own cc nL ret nm fr lo)  (d : decode cc pc = .ok (.lxor, 1))  (K : Wj X k n Q (pc + 1) lv (.long (x ^^^ y) :: st) h) : Wj X k n Q pc lv (.long y :: .long x :: st) h := by
  obtain ⟨p, l, e, R, s, m, args, below, meth, c, D, mc, ms⟩ := X
  exact fun h1 h2 ls H locs hl hR hL => lv_lxor C.1 C.2.1 d (K h1 h2 ls H locs hl hR hL)
theorem w_idiv {x y : Int32} (C : Cx X own cc nL ret nm fr lo)  (d : decode cc pc = .ok (.idiv, 1)) (hne : ¬ y = 0) (K : Wj X k n Q (pc + 1) lv (.int (x / y) :: st) h) : Wj X k n Q pc lv (.int y :: .int x :: st) h := by
  obtain ⟨p, l, e, R, s, m, args, below, meth, c, D, mc, ms⟩ := X
  exact fun h1 h2 ls H locs hl hR hL => lv_idiv C.1 C.2.1 d hne (K h1 h2 ls H locs hl hR hL)
theorem w_ldiv {x y : Int64} (C : Cx X own cc nL ret nm fr lo)  (d : decode cc pc = .ok (.ldiv, 1)) (hne : ¬ y = 0) (K : Wj X k n Q (pc + 1) lv (.long (x / y) :: st) h) : Wj X k n Q pc lv (.long y :: .long x :: st) h := by
  obtain ⟨p, l, e, R, s, m, args, below, meth, c, D, mc, ms⟩ := X
  exact fun h1 h2 ls H locs hl hR hL => lv_ldiv C.1 C.2.1 d hne (K h1 h2 ls H locs hl hR hL)
theorem w_irem {x y : Int32} (C : Cx X own cc nL ret nm fr lo) (d : decode cc pc = .ok (.irem, 1)) (hne : ¬ y = 0) (K : Wj X k n Q (pc + 1) lv (.int (x % y) :: st) h) : Wj X k n Q pc lv (.int y :: .int x :: st) h := by
  rw [← irem_eq] at K
  obtain ⟨p, l, e, R, s, m, args, below, meth, c, D, mc, ms⟩ := X
  exact fun h1 h2 ls H locs hl hR hL => lv_irem C.1 C.2.1 d hne (K h1 h2 ls H locs hl hR hL)
theorem w_lrem {x y : Int64} (C : Cx X own cc nL ret nm fr lo) (d : decode cc pc = .ok (.lrem, 1)) (hne : ¬ y = 0) (K : Wj X k n Q (pc + 1) lv (.long (x % y) :: st) h) : Wj X k n Q pc lv (.long y :: .long x :: st) h := by
  rw [← lrem_eq] at K
  obtain ⟨p, l, e, R, s, m, args, below, meth, c, D, mc, ms⟩ := X
  exact fun h1 h2 ls H locs hl hR hL => lv_lrem C.1 C.2.1 d hne (K h1 h2 ls H locs hl hR hL)
theorem w_ineg {x : Int32} (C : Cx X own cc nL ret nm fr lo)  (d : decode cc pc = .ok (.ineg, 1))  (K : Wj X k n Q (pc + 1) lv (.int (-x) :: st) h) : Wj X k n Q pc lv (.int x :: st) h := by
  obtain ⟨p, l, e, R, s, m, args, below, meth, c, D, mc, ms⟩ := X
  exact fun h1 h2 ls H locs hl hR hL => lv_ineg C.1 C.2.1 d (K h1 h2 ls H locs hl hR hL)
theorem w_lneg {x : Int64} (C : Cx X own cc nL ret nm fr lo)  (d : decode cc pc = .ok (.lneg, 1))  (K : Wj X k n Q (pc + 1) lv (.long (-x) :: st) h) : Wj X k n Q pc lv (.long x :: st) h := by
  obtain ⟨p, l, e, R, s, m, args, below, meth, c, D, mc, ms⟩ := X
  exact fun h1 h2 ls H locs hl hR hL => lv_lneg C.1 C.2.1 d (K h1 h2 ls H locs hl hR hL)
theorem w_ishl {x y : Int32} (C : Cx X own cc nL ret nm fr lo)  (d : decode cc pc = .ok (.ishl, 1))  (K : Wj X k n Q (pc + 1) lv (.int (x <<< (y &&& 31)) :: st) h) : Wj X k n Q pc lv (.int y :: .int x :: st) h := by
  obtain ⟨p, l, e, R, s, m, args, below, meth, c, D, mc, ms⟩ := X
  exact fun h1 h2 ls H locs hl hR hL => lv_ishl C.1 C.2.1 d (K h1 h2 ls H locs hl hR hL)
theorem w_ishr {x y : Int32} (C : Cx X own cc nL ret nm fr lo)  (d : decode cc pc = .ok (.ishr, 1))  (K : Wj X k n Q (pc + 1) lv (.int (x >>> (y &&& 31)) :: st) h) : Wj X k n Q pc lv (.int y :: .int x :: st) h := by
  obtain ⟨p, l, e, R, s, m, args, below, meth, c, D, mc, ms⟩ := X
  exact fun h1 h2 ls H locs hl hR hL => lv_ishr C.1 C.2.1 d (K h1 h2 ls H locs hl hR hL)
theorem w_iushr {x y : Int32} (C : Cx X own cc nL ret nm fr lo)  (d : decode cc pc = .ok (.iushr, 1))  (K : Wj X k n Q (pc + 1) lv (.int ((x.toUInt32 >>> (y.toUInt32 &&& Int32.toUInt32 31)).toInt32) :: st) h) : Wj X k n Q pc lv (.int y :: .int x :: st) h := by
  obtain ⟨p, l, e, R, s, m, args, below, meth, c, D, mc, ms⟩ := X
  exact fun h1 h2 ls H locs hl hR hL => lv_iushr C.1 C.2.1 d rfl (K h1 h2 ls H locs hl hR hL)
theorem w_i2l {x : Int32} (C : Cx X own cc nL ret nm fr lo)  (d : decode cc pc = .ok (.i2l, 1))  (K : Wj X k n Q (pc + 1) lv (.long x.toInt64 :: st) h) : Wj X k n Q pc lv (.int x :: st) h := by
  obtain ⟨p, l, e, R, s, m, args, below, meth, c, D, mc, ms⟩ := X
  exact fun h1 h2 ls H locs hl hR hL => lv_i2l C.1 C.2.1 d rfl (K h1 h2 ls H locs hl hR hL)
theorem w_l2i {x : Int64} (C : Cx X own cc nL ret nm fr lo)  (d : decode cc pc = .ok (.l2i, 1))  (K : Wj X k n Q (pc + 1) lv (.int x.toInt32 :: st) h) : Wj X k n Q pc lv (.long x :: st) h := by
  obtain ⟨p, l, e, R, s, m, args, below, meth, c, D, mc, ms⟩ := X
  exact fun h1 h2 ls H locs hl hR hL => lv_l2i C.1 C.2.1 d rfl (K h1 h2 ls H locs hl hR hL)
theorem w_i2c {x : Int32} (C : Cx X own cc nL ret nm fr lo)  (d : decode cc pc = .ok (.i2c, 1))  (K : Wj X k n Q (pc + 1) lv (.int (x.toUInt32 % 65536).toInt32 :: st) h) : Wj X k n Q pc lv (.int x :: st) h := by
  obtain ⟨p, l, e, R, s, m, args, below, meth, c, D, mc, ms⟩ := X
  exact fun h1 h2 ls H locs hl hR hL => lv_i2c C.1 C.2.1 d rfl (K h1 h2 ls H locs hl hR hL)
theorem w_dup {va : Value} (C : Cx X own cc nL ret nm fr lo)  (d : decode cc pc = .ok (.dup, 1)) (hva : va.category = 1) (K : Wj X k n Q (pc + 1) lv (va :: va :: st) h) : Wj X k n Q pc lv (va :: st) h := by
  obtain ⟨p, l, e, R, s, m, args, below, meth, c, D, mc, ms⟩ := X
  exact fun h1 h2 ls H locs hl hR hL => lv_dup C.1 C.2.1 d hva (K h1 h2 ls H locs hl hR hL)
theorem w_pop {va : Value} (C : Cx X own cc nL ret nm fr lo)  (d : decode cc pc = .ok (.pop, 1)) (hva : va.category = 1) (K : Wj X k n Q (pc + 1) lv st h) : Wj X k n Q pc lv (va :: st) h := by
  obtain ⟨p, l, e, R, s, m, args, below, meth, c, D, mc, ms⟩ := X
  exact fun h1 h2 ls H locs hl hR hL => lv_pop C.1 C.2.1 d hva (K h1 h2 ls H locs hl hR hL)
theorem w_pop2 {va : Value} (C : Cx X own cc nL ret nm fr lo)  (d : decode cc pc = .ok (.pop2, 1)) (hva : va.category = 2) (K : Wj X k n Q (pc + 1) lv st h) : Wj X k n Q pc lv (va :: st) h := by
  obtain ⟨p, l, e, R, s, m, args, below, meth, c, D, mc, ms⟩ := X
  exact fun h1 h2 ls H locs hl hR hL => lv_pop2_2 C.1 C.2.1 d hva (K h1 h2 ls H locs hl hR hL)
theorem w_dup_x1 {va vb : Value} (C : Cx X own cc nL ret nm fr lo)  (d : decode cc pc = .ok (.dup_x1, 1)) (hva : va.category = 1) (hvb : vb.category = 1) (K : Wj X k n Q (pc + 1) lv (va :: vb :: va :: st) h) : Wj X k n Q pc lv (va :: vb :: st) h := by
  obtain ⟨p, l, e, R, s, m, args, below, meth, c, D, mc, ms⟩ := X
  exact fun h1 h2 ls H locs hl hR hL => lv_dup_x1 C.1 C.2.1 d hva hvb (K h1 h2 ls H locs hl hR hL)
theorem w_dup2 {va vb : Value} (C : Cx X own cc nL ret nm fr lo)  (d : decode cc pc = .ok (.dup2, 1)) (hva : va.category = 1) (hvb : vb.category = 1) (K : Wj X k n Q (pc + 1) lv (va :: vb :: va :: vb :: st) h) : Wj X k n Q pc lv (va :: vb :: st) h := by
  obtain ⟨p, l, e, R, s, m, args, below, meth, c, D, mc, ms⟩ := X
  exact fun h1 h2 ls H locs hl hR hL => lv_dup2_11 C.1 C.2.1 d hva hvb (K h1 h2 ls H locs hl hR hL)
theorem w_dup2L {va : Value} (C : Cx X own cc nL ret nm fr lo)  (d : decode cc pc = .ok (.dup2, 1)) (hva : va.category = 2) (K : Wj X k n Q (pc + 1) lv (va :: va :: st) h) : Wj X k n Q pc lv (va :: st) h := by
  obtain ⟨p, l, e, R, s, m, args, below, meth, c, D, mc, ms⟩ := X
  exact fun h1 h2 ls H locs hl hR hL => lv_dup2_2 C.1 C.2.1 d hva (K h1 h2 ls H locs hl hR hL)
theorem w_null  (C : Cx X own cc nL ret nm fr lo)  (d : decode cc pc = .ok (.aconst_null, 1))  (K : Wj X k n Q (pc + 1) lv (.null :: st) h) : Wj X k n Q pc lv st h := by
  obtain ⟨p, l, e, R, s, m, args, below, meth, c, D, mc, ms⟩ := X
  exact fun h1 h2 ls H locs hl hR hL => lv_null C.1 C.2.1 d (K h1 h2 ls H locs hl hR hL)
theorem w_if_eq {x : Int32} {off : Int} {tgt : Nat} (C : Cx X own cc nL ret nm fr lo) (d : decode cc pc = .ok (.ifCond .eq off, 3)) (ht : (pc : Int) + off = (tgt : Int)) (K : (x = 0 → Wj X k n Q tgt lv st h) ∧ (¬ x = 0 → Wj X k n Q (pc + 3) lv st h)) : Wj X k n Q pc lv (.int x :: st) h := by
  obtain ⟨p, l, e, R, s, m, args, below, meth, c, D, mc, ms⟩ := X
  exact fun h1 h2 ls H locs hl hR hL => lv_if_eq C.1 C.2.1 d ht (fun q => K.1 q h1 h2 ls H locs hl hR hL) (fun q => K.2 q h1 h2 ls H locs hl hR hL)
theorem w_icmp_eq {x y : Int32} {off : Int} {tgt : Nat} (C : Cx X own cc nL ret nm fr lo) (d : decode cc pc = .ok (.if_icmp .eq off, 3)) (ht : (pc : Int) + off = (tgt : Int)) (K : (x = y → Wj X k n Q tgt lv st h) ∧ (¬ x = y → Wj X k n Q (pc + 3) lv st h)) : Wj X k n Q pc lv (.int y :: .int x :: st) h := by
  obtain ⟨p, l, e, R, s, m, args, below, meth, c, D, mc, ms⟩ := X
  exact fun h1 h2 ls H locs hl hR hL => lv_icmp_eq C.1 C.2.1 d ht (fun q => K.1 q h1 h2 ls H locs hl hR hL) (fun q => K.2 q h1 h2 ls H locs hl hR hL)
theorem w_if_ne {x : Int32} {off : Int} {tgt : Nat} (C : Cx X own cc nL ret nm fr lo) (d : decode cc pc = .ok (.ifCond .ne off, 3)) (ht : (pc : Int) + off = (tgt : Int)) (K : (¬ x = 0 → Wj X k n Q tgt lv st h) ∧ (x = 0 → Wj X k n Q (pc + 3) lv st h)) : Wj X k n Q pc lv (.int x :: st) h := by
  obtain ⟨p, l, e, R, s, m, args, below, meth, c, D, mc, ms⟩ := X
  exact fun h1 h2 ls H locs hl hR hL => lv_if_ne C.1 C.2.1 d ht (fun q => K.1 q h1 h2 ls H locs hl hR hL) (fun q => K.2 q h1 h2 ls H locs hl hR hL)
theorem w_icmp_ne {x y : Int32} {off : Int} {tgt : Nat} (C : Cx X own cc nL ret nm fr lo) (d : decode cc pc = .ok (.if_icmp .ne off, 3)) (ht : (pc : Int) + off = (tgt : Int)) (K : (¬ x = y → Wj X k n Q tgt lv st h) ∧ (x = y → Wj X k n Q (pc + 3) lv st h)) : Wj X k n Q pc lv (.int y :: .int x :: st) h := by
  obtain ⟨p, l, e, R, s, m, args, below, meth, c, D, mc, ms⟩ := X
  exact fun h1 h2 ls H locs hl hR hL => lv_icmp_ne C.1 C.2.1 d ht (fun q => K.1 q h1 h2 ls H locs hl hR hL) (fun q => K.2 q h1 h2 ls H locs hl hR hL)
theorem w_if_lt {x : Int32} {off : Int} {tgt : Nat} (C : Cx X own cc nL ret nm fr lo) (d : decode cc pc = .ok (.ifCond .lt off, 3)) (ht : (pc : Int) + off = (tgt : Int)) (K : (x < 0 → Wj X k n Q tgt lv st h) ∧ (¬ x < 0 → Wj X k n Q (pc + 3) lv st h)) : Wj X k n Q pc lv (.int x :: st) h := by
  obtain ⟨p, l, e, R, s, m, args, below, meth, c, D, mc, ms⟩ := X
  exact fun h1 h2 ls H locs hl hR hL => lv_if_lt C.1 C.2.1 d ht (fun q => K.1 q h1 h2 ls H locs hl hR hL) (fun q => K.2 q h1 h2 ls H locs hl hR hL)
theorem w_icmp_lt {x y : Int32} {off : Int} {tgt : Nat} (C : Cx X own cc nL ret nm fr lo) (d : decode cc pc = .ok (.if_icmp .lt off, 3)) (ht : (pc : Int) + off = (tgt : Int)) (K : (x < y → Wj X k n Q tgt lv st h) ∧ (¬ x < y → Wj X k n Q (pc + 3) lv st h)) : Wj X k n Q pc lv (.int y :: .int x :: st) h := by
  obtain ⟨p, l, e, R, s, m, args, below, meth, c, D, mc, ms⟩ := X
  exact fun h1 h2 ls H locs hl hR hL => lv_icmp_lt C.1 C.2.1 d ht (fun q => K.1 q h1 h2 ls H locs hl hR hL) (fun q => K.2 q h1 h2 ls H locs hl hR hL)
theorem w_if_ge {x : Int32} {off : Int} {tgt : Nat} (C : Cx X own cc nL ret nm fr lo) (d : decode cc pc = .ok (.ifCond .ge off, 3)) (ht : (pc : Int) + off = (tgt : Int)) (K : (0 ≤ x → Wj X k n Q tgt lv st h) ∧ (¬ 0 ≤ x → Wj X k n Q (pc + 3) lv st h)) : Wj X k n Q pc lv (.int x :: st) h := by
  obtain ⟨p, l, e, R, s, m, args, below, meth, c, D, mc, ms⟩ := X
  exact fun h1 h2 ls H locs hl hR hL => lv_if_ge C.1 C.2.1 d ht (fun q => K.1 q h1 h2 ls H locs hl hR hL) (fun q => K.2 q h1 h2 ls H locs hl hR hL)
theorem w_icmp_ge {x y : Int32} {off : Int} {tgt : Nat} (C : Cx X own cc nL ret nm fr lo) (d : decode cc pc = .ok (.if_icmp .ge off, 3)) (ht : (pc : Int) + off = (tgt : Int)) (K : (y ≤ x → Wj X k n Q tgt lv st h) ∧ (¬ y ≤ x → Wj X k n Q (pc + 3) lv st h)) : Wj X k n Q pc lv (.int y :: .int x :: st) h := by
  obtain ⟨p, l, e, R, s, m, args, below, meth, c, D, mc, ms⟩ := X
  exact fun h1 h2 ls H locs hl hR hL => lv_icmp_ge C.1 C.2.1 d ht (fun q => K.1 q h1 h2 ls H locs hl hR hL) (fun q => K.2 q h1 h2 ls H locs hl hR hL)
theorem w_if_gt {x : Int32} {off : Int} {tgt : Nat} (C : Cx X own cc nL ret nm fr lo) (d : decode cc pc = .ok (.ifCond .gt off, 3)) (ht : (pc : Int) + off = (tgt : Int)) (K : (0 < x → Wj X k n Q tgt lv st h) ∧ (¬ 0 < x → Wj X k n Q (pc + 3) lv st h)) : Wj X k n Q pc lv (.int x :: st) h := by
  obtain ⟨p, l, e, R, s, m, args, below, meth, c, D, mc, ms⟩ := X
  exact fun h1 h2 ls H locs hl hR hL => lv_if_gt C.1 C.2.1 d ht (fun q => K.1 q h1 h2 ls H locs hl hR hL) (fun q => K.2 q h1 h2 ls H locs hl hR hL)
theorem w_icmp_gt {x y : Int32} {off : Int} {tgt : Nat} (C : Cx X own cc nL ret nm fr lo) (d : decode cc pc = .ok (.if_icmp .gt off, 3)) (ht : (pc : Int) + off = (tgt : Int)) (K : (y < x → Wj X k n Q tgt lv st h) ∧ (¬ y < x → Wj X k n Q (pc + 3) lv st h)) : Wj X k n Q pc lv (.int y :: .int x :: st) h := by
  obtain ⟨p, l, e, R, s, m, args, below, meth, c, D, mc, ms⟩ := X
  exact fun h1 h2 ls H locs hl hR hL => lv_icmp_gt C.1 C.2.1 d ht (fun q => K.1 q h1 h2 ls H locs hl hR hL) (fun q => K.2 q h1 h2 ls H locs hl hR hL)
theorem w_if_le {x : Int32} {off : Int} {tgt : Nat} (C : Cx X own cc nL ret nm fr lo) (d : decode cc pc = .ok (.ifCond .le off, 3)) (ht : (pc : Int) + off = (tgt : Int)) (K : (x ≤ 0 → Wj X k n Q tgt lv st h) ∧ (¬ x ≤ 0 → Wj X k n Q (pc + 3) lv st h)) : Wj X k n Q pc lv (.int x :: st) h := by
  obtain ⟨p, l, e, R, s, m, args, below, meth, c, D, mc, ms⟩ := X
  exact fun h1 h2 ls H locs hl hR hL => lv_if_le C.1 C.2.1 d ht (fun q => K.1 q h1 h2 ls H locs hl hR hL) (fun q => K.2 q h1 h2 ls H locs hl hR hL)
theorem w_icmp_le {x y : Int32} {off : Int} {tgt : Nat} (C : Cx X own cc nL ret nm fr lo) (d : decode cc pc = .ok (.if_icmp .le off, 3)) (ht : (pc : Int) + off = (tgt : Int)) (K : (x ≤ y → Wj X k n Q tgt lv st h) ∧ (¬ x ≤ y → Wj X k n Q (pc + 3) lv st h)) : Wj X k n Q pc lv (.int y :: .int x :: st) h := by
  obtain ⟨p, l, e, R, s, m, args, below, meth, c, D, mc, ms⟩ := X
  exact fun h1 h2 ls H locs hl hR hL => lv_icmp_le C.1 C.2.1 d ht (fun q => K.1 q h1 h2 ls H locs hl hR hL) (fun q => K.2 q h1 h2 ls H locs hl hR hL)
theorem lcm_eq (x y : Int64) : lg_cmp x y = 0 ↔ x = y := by
  unfold lg_cmp
  simp only [gt_iff_lt, Int64.lt_iff_toInt_lt, Int64.le_iff_toInt_le, ← Int64.toInt_inj, Int32.lt_iff_toInt_lt, Int32.le_iff_toInt_le, ← Int32.toInt_inj]
  repeat' split
  all_goals (simp; try omega)
theorem w_lcmp_eq {x y : Int64} {off : Int} {tgt : Nat} (C : Cx X own cc nL ret nm fr lo) (d0 : decode cc pc = .ok (.lcmp, 1)) (d : decode cc (pc + 1) = .ok (.ifCond .eq off, 3)) (ht : ((pc + 1 : Nat) : Int) + off = (tgt : Int)) (K : (x = y → Wj X k n Q tgt lv st h) ∧ (¬ x = y → Wj X k n Q (pc + 4) lv st h)) : Wj X k n Q pc lv (.long y :: .long x :: st) h := by
  obtain ⟨p, l, e, R, s, m, args, below, meth, c, D, mc, ms⟩ := X
  exact fun h1 h2 ls H locs hl hR hL => W.lcmp C.1 C.2.1 d0 (lv_if_eq C.1 C.2.1 d ht (fun q => K.1 (by have := lcm_eq x y; simp_all) h1 h2 ls H locs hl hR hL) (fun q => K.2 (by have := lcm_eq x y; simp_all) h1 h2 ls H locs hl hR hL))
theorem lcm_ne (x y : Int64) : ¬ lg_cmp x y = 0 ↔ ¬ x = y := by
  unfold lg_cmp
  simp only [gt_iff_lt, Int64.lt_iff_toInt_lt, Int64.le_iff_toInt_le, ← Int64.toInt_inj, Int32.lt_iff_toInt_lt, Int32.le_iff_toInt_le, ← Int32.toInt_inj]
  repeat' split
  all_goals (simp; try omega)
theorem w_lcmp_ne {x y : Int64} {off : Int} {tgt : Nat} (C : Cx X own cc nL ret nm fr lo) (d0 : decode cc pc = .ok (.lcmp, 1)) (d : decode cc (pc + 1) = .ok (.ifCond .ne off, 3)) (ht : ((pc + 1 : Nat) : Int) + off = (tgt : Int)) (K : (¬ x = y → Wj X k n Q tgt lv st h) ∧ (x = y → Wj X k n Q (pc + 4) lv st h)) : Wj X k n Q pc lv (.long y :: .long x :: st) h := by
  obtain ⟨p, l, e, R, s, m, args, below, meth, c, D, mc, ms⟩ := X
  exact fun h1 h2 ls H locs hl hR hL => W.lcmp C.1 C.2.1 d0 (lv_if_ne C.1 C.2.1 d ht (fun q => K.1 (by have := lcm_ne x y; simp_all) h1 h2 ls H locs hl hR hL) (fun q => K.2 (by have := lcm_ne x y; simp_all) h1 h2 ls H locs hl hR hL))
theorem lcm_lt (x y : Int64) : lg_cmp x y < 0 ↔ x < y := by
  unfold lg_cmp
  simp only [gt_iff_lt, Int64.lt_iff_toInt_lt, Int64.le_iff_toInt_le, ← Int64.toInt_inj, Int32.lt_iff_toInt_lt, Int32.le_iff_toInt_le, ← Int32.toInt_inj]
  repeat' split
  all_goals (simp; try omega)
theorem w_lcmp_lt {x y : Int64} {off : Int} {tgt : Nat} (C : Cx X own cc nL ret nm fr lo) (d0 : decode cc pc = .ok (.lcmp, 1)) (d : decode cc (pc + 1) = .ok (.ifCond .lt off, 3)) (ht : ((pc + 1 : Nat) : Int) + off = (tgt : Int)) (K : (x < y → Wj X k n Q tgt lv st h) ∧ (¬ x < y → Wj X k n Q (pc + 4) lv st h)) : Wj X k n Q pc lv (.long y :: .long x :: st) h := by
  obtain ⟨p, l, e, R, s, m, args, below, meth, c, D, mc, ms⟩ := X
  exact fun h1 h2 ls H locs hl hR hL => W.lcmp C.1 C.2.1 d0 (lv_if_lt C.1 C.2.1 d ht (fun q => K.1 (by have := lcm_lt x y; simp_all) h1 h2 ls H locs hl hR hL) (fun q => K.2 (by have := lcm_lt x y; simp_all) h1 h2 ls H locs hl hR hL))
theorem lcm_ge (x y : Int64) : 0 ≤ lg_cmp x y ↔ y ≤ x := by
  unfold lg_cmp
  simp only [gt_iff_lt, Int64.lt_iff_toInt_lt, Int64.le_iff_toInt_le, ← Int64.toInt_inj, Int32.lt_iff_toInt_lt, Int32.le_iff_toInt_le, ← Int32.toInt_inj]
  repeat' split
  all_goals (simp; try omega)
theorem w_lcmp_ge {x y : Int64} {off : Int} {tgt : Nat} (C : Cx X own cc nL ret nm fr lo) (d0 : decode cc pc = .ok (.lcmp, 1)) (d : decode cc (pc + 1) = .ok (.ifCond .ge off, 3)) (ht : ((pc + 1 : Nat) : Int) + off = (tgt : Int)) (K : (y ≤ x → Wj X k n Q tgt lv st h) ∧ (¬ y ≤ x → Wj X k n Q (pc + 4) lv st h)) : Wj X k n Q pc lv (.long y :: .long x :: st) h := by
  obtain ⟨p, l, e, R, s, m, args, below, meth, c, D, mc, ms⟩ := X
  exact fun h1 h2 ls H locs hl hR hL => W.lcmp C.1 C.2.1 d0 (lv_if_ge C.1 C.2.1 d ht (fun q => K.1 (by have := lcm_ge x y; simp_all) h1 h2 ls H locs hl hR hL) (fun q => K.2 (by have := lcm_ge x y; simp_all) h1 h2 ls H locs hl hR hL))
theorem lcm_gt (x y : Int64) : 0 < lg_cmp x y ↔ y < x := by
  unfold lg_cmp
  simp only [gt_iff_lt, Int64.lt_iff_toInt_lt, Int64.le_iff_toInt_le, ← Int64.toInt_inj, Int32.lt_iff_toInt_lt, Int32.le_iff_toInt_le, ← Int32.toInt_inj]
  repeat' split
  all_goals (simp; try omega)
theorem w_lcmp_gt {x y : Int64} {off : Int} {tgt : Nat} (C : Cx X own cc nL ret nm fr lo) (d0 : decode cc pc = .ok (.lcmp, 1)) (d : decode cc (pc + 1) = .ok (.ifCond .gt off, 3)) (ht : ((pc + 1 : Nat) : Int) + off = (tgt : Int)) (K : (y < x → Wj X k n Q tgt lv st h) ∧ (¬ y < x → Wj X k n Q (pc + 4) lv st h)) : Wj X k n Q pc lv (.long y :: .long x :: st) h := by
  obtain ⟨p, l, e, R, s, m, args, below, meth, c, D, mc, ms⟩ := X
  exact fun h1 h2 ls H locs hl hR hL => W.lcmp C.1 C.2.1 d0 (lv_if_gt C.1 C.2.1 d ht (fun q => K.1 (by have := lcm_gt x y; simp_all) h1 h2 ls H locs hl hR hL) (fun q => K.2 (by have := lcm_gt x y; simp_all) h1 h2 ls H locs hl hR hL))
theorem lcm_le (x y : Int64) : lg_cmp x y ≤ 0 ↔ x ≤ y := by
  unfold lg_cmp
  simp only [gt_iff_lt, Int64.lt_iff_toInt_lt, Int64.le_iff_toInt_le, ← Int64.toInt_inj, Int32.lt_iff_toInt_lt, Int32.le_iff_toInt_le, ← Int32.toInt_inj]
  repeat' split
  all_goals (simp; try omega)
theorem w_lcmp_le {x y : Int64} {off : Int} {tgt : Nat} (C : Cx X own cc nL ret nm fr lo) (d0 : decode cc pc = .ok (.lcmp, 1)) (d : decode cc (pc + 1) = .ok (.ifCond .le off, 3)) (ht : ((pc + 1 : Nat) : Int) + off = (tgt : Int)) (K : (x ≤ y → Wj X k n Q tgt lv st h) ∧ (¬ x ≤ y → Wj X k n Q (pc + 4) lv st h)) : Wj X k n Q pc lv (.long y :: .long x :: st) h := by
  obtain ⟨p, l, e, R, s, m, args, below, meth, c, D, mc, ms⟩ := X
  exact fun h1 h2 ls H locs hl hR hL => W.lcmp C.1 C.2.1 d0 (lv_if_le C.1 C.2.1 d ht (fun q => K.1 (by have := lcm_le x y; simp_all) h1 h2 ls H locs hl hR hL) (fun q => K.2 (by have := lcm_le x y; simp_all) h1 h2 ls H locs hl hR hL))
theorem w_goto {off : Int} {tgt : Nat} (C : Cx X own cc nL ret nm fr lo) (d : decode cc pc = .ok (.goto off, 3)) (ht : (pc : Int) + off = (tgt : Int)) (K : Wj X k n Q tgt lv st h) : Wj X k n Q pc lv st h := by
  obtain ⟨p, l, e, R, s, m, args, below, meth, c, D, mc, ms⟩ := X
  exact fun h1 h2 ls H locs hl hR hL => lv_goto C.1 C.2.1 d ht (K h1 h2 ls H locs hl hR hL)
theorem w_ifnonnull {x : Nat} {off : Int} {tgt : Nat} (C : Cx X own cc nL ret nm fr lo) (d : decode cc pc = .ok (.ifnonnull off, 3)) (ht : (pc : Int) + off = (tgt : Int)) (K : Wj X k n Q tgt lv st h) : Wj X k n Q pc lv (.ref x :: st) h := by
  obtain ⟨p, l, e, R, s, m, args, below, meth, c, D, mc, ms⟩ := X
  exact fun h1 h2 ls H locs hl hR hL => lv_ifnonnull C.1 C.2.1 d ht (K h1 h2 ls H locs hl hR hL)
theorem w_ifnonnullN {off : Int} (C : Cx X own cc nL ret nm fr lo) (d : decode cc pc = .ok (.ifnonnull off, 3)) (K : Wj X k n Q (pc + 3) lv st h) : Wj X k n Q pc lv (.null :: st) h := by
  obtain ⟨p, l, e, R, s, m, args, below, meth, c, D, mc, ms⟩ := X
  exact fun h1 h2 ls H locs hl hR hL => lv_ifnonnullN C.1 C.2.1 d (K h1 h2 ls H locs hl hR hL)
theorem w_ldc {idx : Nat} {v : Int32} (C : Cx X own cc nL ret nm fr lo) (w : Cond.constant own idx v ∈ gwd) (d : decode cc pc = .ok (.ldc idx, 2)) (K : Wj X k n Q (pc + 2) lv (.int v :: st) h) : Wj X k n Q pc lv st h := by
  obtain ⟨p, l, e, R, s, m, args, below, meth, c, D, mc, ms⟩ := X
  exact fun h1 h2 ls H locs hl hR hL => lv_ldc C.1 C.2.1 C.2.2.2.1 (C.2.2.2.2.1 _ w) d (K h1 h2 ls H locs hl hR hL)
theorem w_ldcw {idx : Nat} {v : Int32} (C : Cx X own cc nL ret nm fr lo) (w : Cond.constant own idx v ∈ gwd) (d : decode cc pc = .ok (.ldc_w idx, 3)) (K : Wj X k n Q (pc + 3) lv (.int v :: st) h) : Wj X k n Q pc lv st h := by
  obtain ⟨p, l, e, R, s, m, args, below, meth, c, D, mc, ms⟩ := X
  exact fun h1 h2 ls H locs hl hR hL => lv_ldcw C.1 C.2.1 C.2.2.2.1 (C.2.2.2.2.1 _ w) d (K h1 h2 ls H locs hl hR hL)
theorem w_ldc2 {idx : Nat} {v : Int64} (C : Cx X own cc nL ret nm fr lo) (w : Cond.constantLong own idx v ∈ gwd) (d : decode cc pc = .ok (.ldc2_w idx, 3)) (K : Wj X k n Q (pc + 3) lv (.long v :: st) h) : Wj X k n Q pc lv st h := by
  obtain ⟨p, l, e, R, s, m, args, below, meth, c, D, mc, ms⟩ := X
  exact fun h1 h2 ls H locs hl hR hL => lv_ldc2 C.1 C.2.1 C.2.2.2.1 (C.2.2.2.2.1 _ w) d (K h1 h2 ls H locs hl hR hL)
theorem w_iret {x : Int32} (C : Cx X own cc nL (some .int) nm fr lo) (d : decode cc pc = .ok (.ireturn, 1)) (K : Q (some (.int x)) h) : Wj X k n Q pc lv [.int x] h := by
  obtain ⟨p, l, e, R, s, m, args, below, meth, c, D, mc, ms⟩ := X
  obtain ⟨hx, hb, hml, hown, hts, hK, hr, hlk, hnm⟩ := C
  exact fun h1 h2 ls H locs hl hR hL => W.widen h1 h2 (W.iret hx hb hr (fun t ht _ => ⟨_, h, rfl, K, by rw [ht]; exact hR⟩) hL d hlk)
theorem w_lret {x : Int64} (C : Cx X own cc nL (some .long) nm fr lo) (d : decode cc pc = .ok (.lreturn, 1)) (K : Q (some (.long x)) h) : Wj X k n Q pc lv [.long x] h := by
  obtain ⟨p, l, e, R, s, m, args, below, meth, c, D, mc, ms⟩ := X
  obtain ⟨hx, hb, hml, hown, hts, hK, hr, hlk, hnm⟩ := C
  exact fun h1 h2 ls H locs hl hR hL => W.widen h1 h2 (W.lret hx hb hr (fun t ht _ => ⟨_, h, rfl, K, by rw [ht]; exact hR⟩) hL d hlk)
theorem w_zret {x : Int32} (C : Cx X own cc nL (some .boolean) nm fr lo) (d : decode cc pc = .ok (.ireturn, 1)) (hz : x = 0 ∨ x = 1) (K : Q (some (.int x)) h) : Wj X k n Q pc lv [.int x] h := by
  obtain ⟨p, l, e, R, s, m, args, below, meth, c, D, mc, ms⟩ := X
  obtain ⟨hx, hb, hml, hown, hts, hK, hr, hlk, hnm⟩ := C
  have hn : narrow .boolean (.int x) = .int x := by rcases hz with rfl | rfl <;> rfl
  exact fun h1 h2 ls H locs hl hR hL => W.widen h1 h2 (W.zret hx hb hr hn (fun t ht _ => ⟨_, h, rfl, K, by rw [ht]; exact hR⟩) hL d hlk)
theorem w_vret (C : Cx X own cc nL none nm fr lo) (d : decode cc pc = .ok (.return_, 1)) (K : Q none h) : Wj X k n Q pc lv [] h := by
  obtain ⟨p, l, e, R, s, m, args, below, meth, c, D, mc, ms⟩ := X
  obtain ⟨hx, hb, hml, hown, hts, hK, hr, hlk, hnm⟩ := C
  exact fun h1 h2 ls H locs hl hR hL => W.widen h1 h2 (W.vret hx hb hr (fun t ht _ => ⟨_, h, rfl, K, by rw [ht]; exact hR⟩) hL d hlk)
theorem w_aret {x : Nat} {on : String} (C : Cx X own cc nL (some (.object on)) nm fr lo) (d : decode cc pc = .ok (.areturn, 1)) (K : Q (some (.ref x)) h) : Wj X k n Q pc lv [.ref x] h := by
  obtain ⟨p, l, e, R, s, m, args, below, meth, c, D, mc, ms⟩ := X
  obtain ⟨hx, hb, hml, hown, hts, hK, hr, hlk, hnm⟩ := C
  exact fun h1 h2 ls H locs hl hR hL => W.widen h1 h2 (W.aret hx hb hr (Or.inl ⟨_, rfl⟩) (Or.inr ⟨_, rfl⟩) (fun t ht _ => ⟨_, h, rfl, K, by rw [ht]; exact hR⟩) hL d hlk)
end Rows
end
section
-- fields, arrays, new cells, calls over the small heap
def FL (own : String) (idx c f : Nat) : Prop := ∃ r, vwCl[c]? = some r ∧ f < r.2.2 ∧ Cond.fieldLink own idx (r.2.1 f).1 (r.2.1 f).2.1 (r.2.1 f).2.2.1 ∈ gwd
def tyOK (t : Nat) (ty : FieldType) : Prop := (t = 0 → ty = .int) ∧ (t = 1 → ty = .long) ∧ (t = 2 → (∃ o, ty = .object o) ∨ ∃ e, ty = .array e) ∧ t < 3
def ClF (c : Nat) (r : vw_C) : Prop := (∀ w ∈ u_ws r.1 r.2.1 r.2.2, w ∈ gwd) ∧ (∀ f, f < r.2.2 → parseFieldDescriptor (r.2.1 f).2.2.1 = some (tyF c f)) ∧ (∀ a, a < r.2.2 → ∀ b, b < r.2.2 → a ≠ b → (r.2.1 a).2.1 ≠ (r.2.1 b).2.1) ∧ ∀ f, f < r.2.2 → tyOK (fty c f) (tyF c f)
def tyB (t : Nat) (ty : FieldType) : Bool := match t, ty with
  | 0, .int => true
  | 1, .long => true
  | 2, .object _ => true
  | 2, .array _ => true
  | _, _ => false
theorem tyB_ok {t : Nat} {ty : FieldType} (h : tyB t ty = true) : tyOK t ty := by
  unfold tyB at h
  split at h
  · exact ⟨fun _ => rfl, fun e => (by cases e), fun e => (by cases e), by omega⟩
  · exact ⟨fun e => (by cases e), fun _ => rfl, fun e => (by cases e), by omega⟩
  · exact ⟨fun e => (by cases e), fun e => (by cases e), fun _ => Or.inl ⟨_, rfl⟩, by omega⟩
  · exact ⟨fun e => (by cases e), fun e => (by cases e), fun _ => Or.inr ⟨_, rfl⟩, by omega⟩
  · cases h
theorem tyB_all : ∀ c, c < 11 → ∀ f, f < (vwCl.getD c ("", TX0, 0)).2.2 → tyB (fty c f) (tyF c f) = true := by decide +kernel
theorem clF : ∀ (c : Nat) (r : vw_C), vwCl[c]? = some r → ClF c r := by
  intro c r h
  have hb : ∀ f, f < r.2.2 → tyOK (fty c f) (tyF c f) := by
    intro f hf
    have hc : c < 11 := (List.getElem?_eq_some_iff.mp h).1
    refine tyB_ok (tyB_all c hc f ?_)
    have e : vwCl.getD c ("", TX0, 0) = r := by rw [List.getD_eq_getElem?_getD, h]; rfl
    rw [e]; exact hf
  match c, h, hb with
  | 0, h, hb => cases h; exact ⟨uwX0, tyX0_ok, nmX0, hb⟩
  | 1, h, hb => cases h; exact ⟨uwX1, tyX1_ok, nmX1, hb⟩
  | 2, h, hb => cases h; exact ⟨uwX2, tyX2_ok, nmX2, hb⟩
  | 3, h, hb => cases h; exact ⟨uwX3, tyX3_ok, nmX3, hb⟩
  | 4, h, hb => cases h; exact ⟨uwX4, tyX4_ok, nmX4, hb⟩
  | 5, h, hb => cases h; exact ⟨uwX5, tyX5_ok, nmX5, hb⟩
  | 6, h, hb => cases h; exact ⟨uwX6, tyX6_ok, nmX6, hb⟩
  | 7, h, hb => cases h; exact ⟨uwX7, tyX7_ok, nmX7, hb⟩
  | 8, h, hb => cases h; exact ⟨uwX8, tyX8_ok, nmX8, hb⟩
  | 9, h, hb => cases h; exact ⟨uwX9, tyX9_ok, nmX9, hb⟩
  | 10, h, hb => cases h; exact ⟨uwX10, tyX10_ok, nmX10, hb⟩
  | c + 11, h, hb => simp [vwCl] at h
/-- h' is h with one place of a's cell new -/
def Upd (h h' : Hp) (a f t : Nat) (v : Value) : Prop := hn h' = hn h ∧ (∀ b, kd h' b = kd h b) ∧ (∀ b, ln h' b = ln h b) ∧ (∀ b, b ≠ a → ∀ j, gi h' b j = gi h b j ∧ gl h' b j = gl h b j ∧ gr h' b j = gr h b j) ∧ fv h' a f t = v ∧ ∀ j, j ≠ f → ∀ t, fv h' a j t = fv h a j t
theorem upd_si (h : Hp) (a f : Nat) (x : Int32) : Upd h (si h a f x) a f 0 (.int x) := by
  refine ⟨rfl, fun _ => rfl, fun _ => rfl, fun b hb j => ⟨?_, rfl, rfl⟩, ?_, fun j hj t => ?_⟩
  · rw [gi_si, if_neg (fun e => hb e.1)]
  · show Value.int (gi (si h a f x) a f) = _
    rw [gi_si, if_pos ⟨rfl, rfl⟩]
  · unfold fv
    split
    · rw [gi_si, if_neg (fun e => hj e.2)]
    · rfl
    · rfl
theorem upd_sl (h : Hp) (a f : Nat) (x : Int64) : Upd h (sl h a f x) a f 1 (.long x) := by
  refine ⟨rfl, fun _ => rfl, fun _ => rfl, fun b hb j => ⟨rfl, ?_, rfl⟩, ?_, fun j hj t => ?_⟩
  · rw [gl_sl, if_neg (fun e => hb e.1)]
  · show Value.long (gl (sl h a f x) a f) = _
    rw [gl_sl, if_pos ⟨rfl, rfl⟩]
  · unfold fv
    split
    · rfl
    · rw [gl_sl, if_neg (fun e => hj e.2)]
    · rfl
theorem upd_sr (h : Hp) (a f : Nat) (x : Option Nat) : Upd h (sr h a f x) a f 2 (va_rf x) := by
  refine ⟨rfl, fun _ => rfl, fun _ => rfl, fun b hb j => ⟨rfl, rfl, ?_⟩, ?_, fun j hj t => ?_⟩
  · rw [gr_sr, if_neg (fun e => hb e.1)]
  · show va_rf (gr (sr h a f x) a f) = _
    rw [gr_sr, if_pos ⟨rfl, rfl⟩]
  · unfold fv
    split
    · rfl
    · rfl
    · rw [gr_sr, if_neg (fun e => hj e.2)]
theorem RelH.off {D : Dt} {h h' : Hp} {H H' : Heap} {a : Nat} (hR : RelH D h H) (ha : kd h a ≠ 0) (e2 : H'.size = H.size) (e3 : ∀ q : Nat, q ≠ a → H'[q]? = H[q]?) (u1 : hn h' = hn h) (u2 : ∀ b, kd h' b = kd h b) (u3 : ∀ b, b ≠ a → ln h' b = ln h b) (u4 : ∀ b, b ≠ a → ∀ j, gi h' b j = gi h b j ∧ gl h' b j = gl h b j ∧ gr h' b j = gr h b j) (hc : cellR D h' H' a) : RelH D h' H' := by
  obtain ⟨r1, r2, r3, r4⟩ := hR
  refine ⟨by rw [e2, u1]; exact r1, by rw [u1]; exact r2, fun q hq => ?_, fun b hb => ?_⟩
  · rw [e3 q (fun e => by have := (r4 a ha).1; omega)]; exact r3 q hq
  · rw [u2] at hb
    obtain ⟨b1, b2, b3⟩ := r4 b hb
    refine ⟨b1, by rw [u1]; exact b2, ?_⟩
    by_cases hba : b = a
    · rw [hba]; exact hc
    · exact b3.kept (e3 b hba) (u2 b) (u3 b hba) (fun j => (u4 b hba j).1) (fun j => (u4 b hba j).2.1) (fun j => (u4 b hba j).2.2)
theorem vwCl_lt {c : Nat} {r : vw_C} (h : vwCl[c]? = some r) : c < 11 := (List.getElem?_eq_some_iff.mp h).1
theorem RelH.put {D : Dt} {h h' : Hp} {H H' : Heap} {a c f : Nat} {r : vw_C} {v : Value} {cell : Cell} (hR : RelH D h H) (hk : kd h a = c + 1) (hc : vwCl[c]? = some r) (hf : f < r.2.2) (hap : ∀ x y, x < r.2.2 → y < r.2.2 → x ≠ y → D.1.2 c x ≠ D.1.2 c y)
    (q1 : H[a]? = some cell) (e1 : H'[a]? = some (cell.setSlot (D.1.2 c f) v)) (e2 : H'.size = H.size) (e3 : ∀ q : Nat, q ≠ a → H'[q]? = H[q]?) (u : Upd h h' a f (fty c f) v) : RelH D h' H' := by
  obtain ⟨u1, u2, u3, u4, u5, u6⟩ := u
  have hlt := vwCl_lt hc
  refine hR.off (by omega) e2 e3 u1 u2 (fun b _ => u3 b) u4 ⟨fun c' r' hk' hc' => ?_, fun h9 => ?_, fun h9 => ?_, fun h9 => ?_, fun h9 => ?_, fun h9 => ?_⟩
  · rw [u2, hk] at hk'
    have ec : c' = c := by omega
    subst ec
    have er : r' = r := Option.some.inj (hc'.symm.trans hc)
    subst er
    obtain ⟨cell', p1, p2, p3, p4⟩ := (hR.2.2.2 a (by omega)).2.2.1 _ _ hk hc
    have ecl : cell' = cell := Option.some.inj (p1.symm.trans q1)
    subst ecl
    refine t_OB.to (V := updV (fun j => fv h a j (fty c' j)) f v) ⟨_, e1, p2, p3, t_set p4 hap hf v⟩ (fun j hj => ?_)
    unfold updV
    by_cases hjf : j = f
    · subst hjf; simp [u5]
    · simp [hjf, u6 j hjf]
  all_goals (rw [u2, hk] at h9; omega)
section HeapRows
variable {X : Ctx} {k n : Nat} {Q : Pq} {pc : Nat} {lv : List (Nat × Value)} {st : List Value} {h : Hp} {own : String} {cc : ByteArray} {nL : Nat} {ret : Option FieldType} {nm : String} {fr lo : Nat} {a c f idx : Nat}
theorem w_get0 (C : Cx X own cc nL ret nm fr lo) (F : FL own idx c f) (hk : kd h a = c + 1) (d : decode cc pc = .ok (.getfield idx, 3)) (K : Wj X k n Q (pc + 3) lv (fv h a f (fty c f) :: st) h) : Wj X k n Q pc lv (.ref a :: st) h := by
  obtain ⟨p, l, e, R, s, m, args, below, meth, c0, D, mc, ms⟩ := X
  intro h1 h2 ls H locs hl hR hL
  obtain ⟨r, hc, hkN, hlink⟩ := F
  obtain ⟨hx, hb, hml, hown, hts, hK, hr⟩ := C
  obtain ⟨hin, hty, hnm, -⟩ := clF c r hc
  obtain ⟨cell, q1, q2, q3, q4⟩ := (hR.2.2.2 a (by omega)).2.2.1 _ _ hk hc
  obtain ⟨hS, hfc, kC, hkC, hkind⟩ := hK.1.1 c r hc
  obtain ⟨cf, kf, fi, fd, hi, hsl⟩ := hS f hkN
  refine W.getf hx hb hown (hts _ hlink) hi (u_facts hfc hkC (u_lays hts hin hkN) hi).1 q1 (by rw [q3]; exact fun h => by cases h) (v := fv h a f (fty c f)) ?_ rfl rfl d (K h1 h2 ls H locs hl hR hL)
  rw [hsl, q4 f hkN]
theorem w_getI (C : Cx X own cc nL ret nm fr lo) (F : FL own idx c f) (ht : fty c f = 0) (d : decode cc pc = .ok (.getfield idx, 3)) (hk : kd h a = c + 1) (K : Wj X k n Q (pc + 3) lv (.int (gi h a f) :: st) h) : Wj X k n Q pc lv (.ref a :: st) h := w_get0 C F hk d (by rw [ht]; exact K)
theorem w_getL (C : Cx X own cc nL ret nm fr lo) (F : FL own idx c f) (ht : fty c f = 1) (d : decode cc pc = .ok (.getfield idx, 3)) (hk : kd h a = c + 1) (K : Wj X k n Q (pc + 3) lv (.long (gl h a f) :: st) h) : Wj X k n Q pc lv (.ref a :: st) h := w_get0 C F hk d (by rw [ht]; exact K)
theorem w_getR {b : Nat} (C : Cx X own cc nL ret nm fr lo) (F : FL own idx c f) (ht : fty c f = 2) (d : decode cc pc = .ok (.getfield idx, 3)) (hk : kd h a = c + 1) (hb : gr h a f = some b) (K : Wj X k n Q (pc + 3) lv (.ref b :: st) h) : Wj X k n Q pc lv (.ref a :: st) h := w_get0 C F hk d (by rw [ht]; show Wj X k n Q (pc + 3) lv (va_rf (gr h a f) :: st) h; rw [hb]; exact K)
theorem w_getQ (C : Cx X own cc nL ret nm fr lo) (F : FL own idx c f) (ht : fty c f = 2) (d : decode cc pc = .ok (.getfield idx, 3)) (hk : kd h a = c + 1) (K : (gr h a f = none → Wj X k n Q (pc + 3) lv (.null :: st) h) ∧ (∀ b, gr h a f = some b → Wj X k n Q (pc + 3) lv (.ref b :: st) h)) : Wj X k n Q pc lv (.ref a :: st) h := w_get0 C F hk d (by
  rw [ht]; show Wj X k n Q (pc + 3) lv (va_rf (gr h a f) :: st) h
  cases hb : gr h a f with
  | none => exact K.1 hb
  | some b => exact K.2 b hb)
theorem w_put0 {v : Value} {h' : Hp} (C : Cx X own cc nL ret nm fr lo) (F : FL own idx c f) (hfin : ((vwCl.getD c ("", TX0, 0)).2.1 f).2.2.2 = false) (d : decode cc pc = .ok (.putfield idx, 3)) (hk : kd h a = c + 1) (hnr : narrow (tyF c f) v = v) (hfit : fits (tyF c f) v = true) (u : Upd h h' a f (fty c f) v) (K : Wj X k n Q (pc + 3) lv st h') : Wj X k n Q pc lv (v :: .ref a :: st) h := by
  obtain ⟨p, l, e, R, s, m, args, below, meth, c0, D, mc, ms⟩ := X
  intro h1 h2 ls H locs hl hR hL
  obtain ⟨r, hc, hkN, hlink⟩ := F
  obtain ⟨hx, hb, hml, hown, hts, hK, hr⟩ := C
  obtain ⟨hin, hty, hnm, -⟩ := clF c r hc
  have hap := va_apart (own := own) hts hin (tyF c) hty hnm hK.1 hc
  obtain ⟨cell, q1, q2, q3, q4⟩ := (hR.2.2.2 a (by omega)).2.2.1 _ _ hk hc
  obtain ⟨hS, hfc, kC, hkC, hkind⟩ := hK.1.1 c r hc
  obtain ⟨cf, kf, fi, fd, hi, hsl⟩ := hS f hkN
  have hfin : (r.2.1 f).2.2.2 = false := by
    have e : vwCl.getD c ("", TX0, 0) = r := by rw [List.getD_eq_getElem?_getD, hc]; rfl
    rw [e] at hfin; exact hfin
  have hlay := hts _ (hin _ (u_in_lay hkN))
  unfold u_lay at hlay
  rw [if_neg (by rw [hfin]; decide)] at hlay
  have hst := (u_facts hfc hkC (u_lays hts hin hkN) hi).1
  have h6 := u_store hfc hkC hkind hlay hi (hty f hkN) hnr hfit
  refine W.putK hx hb (f := fd) ⟨hown, hts _ hlink, ⟨_, _, _, hi⟩, hst⟩ (by rw [q2]; exact h6) q1 q3 (by rw [hsl]; exact k2_hasslot (q4 f hkN)) rfl rfl d fun H' e1 e2 e3 => ?_
  rw [hsl] at e1
  refine K h1 h2 ls H' _ hl (hR.put hk hc hkN (fun x y hx hy hne => hap x y hx hy hne) q1 e1 e2 e3 u) (fun q hq => ?_)
  rcases List.mem_append.mp hq with hq | hq
  · exact hL q hq
  · cases List.mem_singleton.mp hq
    exact (hR.2.2.2 a (by omega)).1
theorem w_putF0 {v : Value} {h' : Hp} (C : Cx X own cc nL ret "<init>" fr lo) (F : FL own idx c f) (hfin : ((vwCl.getD c ("", TX0, 0)).2.1 f).2.2.2 = true) (hdecl : ((vwCl.getD c ("", TX0, 0)).2.1 f).1 = own) (d : decode cc pc = .ok (.putfield idx, 3)) (hk : kd h a = c + 1) (hnr : narrow (tyF c f) v = v) (hfit : fits (tyF c f) v = true) (u : Upd h h' a f (fty c f) v) (K : Wj X k n Q (pc + 3) lv st h') : Wj X k n Q pc lv (v :: .ref a :: st) h := by
  obtain ⟨p, l, e, R, s, m, args, below, meth, c0, D, mc, ms⟩ := X
  intro h1 h2 ls H locs hl hR hL
  obtain ⟨r, hc, hkN, hlink⟩ := F
  obtain ⟨hx, hb, hml, hown, hts, hK, hr, hlk, hnmI, -⟩ := C
  obtain ⟨hin, hty, hnm, -⟩ := clF c r hc
  have hap := va_apart (own := own) hts hin (tyF c) hty hnm hK.1 hc
  obtain ⟨cell, q1, q2, q3, q4⟩ := (hR.2.2.2 a (by omega)).2.2.1 _ _ hk hc
  obtain ⟨hS, hfc, kC, hkC, hkind⟩ := hK.1.1 c r hc
  obtain ⟨cf, kf, fi, fd, hi, hsl⟩ := hS f hkN
  have e : vwCl.getD c ("", TX0, 0) = r := by rw [List.getD_eq_getElem?_getD, hc]; rfl
  rw [e] at hfin hdecl
  have hlay := hts _ (hin _ (u_in_lay hkN))
  unfold u_lay at hlay
  rw [if_pos hfin] at hlay
  have hst := (u_facts hfc hkC (u_lays hts hin hkN) hi).1
  have hcf : m.cls = cf := by
    obtain ⟨_, _, c', _, _, _, -, -, hf', -, -, -, hown2, -⟩ := Cond.laysFinal_spec hlay
    have e1 : c' = cf := by have := hi.symm.trans hf'; simp at this; exact this.1.symm
    rw [hdecl] at hown2
    rw [← e1]; exact Option.some.inj (hown.symm.trans hown2)
  have h6 := u_fits hfc hkC hkind (Or.inr hlay) hi (hty f hkN) hnr hfit
  refine W.putFinK hx hb hown (hts _ hlink) hi hst hcf hnmI (by rw [q2]; exact h6) q1 q3 (by rw [hsl]; exact k2_hasslot (q4 f hkN)) rfl rfl d fun H' e1 e2 e3 => ?_
  rw [hsl] at e1
  refine K h1 h2 ls H' _ hl (hR.put hk hc hkN (fun x y hx hy hne => hap x y hx hy hne) q1 e1 e2 e3 u) (fun q hq => ?_)
  rcases List.mem_append.mp hq with hq | hq
  · exact hL q hq
  · cases List.mem_singleton.mp hq
    exact (hR.2.2.2 a (by omega)).1
theorem tyI {c f : Nat} {ty : FieldType} (F : tyOK (fty c f) ty) (ht : fty c f = 0) (x : Int32) : narrow ty (.int x) = .int x ∧ fits ty (.int x) = true := by
  rw [F.1 ht]; exact ⟨rfl, rfl⟩
theorem tyL {c f : Nat} {ty : FieldType} (F : tyOK (fty c f) ty) (ht : fty c f = 1) (x : Int64) : narrow ty (.long x) = .long x ∧ fits ty (.long x) = true := by
  rw [F.2.1 ht]; exact ⟨rfl, rfl⟩
theorem tyR {c f : Nat} {ty : FieldType} (F : tyOK (fty c f) ty) (ht : fty c f = 2) (x : Nat) : narrow ty (.ref x) = .ref x ∧ fits ty (.ref x) = true := by
  rcases F.2.2.1 ht with ⟨o, rfl⟩ | ⟨o, rfl⟩ <;> exact ⟨rfl, rfl⟩
theorem tyN {c f : Nat} {ty : FieldType} (F : tyOK (fty c f) ty) (ht : fty c f = 2) : narrow ty .null = .null ∧ fits ty .null = true := by
  rcases F.2.2.1 ht with ⟨o, rfl⟩ | ⟨o, rfl⟩ <;> exact ⟨rfl, rfl⟩
theorem FL.ty (F : FL own idx c f) : tyOK (fty c f) (tyF c f) := by
  obtain ⟨r, hc, hf, -⟩ := F
  exact (clF c r hc).2.2.2 f hf
theorem w_putI {x : Int32} (C : Cx X own cc nL ret nm fr lo) (F : FL own idx c f) (hfin : ((vwCl.getD c ("", TX0, 0)).2.1 f).2.2.2 = false) (ht : fty c f = 0) (d : decode cc pc = .ok (.putfield idx, 3)) (hk : kd h a = c + 1) (K : Wj X k n Q (pc + 3) lv st (si h a f x)) : Wj X k n Q pc lv (.int x :: .ref a :: st) h :=
  w_put0 C F hfin d hk (tyI F.ty ht x).1 (tyI F.ty ht x).2 (by rw [ht]; exact upd_si h a f x) K
theorem w_putL {x : Int64} (C : Cx X own cc nL ret nm fr lo) (F : FL own idx c f) (hfin : ((vwCl.getD c ("", TX0, 0)).2.1 f).2.2.2 = false) (ht : fty c f = 1) (d : decode cc pc = .ok (.putfield idx, 3)) (hk : kd h a = c + 1) (K : Wj X k n Q (pc + 3) lv st (sl h a f x)) : Wj X k n Q pc lv (.long x :: .ref a :: st) h :=
  w_put0 C F hfin d hk (tyL F.ty ht x).1 (tyL F.ty ht x).2 (by rw [ht]; exact upd_sl h a f x) K
theorem w_putR {x : Nat} (C : Cx X own cc nL ret nm fr lo) (F : FL own idx c f) (hfin : ((vwCl.getD c ("", TX0, 0)).2.1 f).2.2.2 = false) (ht : fty c f = 2) (d : decode cc pc = .ok (.putfield idx, 3)) (hk : kd h a = c + 1) (K : Wj X k n Q (pc + 3) lv st (sr h a f (some x))) : Wj X k n Q pc lv (.ref x :: .ref a :: st) h :=
  w_put0 C F hfin d hk (tyR F.ty ht x).1 (tyR F.ty ht x).2 (by rw [ht]; exact upd_sr h a f (some x)) K
theorem w_putN (C : Cx X own cc nL ret nm fr lo) (F : FL own idx c f) (hfin : ((vwCl.getD c ("", TX0, 0)).2.1 f).2.2.2 = false) (ht : fty c f = 2) (d : decode cc pc = .ok (.putfield idx, 3)) (hk : kd h a = c + 1) (K : Wj X k n Q (pc + 3) lv st (sr h a f none)) : Wj X k n Q pc lv (.null :: .ref a :: st) h :=
  w_put0 C F hfin d hk (tyN F.ty ht).1 (tyN F.ty ht).2 (by rw [ht]; exact upd_sr h a f none) K
theorem w_putRF {x : Nat} (C : Cx X own cc nL ret "<init>" fr lo) (F : FL own idx c f) (hfin : ((vwCl.getD c ("", TX0, 0)).2.1 f).2.2.2 = true) (hdecl : ((vwCl.getD c ("", TX0, 0)).2.1 f).1 = own) (ht : fty c f = 2) (d : decode cc pc = .ok (.putfield idx, 3)) (hk : kd h a = c + 1) (K : Wj X k n Q (pc + 3) lv st (sr h a f (some x))) : Wj X k n Q pc lv (.ref x :: .ref a :: st) h :=
  w_putF0 C F hfin hdecl d hk (tyR F.ty ht x).1 (tyR F.ty ht x).2 (by rw [ht]; exact upd_sr h a f (some x)) K
end HeapRows
end
section
-- arrays, new cells, calls
/-- an array's row of contents, as the machine has it -/
def arrF (h : Hp) (a t : Nat) : Nat → Value := match t with
  | 1 => fun j => .long (gl h a j)
  | 4 => fun j => va_rf (gr h a j)
  | _ => fun j => .int (gi h a j)
theorem RelH.arr {D : Dt} {h : Hp} {H : Heap} {a : Nat} (t : Nat) (hR : RelH D h H) (hk : kd h a = 20 + t) (ht : t < 5) : H[a]? = some (arrV (D.2.1 t) (ln h a) (arrF h a t)) := by
  obtain ⟨c0, c1, c2, c3, c4, c5⟩ := (hR.2.2.2 a (by omega)).2.2
  match t, ht with
  | 0, _ => exact c1 hk
  | 1, _ => exact c2 hk
  | 2, _ => exact c3 hk
  | 3, _ => exact c4 hk
  | 4, _ => exact c5 hk
theorem cellR.arr {D : Dt} {h : Hp} {H : Heap} {a t : Nat} (hk : kd h a = 20 + t) (ht : t < 5) (e : H[a]? = some (arrV (D.2.1 t) (ln h a) (arrF h a t))) : cellR D h H a := by
  refine ⟨fun c r hk' hc => ?_, fun h9 => ?_, fun h9 => ?_, fun h9 => ?_, fun h9 => ?_, fun h9 => ?_⟩
  · have := vwCl_lt hc; omega
  all_goals (first
    | (have e9 : t = 0 := by omega
       subst e9; exact e)
    | (have e9 : t = 1 := by omega
       subst e9; exact e)
    | (have e9 : t = 2 := by omega
       subst e9; exact e)
    | (have e9 : t = 3 := by omega
       subst e9; exact e)
    | (have e9 : t = 4 := by omega
       subst e9; exact e))
theorem arrV_set (cI : ClassId) (N : Nat) (f : Nat → Value) (i : Nat) (v : Value) : (arrV cI N f).setSlot i v = arrV cI N (updV f i v) := arrV_store cI N i f v
theorem RelH.putA {D : Dt} {h h' : Hp} {H H' : Heap} {a t i : Nat} {v : Value} (hR : RelH D h H) (hk : kd h a = 20 + t) (ht : t < 5)
    (e1 : H'[a]? = some ((arrV (D.2.1 t) (ln h a) (arrF h a t)).setSlot i v)) (e2 : H'.size = H.size) (e3 : ∀ q : Nat, q ≠ a → H'[q]? = H[q]?) (u1 : hn h' = hn h) (u2 : ∀ b, kd h' b = kd h b) (u3 : ∀ b, ln h' b = ln h b) (u4 : ∀ b, b ≠ a → ∀ j, gi h' b j = gi h b j ∧ gl h' b j = gl h b j ∧ gr h' b j = gr h b j) (u5 : arrF h' a t = updV (arrF h a t) i v) : RelH D h' H' := by
  refine hR.off (by omega) e2 e3 u1 u2 (fun b _ => u3 b) u4 (cellR.arr (t := t) (by rw [u2]; exact hk) ht ?_)
  rw [e1, arrV_set, u5, u3]
theorem inb_vp {i : Int32} {N : Nat} (h : 0 ≤ i.toInt ∧ i.toInt < N) : vp_in i N := by
  intro q
  rcases q with q | q
  · have := Int32.lt_iff_toInt_lt.mp q
    simp at this; omega
  · have e : (i.toNatClampNeg : Int) = i.toInt := by
      show ((i.toInt.toNat : Nat) : Int) = _
      omega
    omega
/-- an index lies within -/
def inb (i : Int32) (N : Nat) : Prop := 0 ≤ i.toInt ∧ i.toInt < N
/-- an index as a number -/
def ix (i : Int32) : Nat := i.toInt.toNat
theorem ix_clamp (i : Int32) : i.toNatClampNeg = ix i := rfl
theorem ix_lt {i : Int32} {N : Nat} (h : inb i N) : ix i < N := by
  unfold ix inb at *; omega
theorem inb_not {i : Int32} {N : Nat} (h : inb i N) : ¬ (i < 0 ∨ N ≤ i.toNatClampNeg) := inb_vp h
section Arr
variable {X : Ctx} {k n : Nat} {Q : Pq} {pc : Nat} {lv : List (Nat × Value)} {st : List Value} {h : Hp} {own : String} {cc : ByteArray} {nL : Nat} {ret : Option FieldType} {nm : String} {fr lo : Nat} {a c f idx : Nat} {i : Int32}
theorem isArrT {D : Dt} {s : State} (hK : Kn D s) (t : Nat) (ty : FieldType) (ht : (tysD D)[t]? = some (D.2.1 t, ty)) (N : Nat) (z : Nat → Value) : s.isArrayOf (arrV (D.2.1 t) N z) ty := (hK.1.2 t _ ht).1 N z
theorem w_iald (C : Cx X own cc nL ret nm fr lo) (d : decode cc pc = .ok (.iaload, 1)) (hk : kd h a = 20) (hi : inb i (ln h a)) (K : Wj X k n Q (pc + 1) lv (.int (gi h a (ix i)) :: st) h) : Wj X k n Q pc lv (.int i :: .ref a :: st) h := by
  obtain ⟨p, l, e, R, s, m, args, below, meth, c0, D, mc, ms⟩ := X
  intro h1 h2 ls H locs hl hR hL
  exact W.iald (v := .int (gi h a (ix i))) C.1 C.2.1 (hR.arr 0 hk (by omega)) (isArrT C.2.2.2.2.2.1 0 .int rfl _ _) (fun q => by cases q) (by rw [arrV_size]; exact inb_not hi) (by rw [ix_clamp, arrV_read _ _ (ix_lt hi)]; rfl) rfl rfl d (K h1 h2 ls H locs hl hR hL)
theorem w_lald (C : Cx X own cc nL ret nm fr lo) (d : decode cc pc = .ok (.laload, 1)) (hk : kd h a = 21) (hi : inb i (ln h a)) (K : Wj X k n Q (pc + 1) lv (.long (gl h a (ix i)) :: st) h) : Wj X k n Q pc lv (.int i :: .ref a :: st) h := by
  obtain ⟨p, l, e, R, s, m, args, below, meth, c0, D, mc, ms⟩ := X
  intro h1 h2 ls H locs hl hR hL
  exact W.lald (v := .long (gl h a (ix i))) C.1 C.2.1 (hR.arr 1 hk (by omega)) (isArrT C.2.2.2.2.2.1 1 .long rfl _ _) (fun q => by cases q) (by rw [arrV_size]; exact inb_not hi) (by rw [ix_clamp, arrV_read _ _ (ix_lt hi)]; rfl) rfl rfl d (K h1 h2 ls H locs hl hR hL)
theorem w_cald (C : Cx X own cc nL ret nm fr lo) (d : decode cc pc = .ok (.caload, 1)) (hk : kd h a = 22) (hi : inb i (ln h a)) (K : Wj X k n Q (pc + 1) lv (.int (gi h a (ix i)) :: st) h) : Wj X k n Q pc lv (.int i :: .ref a :: st) h := by
  obtain ⟨p, l, e, R, s, m, args, below, meth, c0, D, mc, ms⟩ := X
  intro h1 h2 ls H locs hl hR hL
  exact W.cald (v := .int (gi h a (ix i))) C.1 C.2.1 (hR.arr 2 hk (by omega)) (isArrT C.2.2.2.2.2.1 2 .char rfl _ _) (fun q => by cases q) (by rw [arrV_size]; exact inb_not hi) (by rw [ix_clamp, arrV_read _ _ (ix_lt hi)]; rfl) rfl rfl d (K h1 h2 ls H locs hl hR hL)
theorem w_zald (C : Cx X own cc nL ret nm fr lo) (d : decode cc pc = .ok (.baload, 1)) (hk : kd h a = 23) (hi : inb i (ln h a)) (K : Wj X k n Q (pc + 1) lv (.int (gi h a (ix i)) :: st) h) : Wj X k n Q pc lv (.int i :: .ref a :: st) h := by
  obtain ⟨p, l, e, R, s, m, args, below, meth, c0, D, mc, ms⟩ := X
  intro h1 h2 ls H locs hl hR hL
  exact W.zald (v := .int (gi h a (ix i))) C.1 C.2.1 (hR.arr 3 hk (by omega)) (isArrT C.2.2.2.2.2.1 3 .boolean rfl _ _) (fun q => by cases q) (by rw [arrV_size]; exact inb_not hi) (by rw [ix_clamp, arrV_read _ _ (ix_lt hi)]; rfl) rfl rfl d (K h1 h2 ls H locs hl hR hL)
theorem w_aald (C : Cx X own cc nL ret nm fr lo) (d : decode cc pc = .ok (.aaload, 1)) (hk : kd h a = 24) (hi : inb i (ln h a)) (K : (gr h a (ix i) = none → Wj X k n Q (pc + 1) lv (.null :: st) h) ∧ (∀ b, gr h a (ix i) = some b → Wj X k n Q (pc + 1) lv (.ref b :: st) h)) : Wj X k n Q pc lv (.int i :: .ref a :: st) h := by
  obtain ⟨p, l, e, R, s, m, args, below, meth, c0, D, mc, ms⟩ := X
  intro h1 h2 ls H locs hl hR hL
  refine W.aald (v := va_rf (gr h a (ix i))) (ty := .object "DividingHead$Head") C.1 C.2.1 (hR.arr 4 hk (by omega)) (isArrT C.2.2.2.2.2.1 4 _ rfl _ _) rfl (fun q => by cases q) (by rw [arrV_size]; exact inb_not hi) (by rw [ix_clamp, arrV_read _ _ (ix_lt hi)]; rfl) rfl rfl d ?_
  cases hb : gr h a (ix i) with
  | none => exact K.1 hb h1 h2 ls H locs hl hR hL
  | some b => exact K.2 b hb h1 h2 ls H locs hl hR hL
theorem w_alen (t : Nat) (ht : t < 5) (C : Cx X own cc nL ret nm fr lo) (d : decode cc pc = .ok (.arraylength, 1)) (hk : kd h a = 20 + t) (K : Wj X k n Q (pc + 1) lv (.int (Int32.ofNat (ln h a)) :: st) h) : Wj X k n Q pc lv (.ref a :: st) h := by
  obtain ⟨p, l, e, R, s, m, args, below, meth, c0, D, mc, ms⟩ := X
  intro h1 h2 ls H locs hl hR hL
  have hg : ∃ ty, (tysD D)[t]? = some (D.2.1 t, ty) := by
    match t, ht with
    | 0, _ => exact ⟨_, rfl⟩
    | 1, _ => exact ⟨_, rfl⟩
    | 2, _ => exact ⟨_, rfl⟩
    | 3, _ => exact ⟨_, rfl⟩
    | 4, _ => exact ⟨_, rfl⟩
  obtain ⟨ty, hty⟩ := hg
  exact W.alen C.1 C.2.1 (hR.arr t hk ht) (isArrT C.2.2.2.2.2.1 t ty hty _ _) (by rw [arrV_size]) rfl rfl d (K h1 h2 ls H locs hl hR hL)
theorem locs_app {b : Nat} {locs L : List Loc} (h1 : ∀ q ∈ locs, b ≤ q.base) (h2 : ∀ q ∈ L, b ≤ q.base) : ∀ q ∈ locs ++ L, b ≤ q.base := fun q hq => (List.mem_append.mp hq).elim (h1 q) (h2 q)
theorem locs_one {b a j : Nat} (h : b ≤ a) : ∀ q ∈ ([⟨a, j⟩] : List Loc), b ≤ q.base := fun q hq => by cases List.mem_singleton.mp hq; exact h
theorem arrF_si {h : Hp} {a i t : Nat} {x : Int32} (h0 : t ≠ 1) (h4 : t ≠ 4) : arrF (si h a i x) a t = updV (arrF h a t) i (.int x) := by
  unfold arrF
  split
  · omega
  · omega
  · funext j
    unfold updV
    rw [gi_si]
    by_cases e : j = i <;> simp [e]
theorem arrF_sl {h : Hp} {a i : Nat} {x : Int64} : arrF (sl h a i x) a 1 = updV (arrF h a 1) i (.long x) := by
  unfold arrF
  funext j
  unfold updV
  show Value.long (gl (sl h a i x) a j) = _
  rw [gl_sl]
  by_cases e : j = i <;> simp [e]
theorem arrF_sr {h : Hp} {a i : Nat} {x : Option Nat} : arrF (sr h a i x) a 4 = updV (arrF h a 4) i (va_rf x) := by
  unfold arrF
  funext j
  unfold updV
  show va_rf (gr (sr h a i x) a j) = _
  rw [gr_sr]
  by_cases e : j = i <;> simp [e]
theorem w_iast {x : Int32} (C : Cx X own cc nL ret nm fr lo) (d : decode cc pc = .ok (.iastore, 1)) (hk : kd h a = 20) (hi : inb i (ln h a)) (K : Wj X k n Q (pc + 1) lv st (si h a (ix i) x)) : Wj X k n Q pc lv (.int x :: .int i :: .ref a :: st) h := by
  obtain ⟨p, l, e, R, s, m, args, below, meth, c0, D, mc, ms⟩ := X
  intro h1 h2 ls H locs hl hR hL
  refine W.iast C.1 C.2.1 (hR.arr 0 hk (by omega)) (isArrT C.2.2.2.2.2.1 0 .int rfl _ _) (fun q => by cases q) (by rw [arrV_size]; exact inb_not hi) rfl rfl d fun H' e1 e2 e3 => K h1 h2 ls H' _ hl ?_ (locs_app hL (locs_one (hR.2.2.2 a (by omega)).1))
  exact hR.putA (t := 0) hk (by omega) e1 e2 e3 rfl (fun _ => rfl) (fun _ => rfl) (fun b hb j => ⟨by rw [gi_si, if_neg (fun q => hb q.1)], rfl, rfl⟩) (arrF_si (by omega) (by omega))
theorem w_last {x : Int64} (C : Cx X own cc nL ret nm fr lo) (d : decode cc pc = .ok (.lastore, 1)) (hk : kd h a = 21) (hi : inb i (ln h a)) (K : Wj X k n Q (pc + 1) lv st (sl h a (ix i) x)) : Wj X k n Q pc lv (.long x :: .int i :: .ref a :: st) h := by
  obtain ⟨p, l, e, R, s, m, args, below, meth, c0, D, mc, ms⟩ := X
  intro h1 h2 ls H locs hl hR hL
  refine W.last C.1 C.2.1 (hR.arr 1 hk (by omega)) (isArrT C.2.2.2.2.2.1 1 .long rfl _ _) (fun q => by cases q) (by rw [arrV_size]; exact inb_not hi) rfl rfl d fun H' e1 e2 e3 => K h1 h2 ls H' _ hl ?_ (locs_app hL (locs_one (hR.2.2.2 a (by omega)).1))
  exact hR.putA (t := 1) hk (by omega) e1 e2 e3 rfl (fun _ => rfl) (fun _ => rfl) (fun b hb j => ⟨rfl, by rw [gl_sl, if_neg (fun q => hb q.1)], rfl⟩) arrF_sl
theorem w_cast {x : Int32} (C : Cx X own cc nL ret nm fr lo) (d : decode cc pc = .ok (.castore, 1)) (hk : kd h a = 22) (hi : inb i (ln h a)) (K : Wj X k n Q (pc + 1) lv st (si h a (ix i) (vp_nar .char x))) : Wj X k n Q pc lv (.int x :: .int i :: .ref a :: st) h := by
  obtain ⟨p, l, e, R, s, m, args, below, meth, c0, D, mc, ms⟩ := X
  intro h1 h2 ls H locs hl hR hL
  refine W.cast C.1 C.2.1 (hR.arr 2 hk (by omega)) (isArrT C.2.2.2.2.2.1 2 .char rfl _ _) (fun q => by cases q) (by rw [arrV_size]; exact inb_not hi) rfl rfl d fun H' e1 e2 e3 => K h1 h2 ls H' _ hl ?_ (locs_app hL (locs_one (hR.2.2.2 a (by omega)).1))
  exact hR.putA (t := 2) hk (by omega) e1 e2 e3 rfl (fun _ => rfl) (fun _ => rfl) (fun b hb j => ⟨by rw [gi_si, if_neg (fun q => hb q.1)], rfl, rfl⟩) (arrF_si (by omega) (by omega))
theorem w_zast {x : Int32} (C : Cx X own cc nL ret nm fr lo) (d : decode cc pc = .ok (.bastore, 1)) (hk : kd h a = 23) (hi : inb i (ln h a)) (K : Wj X k n Q (pc + 1) lv st (si h a (ix i) (vp_nar .boolean x))) : Wj X k n Q pc lv (.int x :: .int i :: .ref a :: st) h := by
  obtain ⟨p, l, e, R, s, m, args, below, meth, c0, D, mc, ms⟩ := X
  intro h1 h2 ls H locs hl hR hL
  refine W.zast C.1 C.2.1 (hR.arr 3 hk (by omega)) (isArrT C.2.2.2.2.2.1 3 .boolean rfl _ _) (fun q => by cases q) (by rw [arrV_size]; exact inb_not hi) rfl rfl d fun H' e1 e2 e3 => K h1 h2 ls H' _ hl ?_ (locs_app hL (locs_one (hR.2.2.2 a (by omega)).1))
  exact hR.putA (t := 3) hk (by omega) e1 e2 e3 rfl (fun _ => rfl) (fun _ => rfl) (fun b hb j => ⟨by rw [gi_si, if_neg (fun q => hb q.1)], rfl, rfl⟩) (arrF_si (by omega) (by omega))
theorem w_aast {x : Nat} (C : Cx X own cc nL ret nm fr lo) (d : decode cc pc = .ok (.aastore, 1)) (hk : kd h a = 24) (hi : inb i (ln h a)) (hx : kd h x = 5) (K : Wj X k n Q (pc + 1) lv st (sr h a (ix i) (some x))) : Wj X k n Q pc lv (.ref x :: .int i :: .ref a :: st) h := by
  obtain ⟨p, l, e, R, s, m, args, below, meth, c0, D, mc, ms⟩ := X
  intro h1 h2 ls H locs hl hR hL
  have hK := C.2.2.2.2.2.1
  obtain ⟨cv, v1, v2, v3, v4⟩ := (hR.2.2.2 x (by omega)).2.2.1 4 _ hx rfl
  obtain ⟨hS, hfc, kC, hkC, hkind⟩ := hK.1.1 4 _ rfl
  obtain ⟨kA, comp, g1, g2, g3, g4⟩ := (hK.1.2 4 _ rfl).2
  have e9 : comp = D.1.1 4 := Option.some.inj (g3.symm.trans hfc)
  subst e9
  refine W.aast C.1 C.2.1 (hR.arr 4 hk (by omega)) (fun q h => by cases h) (fun q => by cases q) g1 g2 rfl hkC ⟨fun q => inb_not hi (Or.inl q), by rw [arrV_size]; exact Nat.lt_of_not_le fun q => inb_not hi (Or.inr q)⟩ v1 (fun q h => by rw [v3] at h; cases h) (by rw [v2]; exact hkC) (by rw [v2]; exact va_asg _ _) rfl rfl d fun H' e1 e2 e3 => K h1 h2 ls H' _ hl ?_ (locs_app hL (locs_one (hR.2.2.2 a (by omega)).1))
  exact hR.putA (t := 4) hk (by omega) e1 e2 e3 rfl (fun _ => rfl) (fun _ => rfl) (fun b hb j => ⟨rfl, rfl, by rw [gr_sr, if_neg (fun q => hb q.1)]⟩) arrF_sr
end Arr
end
section
-- new cells, calls, switches, System.arraycopy
theorem RelH.new {D : Dt} {h : Hp} {H H' : Heap} {kk len : Nat} (hR : RelH D h H) (e2 : H'.size = H.size + 1) (e3 : ∀ q : Nat, q < H.size → H'[q]? = H[q]?) (hc : cellR D (nw h kk len) H' (hn h)) : RelH D (nw h kk len) H' := by
  obtain ⟨r1, r2, r3, r4⟩ := hR
  refine ⟨by rw [e2, r1]; rfl, by rw [hn_nw]; omega, fun q hq => ?_, fun b hb => ?_⟩
  · rw [e3 q (by omega)]; exact r3 q hq
  · by_cases hbh : b = hn h
    · subst hbh
      exact ⟨r2, by rw [hn_nw]; omega, hc⟩
    · rw [kd_nw, if_neg hbh] at hb
      obtain ⟨b1, b2, b3⟩ := r4 b hb
      exact ⟨b1, by rw [hn_nw]; omega, b3.kept (e3 b (by omega)) (by rw [kd_nw, if_neg hbh]) (by rw [ln_nw, if_neg hbh]) (fun j => by rw [gi_nw, if_neg hbh]) (fun j => by rw [gl_nw, if_neg hbh]) (fun j => by rw [gr_nw, if_neg hbh])⟩
def tyT (t : Nat) : FieldType := match t with
  | 0 => .int
  | 1 => .long
  | 2 => .char
  | _ => .boolean
def NL (own : String) (idx c : Nat) : Prop := ∃ r, vwCl[c]? = some r ∧ Cond.classLink own idx r.1 ∈ gwd ∧ Cond.instantiable r.1 r.2.2 ∈ gwd ∧ Cond.initialized r.1 ∈ gwd
section New
variable {X : Ctx} {k n : Nat} {Q : Pq} {pc : Nat} {lv : List (Nat × Value)} {st : List Value} {h : Hp} {own : String} {cc : ByteArray} {nL : Nat} {ret : Option FieldType} {nm : String} {fr lo : Nat} {a c f idx : Nat} {i : Int32}
theorem w_new {N : Nat} (C : Cx X own cc nL ret nm fr lo) (L : NL own idx c) (hN : (vwCl.getD c ("", TX0, 0)).2.2 = N) (d : decode cc pc = .ok (.new idx, 3)) (hcl : k + 1 ≤ mcX X) (hsl : n + N ≤ msX X) (K : Wj X (k + 1) (n + N) Q (pc + 3) lv (.ref (hn h) :: st) (nw h (c + 1) 0)) : Wj X k n Q pc lv st h := by
  obtain ⟨p, l, e, R, s, m, args, below, meth, c0, D, mc, ms⟩ := X
  intro h1 h2 ls H locs hl hR hL
  obtain ⟨hx, hb, hml, hown, hts, hK, hr, hlk, hnm, g1, g2, g3, g4⟩ := C
  obtain ⟨r, hc, l1, l2, l3⟩ := L
  have eN : N = r.2.2 := by
    have e : vwCl.getD c ("", TX0, 0) = r := by rw [List.getD_eq_getElem?_getD, hc]; rfl
    rw [← hN, e]
  subst eN
  obtain ⟨hin, hty, hnm, htk⟩ := clF c r hc
  have hKn := hK.1.1 c r hc
  refine W.newcK hx hb hown (hts _ l1) (hts _ l2) (hts _ l3) rfl d (by rw [g3]; exact hcl) (by rw [g4]; exact hsl) hKn.2.1 rfl fun H1 kC hkC e1 z1 o1 => ?_
  have hlt := vwCl_lt hc
  have K' := K hcl hsl ls H1 locs hl (hR.new z1 o1 ?_) hL
  · rw [hR.1]
    exact K'
  · rw [← hR.1]
    have hkd : kd (nw h (c + 1) 0) H.size = c + 1 := by rw [kd_nw, hR.1, if_pos rfl]
    refine ⟨fun c' r' hk' hc' => ?_, fun h9 => ?_, fun h9 => ?_, fun h9 => ?_, fun h9 => ?_, fun h9 => ?_⟩
    · have ec : c' = c := by omega
      subst ec
      have er : r' = r := Option.some.inj (hc'.symm.trans hc)
      subst er
      refine (u_born (tyF c') hts hin hKn hkC e1 hty).to (fun j hj => ?_)
      have ht := htk j hj
      have z0 : gi (nw h (c' + 1) 0) H.size j = 0 := by rw [gi_nw, hR.1, if_pos rfl]
      have z1 : gl (nw h (c' + 1) 0) H.size j = 0 := by rw [gl_nw, hR.1, if_pos rfl]
      have z2 : gr (nw h (c' + 1) 0) H.size j = none := by rw [gr_nw, hR.1, if_pos rfl]
      have h3 : fty c' j = 0 ∨ fty c' j = 1 ∨ fty c' j = 2 := by have := ht.2.2.2; omega
      rcases h3 with h3 | h3 | h3
      · rw [ht.1 h3, h3]; show Value.int 0 = Value.int (gi _ _ _); rw [z0]
      · rw [ht.2.1 h3, h3]; show Value.long 0 = Value.long (gl _ _ _); rw [z1]
      · rw [h3]; show _ = va_rf (gr _ _ _); rw [z2]
        rcases ht.2.2.1 h3 with ⟨o, e9⟩ | ⟨o, e9⟩ <;> rw [e9] <;> rfl
    all_goals (rw [hkd] at h9; omega)
theorem w_newa {atype : ArrayType} (t : Nat) {ty : FieldType} {N : Nat} (C : Cx X own cc nL ret nm fr lo) (hw : Cond.arrayClass (newarray.typeOf atype) ∈ gwd) (hty : newarray.typeOf atype = ty) (htt : (tyT t) = ty) (ht : t < 4) (d : decode cc pc = .ok (.newarray atype, 2)) (hi : ¬ i < 0) (hN : i.toNatClampNeg = N) (hby : N * componentBytes ty ≤ 536870912) (hcl : k + 1 ≤ mcX X) (hsl : n + N ≤ msX X) (K : Wj X (k + 1) (n + N) Q (pc + 2) lv (.ref (hn h) :: st) (nw h (20 + t) N)) : Wj X k n Q pc lv (.int i :: st) h := by
  obtain ⟨p, l, e, R, s, m, args, below, meth, c0, D, mc, ms⟩ := X
  intro h1 h2 ls H locs hl hR hL
  obtain ⟨hx, hb, hml, hown, hts, hK, hr, hlk, hnm, g1, g2, g3, g4⟩ := C
  subst hty
  refine va_newaK hx hb (hts _ hw) rfl d rfl hi hN hby (by rw [g3]; exact hcl) (by rw [g4]; exact hsl) rfl fun H1 cA e1 z1 o1 hAr hNm => ?_
  have hcA : cA = D.2.1 t ∧ (fun (_ : Nat) => defaultValue (newarray.typeOf atype)) = arrF (nw h (20 + t) N) H.size t := by
    have z0 : ∀ j, gi (nw h (20 + t) N) H.size j = 0 := fun j => by rw [gi_nw, hR.1, if_pos rfl]
    have z1 : ∀ j, gl (nw h (20 + t) N) H.size j = 0 := fun j => by rw [gl_nw, hR.1, if_pos rfl]
    match t, ht, htt with
    | 0, _, htt => exact ⟨Option.some.inj (hNm.symm.trans (by rw [← htt]; exact (hK.1.2 0 _ rfl).2)), by rw [← htt]; funext j; show Value.int 0 = Value.int (gi _ _ _); rw [z0]⟩
    | 1, _, htt => exact ⟨Option.some.inj (hNm.symm.trans (by rw [← htt]; exact (hK.1.2 1 _ rfl).2)), by rw [← htt]; funext j; show Value.long 0 = Value.long (gl _ _ _); rw [z1]⟩
    | 2, _, htt => exact ⟨Option.some.inj (hNm.symm.trans (by rw [← htt]; exact (hK.1.2 2 _ rfl).2)), by rw [← htt]; funext j; show Value.int 0 = Value.int (gi _ _ _); rw [z0]⟩
    | 3, _, htt => exact ⟨Option.some.inj (hNm.symm.trans (by rw [← htt]; exact (hK.1.2 3 _ rfl).2)), by rw [← htt]; funext j; show Value.int 0 = Value.int (gi _ _ _); rw [z0]⟩
  have K' := K hcl hsl ls H1 locs hl (hR.new z1 o1 ?_) hL
  · rw [hR.1]
    exact K'
  · rw [← hR.1]
    refine cellR.arr (t := t) (by rw [kd_nw, hR.1, if_pos rfl]) (by omega) ?_
    rw [e1, hcA.1, ln_nw, hR.1, if_pos rfl, hcA.2, hR.1]
theorem w_anew {N : Nat} (C : Cx X own cc nL ret nm fr lo) (hw : Cond.classLink own idx "DividingHead$Head" ∈ gwd) (d : decode cc pc = .ok (.anewarray idx, 3)) (hi : ¬ i < 0) (hN : i.toNatClampNeg = N) (hby : N * 4 ≤ 536870912) (hcl : k + 1 ≤ mcX X) (hsl : n + N ≤ msX X) (K : Wj X (k + 1) (n + N) Q (pc + 3) lv (.ref (hn h) :: st) (nw h 24 N)) : Wj X k n Q pc lv (.int i :: st) h := by
  obtain ⟨p, l, e, R, s, m, args, below, meth, c0, D, mc, ms⟩ := X
  intro h1 h2 ls H locs hl hR hL
  obtain ⟨hx, hb, hml, hown, hts, hK, hr, hlk, hnm, g1, g2, g3, g4⟩ := C
  subst hN
  refine W.anew hx hb hown (hts _ hw) (va_AO.use hK.2.2) rfl d rfl hi hby (by rw [g3]; exact hcl) (by rw [g4]; exact hsl) fun cA kA comp f1 f2 f3 f4 => ?_
  generalize hH1 : H.push ({ cls := cA, slots := Array.replicate i.toNatClampNeg .null, vm := .none } : Cell) = H1
  have z1 : H1.size = H.size + 1 := by rw [← hH1, Array.size_push]
  have e1 : H1[H.size]? = some (arrV cA i.toNatClampNeg (fun _ => .null)) := by rw [← hH1, Array.getElem?_push_size, ← arrV_new]
  have o1 : ∀ q : Nat, q < H.size → H1[q]? = H[q]? := fun q hq => by rw [← hH1, Array.getElem?_push, if_neg (Nat.ne_of_lt hq)]
  obtain ⟨kB, compB, b1, b2, b3, b4⟩ := (hK.1.2 4 _ rfl).2
  have hcA : cA = D.2.1 4 := Option.some.inj (f1.symm.trans b4)
  have K' := K hcl hsl ls H1 locs hl (hR.new z1 o1 ?_) hL
  · rw [hR.1]
    exact K'
  · rw [← hR.1]
    refine cellR.arr (t := 4) (by rw [kd_nw, hR.1, if_pos rfl]) (by omega) ?_
    have z2 : (fun (_ : Nat) => Value.null) = arrF (nw h 24 i.toNatClampNeg) H.size 4 := by
      funext j; show Value.null = va_rf (gr _ _ _); rw [gr_nw, hR.1, if_pos rfl]; rfl
    rw [e1, hcA, ln_nw, hR.1, if_pos rfl, z2, hR.1]
theorem w_objInit (C : Cx X own cc nL ret nm fr lo) (w1 : Cond.methodLink own idx Lib.objectInit ∈ gwd) (w2 : Cond.instanceMethod Lib.objectInit ∈ gwd) (w3 : Cond.code Lib.objectInit ⟨#[0xb1]⟩ 1 none ∈ gwd) (d : decode cc pc = .ok (.invokespecial idx, 3)) (hfr : 1 ≤ fr) (hlo : (st.map fun v => v.category).sum + 12 ≤ lo) (K : Wj X k n Q (pc + 3) lv st h) : Wj X k n Q pc lv (.ref a :: st) h := by
  obtain ⟨p, l, e, R, s, m, args, below, meth, c0, D, mc, ms⟩ := X
  intro h1 h2 ls H locs hl hR hL
  obtain ⟨hx, hb, hml, hown, hts, hK, hr, hlk, hnm, g1, g2, g3, g4⟩ := C
  exact W.objInit hx hb hown (hts _ w1) (hts _ w2) (hts _ w3) rfl hl.1 rfl d (by rw [g1]; exact hfr) (by rw [g2]; show 2 * 0 + _ + 12 ≤ lo; omega) (K h1 h2 ls H locs hl hR hL)
theorem w_tswIn {dflt lw hi off : Int} {offs : Array Int} {len tgt : Nat} {x : Int32} (C : Cx X own cc nL ret nm fr lo) (d : decode cc pc = .ok (.tableswitch dflt lw hi offs, len)) (q1 : ¬ x.toInt < lw) (q2 : ¬ hi < x.toInt) (ho : offs[(x.toInt - lw).toNat]? = some off) (ht : (pc : Int) + off = (tgt : Int)) (K : Wj X k n Q tgt lv st h) : Wj X k n Q pc lv (.int x :: st) h := by
  obtain ⟨p, l, e, R, s, m, args, below, meth, c0, D, mc, ms⟩ := X
  exact fun h1 h2 ls H locs hl hR hL => lv_tableIn C.1 C.2.1 d q1 q2 ho ht (K h1 h2 ls H locs hl hR hL)
theorem w_tswOut {dflt lw hi : Int} {offs : Array Int} {len tgt : Nat} {x : Int32} (C : Cx X own cc nL ret nm fr lo) (d : decode cc pc = .ok (.tableswitch dflt lw hi offs, len)) (q : x.toInt < lw ∨ hi < x.toInt) (ht : (pc : Int) + dflt = (tgt : Int)) (K : Wj X k n Q tgt lv st h) : Wj X k n Q pc lv (.int x :: st) h := by
  obtain ⟨p, l, e, R, s, m, args, below, meth, c0, D, mc, ms⟩ := X
  exact fun h1 h2 ls H locs hl hR hL => lv_tableOut C.1 C.2.1 d q ht (K h1 h2 ls H locs hl hR hL)
theorem w_lsw {dflt off : Int} {ps : Array (Int × Int)} {len tgt : Nat} {x : Int32} (C : Cx X own cc nL ret nm fr lo) (d : decode cc pc = .ok (.lookupswitch dflt ps, len)) (hp : (ps.toList.zip (ps.toList.drop 1)).all (fun (a, next) => a.1 < next.1) = true) (ho : Op.lookupswitch.offset ps.toList dflt x.toInt = off) (ht : (pc : Int) + off = (tgt : Int)) (K : Wj X k n Q tgt lv st h) : Wj X k n Q pc lv (.int x :: st) h := by
  obtain ⟨p, l, e, R, s, m, args, below, meth, c0, D, mc, ms⟩ := X
  exact fun h1 h2 ls H locs hl hR hL => lv_lookup C.1 C.2.1 d hp ho ht (K h1 h2 ls H locs hl hR hL)
end New
-- calls
def CL (own : String) (idx : Nat) (y : MethodName) (bytes : ByteArray) (maxL : Nat) (ret : Option FieldType) (na : Nat) : Prop :=
  Cond.methodLink own idx y ∈ gwd ∧ Cond.initialized y.cls ∈ gwd ∧ Cond.code y bytes maxL ret ∈ gwd ∧ y.cls ≠ "java/lang/invoke/MethodHandle" ∧ y.cls ≠ "java/lang/invoke/VarHandle" ∧ (parseMethodDescriptor y.desc).map (fun d => d.parameters.length) = some na
def CLN (own : String) (idx : Nat) (y : MethodName) (bytes : ByteArray) (maxL : Nat) (ret : Option FieldType) (na : Nat) : Prop :=
  Cond.methodLinkNest own idx y RX9 ∈ nestW ∧ Cond.initialized y.cls ∈ gwd ∧ Cond.code y bytes maxL ret ∈ gwd ∧ y.cls ≠ "java/lang/invoke/MethodHandle" ∧ y.cls ≠ "java/lang/invoke/VarHandle" ∧ (parseMethodDescriptor y.desc).map (fun d => d.parameters.length) = some na
theorem goodG {y : MethodName} {bytes : ByteArray} {maxL : Nat} {ret : Option FieldType} (h : Cond.code y bytes maxL ret ∈ gwd) : GoodIn gwd (.code y bytes maxL ret :: gwd) := fun w hw => by
  rcases List.mem_cons.mp hw with rfl | hw
  · exact ⟨h, gwd_good _ h⟩
  · exact ⟨hw, gwd_good _ hw⟩
section Calls2
variable {p : Program} {l : Launch} {e : Env} {R : Room} {s : State} {m : MethodId} {args : Array Value} {below : List Frame} {meth : Method} {c0 : Code} {D : Dt} {mc ms : Nat}
theorem blindS {av : List Value} {h : Hp} : FrameBlind (va_Pc av (fun U => RelH D h U.heap ∧ Kn D U)) := fun a U g mk q => ⟨q.1, q.2.1, Kn.same (u := U) (U := U.calling g mk a) rfl q.2.2⟩
theorem preS {av : List Value} {h : Hp} {H : Heap} (hR : RelH D h H) (hK : Kn D s) : PreS s H (va_Pc av (fun U => RelH D h U.heap ∧ Kn D U)) av := ⟨blindS, fun U hU hW => ⟨rfl, by rw [hU]; exact hR, hK.moved hW⟩⟩
theorem runW {k n k' n' : Nat} {Q Q' : Pq} {pc : Nat} {lv : List (Nat × Value)} {st st0 : List Value} {ls : Array Slot} {H : Heap} {locs : List Loc} {av : Array Value}
    (hr : va_Run p l e R s m args below meth c0 H locs k n k' n' (F0 m pc ls st0) st (Qm D Q' av) (fun q => D.2.2.size ≤ q)) (hl : lv_has ls c0.maxLocals lv) (hL : ∀ q ∈ locs, D.2.2.size ≤ q.base) (h1 : k + k' ≤ mc) (h2 : n + n' ≤ ms)
    (hq : ∀ v h', Q' v h' → Wj (p, l, e, R, s, m, args, below, meth, c0, D, mc, ms) (k + k') (n + n') Q (pc + 3) lv (v.toList ++ st) h') : W p l e R s m args below meth c0 H locs k n (MQ below (Qm D Q) args s mc ms (fun q => D.2.2.size ≤ q)) (F0 m pc ls st0) := by
  intro T hT X
  obtain ⟨v, st₀, t, T', L, e0, X', hL', e1, e2, ⟨v', h', ev, hp, hRel⟩, go⟩ := hr T hT X
  cases ev
  obtain ⟨t2, a1, b1⟩ := hq v h' hp h1 h2 ls t.heap (locs ++ L) hl hRel (locs_app hL hL') T' e1 X'
  exact ⟨t2, go t2 a1, b1⟩
end Calls2
section Calls3
variable {X : Ctx} {k n : Nat} {Q : Pq} {pc : Nat} {lv : List (Nat × Value)} {st st0 : List Value} {h : Hp} {own : String} {cc : ByteArray} {nL : Nat} {ret : Option FieldType} {nm : String} {fr lo : Nat} {b c idx na : Nat}
variable {y : MethodName} {bytes : ByteArray} {maxL fr' lo' k' n' : Nat} {ret' : Option FieldType} {As : List Value}
theorem w_callV (C : Cx X own cc nL ret nm fr lo) (L : CL own idx y bytes maxL ret' na) (L2 : Cond.instanceMethod y ∈ gwd ∧ Cond.selects y.cls y y ∈ gwd) (hrm : fr' + 1 ≤ fr ∧ 8 + (maxL + 11) + lo' ≤ lo) (d : decode cc pc = .ok (.invokevirtual idx, 3)) (hst : st0 = As.reverse ++ .ref b :: st) (hna : As.length = na) (hW : (st.map fun v => v.category).sum ≤ 8) (hc : (vwCl[c]?).map (fun r => r.1) = some y.cls) (hcl : k + k' ≤ mcX X) (hsl : n + n' ≤ msX X) (hk : kd h b = c + 1)
    (K : Sp (lX X) (dtX X) y bytes maxL ret' fr' lo' k' n' (.ref b :: As) h (fun v h' => Wj X (k + k') (n + n') Q (pc + 3) lv (v.toList ++ st) h')) : Wj X k n Q pc lv st0 h := by
  obtain ⟨p, l, e, R, s, m, args, below, meth, c0, D, mc, ms⟩ := X
  intro h1 h2 ls H locs hl hR hL
  obtain ⟨hx, hb, hml, hown, hts, hK, hr, hlk, hnm, g1, g2, g3, g4⟩ := C
  obtain ⟨w1, w2, w3, w4⟩ := L
  have hrc : ∃ r, vwCl[c]? = some r ∧ r.1 = y.cls := by
    cases hcc : vwCl[c]? with
    | none => rw [hcc] at hc; cases hc
    | some r => rw [hcc] at hc; exact ⟨r, rfl, Option.some.inj hc⟩
  obtain ⟨r, hc1, hc2⟩ := hrc
  obtain ⟨cell, q1, q2, q3, q4⟩ := (hR.2.2.2 b (by omega)).2.2.1 _ _ hk hc1
  have hfc := (hK.1.1 c r hc1).2.1
  refine runW (va_runV (Ts := gwd) (C := y.cls) (b := b) (As := As) (n := na) (free := fun q => D.2.2.size ≤ q) ⟨hx, hb, hml, hown, hts⟩ K ⟨callB_of na hts (goodG w3) rfl rfl rfl (hts _ w2) (hts _ w1) w4 ⟨by rw [g1]; exact hrm.1, by rw [g2]; exact hrm.2⟩, hts _ L2.1, hts _ L2.2⟩ ⟨blindS, ⟨cell, q1, by rw [q3]; rfl, by rw [q2, ← hc2]; exact hfc⟩, fun U hU hW => ⟨rfl, by rw [hU]; exact hR, hK.moved hW⟩⟩ rfl hna (by rw [← hml]; exact hl.1) hst (by show 2 * 0 + _ ≤ 8; omega) d ⟨by rw [g3]; exact hcl, by rw [g4]; exact hsl⟩) hl hL hcl hsl (fun v h' hw => hw)
theorem w_callS (C : Cx X own cc nL ret nm fr lo) (L : CL own idx y bytes maxL ret' na) (L2 : Cond.static y ∈ gwd) (hrm : fr' + 1 ≤ fr ∧ 8 + (maxL + 11) + lo' ≤ lo) (d : decode cc pc = .ok (.invokestatic idx, 3)) (hst : st0 = As.reverse ++ st) (hna : As.length = na) (hW : (st.map fun v => v.category).sum ≤ 8) (hcl : k + k' ≤ mcX X) (hsl : n + n' ≤ msX X)
    (K : Sp (lX X) (dtX X) y bytes maxL ret' fr' lo' k' n' As h (fun v h' => Wj X (k + k') (n + n') Q (pc + 3) lv (v.toList ++ st) h')) : Wj X k n Q pc lv st0 h := by
  obtain ⟨p, l, e, R, s, m, args, below, meth, c0, D, mc, ms⟩ := X
  intro h1 h2 ls H locs hl hR hL
  obtain ⟨hx, hb, hml, hown, hts, hK, hr, hlk, hnm, g1, g2, g3, g4⟩ := C
  obtain ⟨w1, w2, w3, w4⟩ := L
  exact runW (va_runS (Ts := gwd) (As := As) (n := na) (free := fun q => D.2.2.size ≤ q) ⟨hx, hb, hml, hown, hts⟩ K ⟨callB_of na hts (goodG w3) rfl rfl rfl (hts _ w2) (hts _ w1) w4 ⟨by rw [g1]; exact hrm.1, by rw [g2]; exact hrm.2⟩, hts _ L2⟩ (preS hR hK) rfl hna (by rw [← hml]; exact hl.1) hst (by show 2 * 0 + _ ≤ 8; omega) d ⟨by rw [g3]; exact hcl, by rw [g4]; exact hsl⟩) hl hL hcl hsl (fun v h' hw => hw)
theorem w_callI (C : Cx X own cc nL ret nm fr lo) (L : CL own idx y bytes maxL none na) (L2 : y.name = "<init>" ∧ Cond.instanceMethod y ∈ gwd) (hrm : fr' + 1 ≤ fr ∧ 8 + (maxL + 11) + lo' ≤ lo) (d : decode cc pc = .ok (.invokespecial idx, 3)) (hst : st0 = As.reverse ++ .ref b :: st) (hna : As.length = na) (hW : (st.map fun v => v.category).sum ≤ 8) (hcl : k + k' ≤ mcX X) (hsl : n + n' ≤ msX X)
    (K : Sp (lX X) (dtX X) y bytes maxL none fr' lo' k' n' (.ref b :: As) h (fun v h' => Wj X (k + k') (n + n') Q (pc + 3) lv (v.toList ++ st) h')) : Wj X k n Q pc lv st0 h := by
  obtain ⟨p, l, e, R, s, m, args, below, meth, c0, D, mc, ms⟩ := X
  intro h1 h2 ls H locs hl hR hL
  obtain ⟨hx, hb, hml, hown, hts, hK, hr, hlk, hnm, g1, g2, g3, g4⟩ := C
  obtain ⟨w1, w2, w3, w4⟩ := L
  exact runW (va_runI (Ts := gwd) (b := b) (As := As) (n := na) (free := fun q => D.2.2.size ≤ q) ⟨hx, hb, hml, hown, hts⟩ K ⟨callB_of na hts (goodG w3) rfl rfl rfl (hts _ w2) (hts _ w1) w4 ⟨by rw [g1]; exact hrm.1, by rw [g2]; exact hrm.2⟩, L2.1, hts _ L2.2⟩ (preS hR hK) rfl hna (by rw [← hml]; exact hl.1) hst (by show 2 * 0 + _ ≤ 8; omega) d ⟨by rw [g3]; exact hcl, by rw [g4]; exact hsl⟩) hl hL hcl hsl (fun v h' hw => hw)
theorem w_callSN (C : Cx X own cc nL ret nm fr lo) (L : CLN own idx y bytes maxL ret' na) (L2 : Cond.static y ∈ gwd) (hrm : fr' + 1 ≤ fr ∧ 8 + (maxL + 11) + lo' ≤ lo) (d : decode cc pc = .ok (.invokestatic idx, 3)) (hst : st0 = As.reverse ++ st) (hna : As.length = na) (hW : (st.map fun v => v.category).sum ≤ 8) (hcl : k + k' ≤ mcX X) (hsl : n + n' ≤ msX X)
    (K : Sp (lX X) (dtX X) y bytes maxL ret' fr' lo' k' n' As h (fun v h' => Wj X (k + k') (n + n') Q (pc + 3) lv (v.toList ++ st) h')) : Wj X k n Q pc lv st0 h := by
  obtain ⟨p, l, e, R, s, m, args, below, meth, c0, D, mc, ms⟩ := X
  intro h1 h2 ls H locs hl hR hL
  obtain ⟨hx, hb, hml, hown, hts, hK, hr, hlk, hnm, g1, g2, g3, g4⟩ := C
  obtain ⟨w1, w2, w3, w4⟩ := L
  exact runW (va_runSN (Ts := gwd) (As := As) (n := na) (host := RX9) (free := fun q => D.2.2.size ≤ q) ⟨hx, hb, hml, hown, hts⟩ K ⟨va_cnB na hts (goodG w3) rfl rfl rfl (hK.2.1 _ w1) (hts _ w2) w4 ⟨by rw [g1]; exact hrm.1, by rw [g2]; exact hrm.2⟩, hts _ L2, trivial⟩ (preS hR hK) rfl hna (by rw [← hml]; exact hl.1) hst (by show 2 * 0 + _ ≤ 8; omega) d ⟨by rw [g3]; exact hcl, by rw [g4]; exact hsl⟩) hl hL hcl hsl (fun v h' hw => hw)
theorem w_callIN (C : Cx X own cc nL ret nm fr lo) (L : CLN own idx y bytes maxL none na) (L2 : y.name = "<init>" ∧ Cond.instanceMethod y ∈ gwd) (hrm : fr' + 1 ≤ fr ∧ 8 + (maxL + 11) + lo' ≤ lo) (d : decode cc pc = .ok (.invokespecial idx, 3)) (hst : st0 = As.reverse ++ .ref b :: st) (hna : As.length = na) (hW : (st.map fun v => v.category).sum ≤ 8) (hcl : k + k' ≤ mcX X) (hsl : n + n' ≤ msX X)
    (K : Sp (lX X) (dtX X) y bytes maxL none fr' lo' k' n' (.ref b :: As) h (fun v h' => Wj X (k + k') (n + n') Q (pc + 3) lv (v.toList ++ st) h')) : Wj X k n Q pc lv st0 h := by
  obtain ⟨p, l, e, R, s, m, args, below, meth, c0, D, mc, ms⟩ := X
  intro h1 h2 ls H locs hl hR hL
  obtain ⟨hx, hb, hml, hown, hts, hK, hr, hlk, hnm, g1, g2, g3, g4⟩ := C
  obtain ⟨w1, w2, w3, w4⟩ := L
  exact runW (va_runIN (Ts := gwd) (b := b) (As := As) (n := na) (host := RX9) (free := fun q => D.2.2.size ≤ q) ⟨hx, hb, hml, hown, hts⟩ K ⟨va_cnB na hts (goodG w3) rfl rfl rfl (hK.2.1 _ w1) (hts _ w2) w4 ⟨by rw [g1]; exact hrm.1, by rw [g2]; exact hrm.2⟩, L2.1, hts _ L2.2⟩ (preS hR hK) rfl hna (by rw [← hml]; exact hl.1) hst (by show 2 * 0 + _ ≤ 8; omega) d ⟨by rw [g3]; exact hcl, by rw [g4]; exact hsl⟩) hl hL hcl hsl (fun v h' hw => hw)
end Calls3
end
section
section Copy
variable {X : Ctx} {k n : Nat} {Q : Pq} {pc : Nat} {lv : List (Nat × Value)} {st : List Value} {h : Hp} {own : String} {cc : ByteArray} {nL : Nat} {ret : Option FieldType} {nm : String} {fr lo : Nat} {idx : Nat}
theorem w_acopyI {a0 a : Nat} {sp dp z : Int32} (C : Cx X own cc nL ret nm fr lo) (w1 : Cond.methodLink own idx arraycopyName ∈ gwd) (w2 : Cond.native arraycopyName ∈ gwd) (w3 : Cond.static arraycopyName ∈ gwd) (w4 : Cond.initialized "java/lang/System" ∈ gwd) (d : decode cc pc = .ok (.invokestatic idx, 3)) (hfr : 1 ≤ fr) (hlo : (st.map fun v => v.category).sum + 18 ≤ lo) (hk0 : kd h a0 = 20) (hk : kd h a = 20) (q1 : ¬ sp < 0) (q2 : ¬ dp < 0) (q3 : ¬ z < 0) (q4 : ix sp + ix z ≤ ln h a0) (q5 : ix dp + ix z ≤ ln h a)
    (K : Wj X k n Q (pc + 3) lv st (siA h a (va_cpy (fun j => gi h a0 j) (fun j => gi h a j) (ix sp) (ix dp) (ix z)))) : Wj X k n Q pc lv (.int z :: .int dp :: .ref a :: .int sp :: .ref a0 :: st) h := by
  obtain ⟨p, l, e, R, s, m, args, below, meth, c0, D, mc, ms⟩ := X
  intro h1 h2 ls H locs hl hR hL
  obtain ⟨hx, hb, hml, hown, hts, hK, hr, hlk, hnm, g1, g2, g3, g4⟩ := C
  have nn : ∀ z : Int32, ¬ z < 0 → z.toInt = (z.toNatClampNeg : Int) := by
    intro z hz
    have hz0 : (0 : Int) ≤ z.toInt := by
      have := Int32.not_lt.mp hz
      simpa using Int32.le_iff_toInt_le.mp this
    show z.toInt = ((z.toInt.toNat : Nat) : Int)
    omega
  have hc0 : H[a0]? = some (arrV (D.2.1 0) (ln h a0) (fun j => .int (gi h a0 j))) := hR.arr 0 hk0 (by omega)
  have hc1 : H[a]? = some (arrV (D.2.1 0) (ln h a) (fun j => .int (gi h a j))) := hR.arr 0 hk (by omega)
  obtain ⟨-, k0, hkk0, cm0, hkc0⟩ := (hK.1.2 0 _ rfl).1 (ln h a0) (fun j => .int (gi h a0 j))
  intro T hT X
  obtain ⟨vm', X', step⟩ := X.arraycopy hx hown (hts _ w1) (hts _ w2) (hts _ w3) (hts _ w4) (src := a0) (dst := a) (cs := arrV (D.2.1 0) (ln h a0) (fun j => .int (gi h a0 j))) (cd := arrV (D.2.1 0) (ln h a) (fun j => .int (gi h a j))) (srcPos := sp) (destPos := dp) (n := z) (by rw [hT]; exact hc0) (by rw [hT]; exact hc1)
    (fun _ h => by cases h) (fun _ h => by cases h) (fun h => by cases h) (fun h => by cases h) hkk0 hkk0 hkc0 hkc0 (by simp [refKind]) q1 q2 q3
    (by rw [nn sp q1, nn z q3, arrV_size]; show ¬ _ > _; have := q4; rw [← ix_clamp, ← ix_clamp] at this; omega)
    (by rw [nn dp q2, nn z q3, arrV_size]; show ¬ _ > _; have := q5; rw [← ix_clamp, ← ix_clamp] at this; omega)
    (fun vm₁ _ i hi => by
      have e : (arrV (D.2.1 0) (ln h a0) (fun j => .int (gi h a0 j))).slots.getD (sp.toNatClampNeg + i) .null = .int (gi h a0 (sp.toNatClampNeg + i)) := by
        rw [Array.getD_eq_getD_getElem?, arrV_read _ _ (by have := q4; rw [← ix_clamp, ← ix_clamp] at this; omega)]
        rfl
      refine ⟨?_, ?_⟩
      · rw [e]; rfl
      · rw [e]
        exact trivial)
    (g := F0 m pc ls (.int z :: .int dp :: .ref a :: .int sp :: .ref a0 :: st)) rfl hl.1 (rest := st) rfl (by rw [hb]; exact d) (by rw [g1]; exact hfr) (by rw [g2]; show 2 * 0 + _ + (7 + 11) ≤ lo; omega)
  have e1 : copied (arrV (D.2.1 0) (ln h a0) (fun j => .int (gi h a0 j))) (arrV (D.2.1 0) (ln h a) (fun j => .int (gi h a j))) sp dp z = arrV (D.2.1 0) (ln h a) (fun j => .int (va_cpy (fun j => gi h a0 j) (fun j => gi h a j) sp.toNatClampNeg dp.toNatClampNeg z.toNatClampNeg j)) := va_copied (fun z => .int z) _ _ _ _ (by have := q4; rw [← ix_clamp, ← ix_clamp] at this; exact this)
  rw [e1] at X' step
  have hlt : a < H.size := (Array.getElem?_eq_some_iff.mp hc1).1
  generalize hcn : arrV (D.2.1 0) (ln h a) (fun j => .int (va_cpy (fun j => gi h a0 j) (fun j => gi h a j) sp.toNatClampNeg dp.toNatClampNeg z.toNatClampNeg j)) = cn at X' step
  have hheap : ((T.setVm vm').setCell a cn).heap = H.setIfInBounds a cn := by rw [← hT]; rfl
  have oq : ∀ q : Nat, q ≠ a → (H.setIfInBounds a cn)[q]? = H[q]? := fun q hq => by simp [Array.getElem?_setIfInBounds, Ne.symm hq]
  have oa : (H.setIfInBounds a cn)[a]? = some cn := by simp [Array.getElem?_setIfInBounds, hlt]
  have hRel : RelH D (siA h a (va_cpy (fun j => gi h a0 j) (fun j => gi h a j) (ix sp) (ix dp) (ix z))) (H.setIfInBounds a cn) := by
    refine hR.off (a := a) (by omega) (by simp) oq rfl (fun _ => rfl) (fun _ _ => rfl) (fun b hb j => ?_) (cellR.arr (t := 0) hk (by omega) ?_)
    · exact ⟨by rw [gi_siA, if_neg hb], rfl, rfl⟩
    · rw [oa, ← hcn]
      congr 2
      funext j
      show Value.int _ = Value.int (gi (siA h a _) a j)
      rw [gi_siA, if_pos rfl]; rfl
  obtain ⟨t, a1, b1⟩ := K h1 h2 ls (H.setIfInBounds a cn) _ hl hRel (locs_app hL (fun q hq => by
    obtain ⟨z9, -, hz⟩ := List.mem_map.mp hq
    rw [← hz]
    exact (hR.2.2.2 a (by omega)).1)) _ hheap X'
  exact ⟨t, step t a1, b1⟩
theorem w_acopyL {a0 a : Nat} {sp dp z : Int32} (C : Cx X own cc nL ret nm fr lo) (w1 : Cond.methodLink own idx arraycopyName ∈ gwd) (w2 : Cond.native arraycopyName ∈ gwd) (w3 : Cond.static arraycopyName ∈ gwd) (w4 : Cond.initialized "java/lang/System" ∈ gwd) (d : decode cc pc = .ok (.invokestatic idx, 3)) (hfr : 1 ≤ fr) (hlo : (st.map fun v => v.category).sum + 18 ≤ lo) (hk0 : kd h a0 = 21) (hk : kd h a = 21) (q1 : ¬ sp < 0) (q2 : ¬ dp < 0) (q3 : ¬ z < 0) (q4 : ix sp + ix z ≤ ln h a0) (q5 : ix dp + ix z ≤ ln h a)
    (K : Wj X k n Q (pc + 3) lv st (slA h a (va_cpy (fun j => gl h a0 j) (fun j => gl h a j) (ix sp) (ix dp) (ix z)))) : Wj X k n Q pc lv (.int z :: .int dp :: .ref a :: .int sp :: .ref a0 :: st) h := by
  obtain ⟨p, l, e, R, s, m, args, below, meth, c0, D, mc, ms⟩ := X
  intro h1 h2 ls H locs hl hR hL
  obtain ⟨hx, hb, hml, hown, hts, hK, hr, hlk, hnm, g1, g2, g3, g4⟩ := C
  have nn : ∀ z : Int32, ¬ z < 0 → z.toInt = (z.toNatClampNeg : Int) := by
    intro z hz
    have hz0 : (0 : Int) ≤ z.toInt := by
      have := Int32.not_lt.mp hz
      simpa using Int32.le_iff_toInt_le.mp this
    show z.toInt = ((z.toInt.toNat : Nat) : Int)
    omega
  have hc0 : H[a0]? = some (arrV (D.2.1 1) (ln h a0) (fun j => .long (gl h a0 j))) := hR.arr 1 hk0 (by omega)
  have hc1 : H[a]? = some (arrV (D.2.1 1) (ln h a) (fun j => .long (gl h a j))) := hR.arr 1 hk (by omega)
  obtain ⟨-, k0, hkk0, cm0, hkc0⟩ := (hK.1.2 1 _ rfl).1 (ln h a0) (fun j => .long (gl h a0 j))
  intro T hT X
  obtain ⟨vm', X', step⟩ := X.arraycopy hx hown (hts _ w1) (hts _ w2) (hts _ w3) (hts _ w4) (src := a0) (dst := a) (cs := arrV (D.2.1 1) (ln h a0) (fun j => .long (gl h a0 j))) (cd := arrV (D.2.1 1) (ln h a) (fun j => .long (gl h a j))) (srcPos := sp) (destPos := dp) (n := z) (by rw [hT]; exact hc0) (by rw [hT]; exact hc1)
    (fun _ h => by cases h) (fun _ h => by cases h) (fun h => by cases h) (fun h => by cases h) hkk0 hkk0 hkc0 hkc0 (by simp [refKind]) q1 q2 q3
    (by rw [nn sp q1, nn z q3, arrV_size]; show ¬ _ > _; have := q4; rw [← ix_clamp, ← ix_clamp] at this; omega)
    (by rw [nn dp q2, nn z q3, arrV_size]; show ¬ _ > _; have := q5; rw [← ix_clamp, ← ix_clamp] at this; omega)
    (fun vm₁ _ i hi => by
      have e : (arrV (D.2.1 1) (ln h a0) (fun j => .long (gl h a0 j))).slots.getD (sp.toNatClampNeg + i) .null = .long (gl h a0 (sp.toNatClampNeg + i)) := by
        rw [Array.getD_eq_getD_getElem?, arrV_read _ _ (by have := q4; rw [← ix_clamp, ← ix_clamp] at this; omega)]
        rfl
      refine ⟨?_, ?_⟩
      · rw [e]; rfl
      · rw [e]
        exact trivial)
    (g := F0 m pc ls (.int z :: .int dp :: .ref a :: .int sp :: .ref a0 :: st)) rfl hl.1 (rest := st) rfl (by rw [hb]; exact d) (by rw [g1]; exact hfr) (by rw [g2]; show 2 * 0 + _ + (7 + 11) ≤ lo; omega)
  have e1 : copied (arrV (D.2.1 1) (ln h a0) (fun j => .long (gl h a0 j))) (arrV (D.2.1 1) (ln h a) (fun j => .long (gl h a j))) sp dp z = arrV (D.2.1 1) (ln h a) (fun j => .long (va_cpy (fun j => gl h a0 j) (fun j => gl h a j) sp.toNatClampNeg dp.toNatClampNeg z.toNatClampNeg j)) := va_copied (fun z => .long z) _ _ _ _ (by have := q4; rw [← ix_clamp, ← ix_clamp] at this; exact this)
  rw [e1] at X' step
  have hlt : a < H.size := (Array.getElem?_eq_some_iff.mp hc1).1
  generalize hcn : arrV (D.2.1 1) (ln h a) (fun j => .long (va_cpy (fun j => gl h a0 j) (fun j => gl h a j) sp.toNatClampNeg dp.toNatClampNeg z.toNatClampNeg j)) = cn at X' step
  have hheap : ((T.setVm vm').setCell a cn).heap = H.setIfInBounds a cn := by rw [← hT]; rfl
  have oq : ∀ q : Nat, q ≠ a → (H.setIfInBounds a cn)[q]? = H[q]? := fun q hq => by simp [Array.getElem?_setIfInBounds, Ne.symm hq]
  have oa : (H.setIfInBounds a cn)[a]? = some cn := by simp [Array.getElem?_setIfInBounds, hlt]
  have hRel : RelH D (slA h a (va_cpy (fun j => gl h a0 j) (fun j => gl h a j) (ix sp) (ix dp) (ix z))) (H.setIfInBounds a cn) := by
    refine hR.off (a := a) (by omega) (by simp) oq rfl (fun _ => rfl) (fun _ _ => rfl) (fun b hb j => ?_) (cellR.arr (t := 1) hk (by omega) ?_)
    · exact ⟨rfl, by rw [gl_slA, if_neg hb], rfl⟩
    · rw [oa, ← hcn]
      congr 2
      funext j
      show Value.long _ = Value.long (gl (slA h a _) a j)
      rw [gl_slA, if_pos rfl]; rfl
  obtain ⟨t, a1, b1⟩ := K h1 h2 ls (H.setIfInBounds a cn) _ hl hRel (locs_app hL (fun q hq => by
    obtain ⟨z9, -, hz⟩ := List.mem_map.mp hq
    rw [← hz]
    exact (hR.2.2.2 a (by omega)).1)) _ hheap X'
  exact ⟨t, step t a1, b1⟩
end Copy
end
section
-- calls by arity, of callees that make no cells (0) and of those that do
def QI (K : Int32 → Hp → Prop) : Pq := fun v h => ∃ x, v = some (.int x) ∧ K x h
def QL (K : Int64 → Hp → Prop) : Pq := fun v h => ∃ x, v = some (.long x) ∧ K x h
def QR (K : Nat → Hp → Prop) : Pq := fun v h => ∃ x, v = some (.ref x) ∧ K x h
def QV (K : Hp → Prop) : Pq := fun v h => v = none ∧ K h
def nn (h : Hp) (a f : Nat) : Prop := gr h a f = some (gp h a f)
section Calls4
variable {X : Ctx} {k n : Nat} {Q : Pq} {pc : Nat} {lv : List (Nat × Value)} {st : List Value} {h : Hp} {own : String} {cc : ByteArray} {nL : Nat} {ret : Option FieldType} {nm : String} {fr lo : Nat} {b c idx : Nat}
variable {y : MethodName} {bytes : ByteArray} {maxL fr' lo' k' n' : Nat} {ret' : Option FieldType}
theorem Wj.room {K : k ≤ mcX X → n ≤ msX X → Wj X k n Q pc lv st h} : Wj X k n Q pc lv st h := by
  obtain ⟨p, l, e, R, s, m, args, below, meth, c0, D, mc, ms⟩ := X
  exact fun h1 h2 => K h1 h2 h1 h2
theorem w_cV0_0 (C : Cx X own cc nL ret nm fr lo) (L : CL own idx y bytes maxL ret' 0) (L2 : Cond.instanceMethod y ∈ gwd ∧ Cond.selects y.cls y y ∈ gwd) (hrm : fr' + 1 ≤ fr ∧ 8 + (maxL + 11) + lo' ≤ lo) (d : decode cc pc = .ok (.invokevirtual idx, 3)) (hW : (st.map fun v => v.category).sum ≤ 8) (hc : (vwCl[c]?).map (fun r => r.1) = some y.cls) (hk : kd h b = c + 1) (K : Sp (lX X) (dtX X) y bytes maxL ret' fr' lo' 0 0 [.ref b] h (fun v h' => Wj X k n Q (pc + 3) lv (v.toList ++ st) h')) : Wj X k n Q pc lv (.ref b :: st) h :=
  Wj.room (K := fun h1 h2 => w_callV (As := []) (st := st) C L L2 hrm d rfl rfl hW hc h1 h2 hk K)
theorem w_cV1_0 (C : Cx X own cc nL ret nm fr lo) (L : CL own idx y bytes maxL ret' 0) (L2 : Cond.instanceMethod y ∈ gwd ∧ Cond.selects y.cls y y ∈ gwd) (hrm : fr' + 1 ≤ fr ∧ 8 + (maxL + 11) + lo' ≤ lo) (d : decode cc pc = .ok (.invokevirtual idx, 3)) (hW : (st.map fun v => v.category).sum ≤ 8) (hc : (vwCl[c]?).map (fun r => r.1) = some y.cls) (hcl : k + k' ≤ mcX X) (hsl : n + n' ≤ msX X) (hk : kd h b = c + 1) (K : Sp (lX X) (dtX X) y bytes maxL ret' fr' lo' k' n' [.ref b] h (fun v h' => Wj X (k + k') (n + n') Q (pc + 3) lv (v.toList ++ st) h')) : Wj X k n Q pc lv (.ref b :: st) h :=
  w_callV (As := []) (st := st) C L L2 hrm d rfl rfl hW hc hcl hsl hk K
theorem w_cV0_1 {y1 : Value} (C : Cx X own cc nL ret nm fr lo) (L : CL own idx y bytes maxL ret' 1) (L2 : Cond.instanceMethod y ∈ gwd ∧ Cond.selects y.cls y y ∈ gwd) (hrm : fr' + 1 ≤ fr ∧ 8 + (maxL + 11) + lo' ≤ lo) (d : decode cc pc = .ok (.invokevirtual idx, 3)) (hW : (st.map fun v => v.category).sum ≤ 8) (hc : (vwCl[c]?).map (fun r => r.1) = some y.cls) (hk : kd h b = c + 1) (K : Sp (lX X) (dtX X) y bytes maxL ret' fr' lo' 0 0 [.ref b, y1] h (fun v h' => Wj X k n Q (pc + 3) lv (v.toList ++ st) h')) : Wj X k n Q pc lv (y1 :: .ref b :: st) h :=
  Wj.room (K := fun h1 h2 => w_callV (As := [y1]) (st := st) C L L2 hrm d rfl rfl hW hc h1 h2 hk K)
theorem w_cV1_1 {y1 : Value} (C : Cx X own cc nL ret nm fr lo) (L : CL own idx y bytes maxL ret' 1) (L2 : Cond.instanceMethod y ∈ gwd ∧ Cond.selects y.cls y y ∈ gwd) (hrm : fr' + 1 ≤ fr ∧ 8 + (maxL + 11) + lo' ≤ lo) (d : decode cc pc = .ok (.invokevirtual idx, 3)) (hW : (st.map fun v => v.category).sum ≤ 8) (hc : (vwCl[c]?).map (fun r => r.1) = some y.cls) (hcl : k + k' ≤ mcX X) (hsl : n + n' ≤ msX X) (hk : kd h b = c + 1) (K : Sp (lX X) (dtX X) y bytes maxL ret' fr' lo' k' n' [.ref b, y1] h (fun v h' => Wj X (k + k') (n + n') Q (pc + 3) lv (v.toList ++ st) h')) : Wj X k n Q pc lv (y1 :: .ref b :: st) h :=
  w_callV (As := [y1]) (st := st) C L L2 hrm d rfl rfl hW hc hcl hsl hk K
theorem w_cV0_2 {y1 y2 : Value} (C : Cx X own cc nL ret nm fr lo) (L : CL own idx y bytes maxL ret' 2) (L2 : Cond.instanceMethod y ∈ gwd ∧ Cond.selects y.cls y y ∈ gwd) (hrm : fr' + 1 ≤ fr ∧ 8 + (maxL + 11) + lo' ≤ lo) (d : decode cc pc = .ok (.invokevirtual idx, 3)) (hW : (st.map fun v => v.category).sum ≤ 8) (hc : (vwCl[c]?).map (fun r => r.1) = some y.cls) (hk : kd h b = c + 1) (K : Sp (lX X) (dtX X) y bytes maxL ret' fr' lo' 0 0 [.ref b, y1, y2] h (fun v h' => Wj X k n Q (pc + 3) lv (v.toList ++ st) h')) : Wj X k n Q pc lv (y2 :: y1 :: .ref b :: st) h :=
  Wj.room (K := fun h1 h2 => w_callV (As := [y1, y2]) (st := st) C L L2 hrm d rfl rfl hW hc h1 h2 hk K)
theorem w_cV1_2 {y1 y2 : Value} (C : Cx X own cc nL ret nm fr lo) (L : CL own idx y bytes maxL ret' 2) (L2 : Cond.instanceMethod y ∈ gwd ∧ Cond.selects y.cls y y ∈ gwd) (hrm : fr' + 1 ≤ fr ∧ 8 + (maxL + 11) + lo' ≤ lo) (d : decode cc pc = .ok (.invokevirtual idx, 3)) (hW : (st.map fun v => v.category).sum ≤ 8) (hc : (vwCl[c]?).map (fun r => r.1) = some y.cls) (hcl : k + k' ≤ mcX X) (hsl : n + n' ≤ msX X) (hk : kd h b = c + 1) (K : Sp (lX X) (dtX X) y bytes maxL ret' fr' lo' k' n' [.ref b, y1, y2] h (fun v h' => Wj X (k + k') (n + n') Q (pc + 3) lv (v.toList ++ st) h')) : Wj X k n Q pc lv (y2 :: y1 :: .ref b :: st) h :=
  w_callV (As := [y1, y2]) (st := st) C L L2 hrm d rfl rfl hW hc hcl hsl hk K
theorem w_cV0_3 {y1 y2 y3 : Value} (C : Cx X own cc nL ret nm fr lo) (L : CL own idx y bytes maxL ret' 3) (L2 : Cond.instanceMethod y ∈ gwd ∧ Cond.selects y.cls y y ∈ gwd) (hrm : fr' + 1 ≤ fr ∧ 8 + (maxL + 11) + lo' ≤ lo) (d : decode cc pc = .ok (.invokevirtual idx, 3)) (hW : (st.map fun v => v.category).sum ≤ 8) (hc : (vwCl[c]?).map (fun r => r.1) = some y.cls) (hk : kd h b = c + 1) (K : Sp (lX X) (dtX X) y bytes maxL ret' fr' lo' 0 0 [.ref b, y1, y2, y3] h (fun v h' => Wj X k n Q (pc + 3) lv (v.toList ++ st) h')) : Wj X k n Q pc lv (y3 :: y2 :: y1 :: .ref b :: st) h :=
  Wj.room (K := fun h1 h2 => w_callV (As := [y1, y2, y3]) (st := st) C L L2 hrm d rfl rfl hW hc h1 h2 hk K)
theorem w_cV1_3 {y1 y2 y3 : Value} (C : Cx X own cc nL ret nm fr lo) (L : CL own idx y bytes maxL ret' 3) (L2 : Cond.instanceMethod y ∈ gwd ∧ Cond.selects y.cls y y ∈ gwd) (hrm : fr' + 1 ≤ fr ∧ 8 + (maxL + 11) + lo' ≤ lo) (d : decode cc pc = .ok (.invokevirtual idx, 3)) (hW : (st.map fun v => v.category).sum ≤ 8) (hc : (vwCl[c]?).map (fun r => r.1) = some y.cls) (hcl : k + k' ≤ mcX X) (hsl : n + n' ≤ msX X) (hk : kd h b = c + 1) (K : Sp (lX X) (dtX X) y bytes maxL ret' fr' lo' k' n' [.ref b, y1, y2, y3] h (fun v h' => Wj X (k + k') (n + n') Q (pc + 3) lv (v.toList ++ st) h')) : Wj X k n Q pc lv (y3 :: y2 :: y1 :: .ref b :: st) h :=
  w_callV (As := [y1, y2, y3]) (st := st) C L L2 hrm d rfl rfl hW hc hcl hsl hk K
theorem w_cV0_4 {y1 y2 y3 y4 : Value} (C : Cx X own cc nL ret nm fr lo) (L : CL own idx y bytes maxL ret' 4) (L2 : Cond.instanceMethod y ∈ gwd ∧ Cond.selects y.cls y y ∈ gwd) (hrm : fr' + 1 ≤ fr ∧ 8 + (maxL + 11) + lo' ≤ lo) (d : decode cc pc = .ok (.invokevirtual idx, 3)) (hW : (st.map fun v => v.category).sum ≤ 8) (hc : (vwCl[c]?).map (fun r => r.1) = some y.cls) (hk : kd h b = c + 1) (K : Sp (lX X) (dtX X) y bytes maxL ret' fr' lo' 0 0 [.ref b, y1, y2, y3, y4] h (fun v h' => Wj X k n Q (pc + 3) lv (v.toList ++ st) h')) : Wj X k n Q pc lv (y4 :: y3 :: y2 :: y1 :: .ref b :: st) h :=
  Wj.room (K := fun h1 h2 => w_callV (As := [y1, y2, y3, y4]) (st := st) C L L2 hrm d rfl rfl hW hc h1 h2 hk K)
theorem w_cV1_4 {y1 y2 y3 y4 : Value} (C : Cx X own cc nL ret nm fr lo) (L : CL own idx y bytes maxL ret' 4) (L2 : Cond.instanceMethod y ∈ gwd ∧ Cond.selects y.cls y y ∈ gwd) (hrm : fr' + 1 ≤ fr ∧ 8 + (maxL + 11) + lo' ≤ lo) (d : decode cc pc = .ok (.invokevirtual idx, 3)) (hW : (st.map fun v => v.category).sum ≤ 8) (hc : (vwCl[c]?).map (fun r => r.1) = some y.cls) (hcl : k + k' ≤ mcX X) (hsl : n + n' ≤ msX X) (hk : kd h b = c + 1) (K : Sp (lX X) (dtX X) y bytes maxL ret' fr' lo' k' n' [.ref b, y1, y2, y3, y4] h (fun v h' => Wj X (k + k') (n + n') Q (pc + 3) lv (v.toList ++ st) h')) : Wj X k n Q pc lv (y4 :: y3 :: y2 :: y1 :: .ref b :: st) h :=
  w_callV (As := [y1, y2, y3, y4]) (st := st) C L L2 hrm d rfl rfl hW hc hcl hsl hk K
theorem w_cV0_5 {y1 y2 y3 y4 y5 : Value} (C : Cx X own cc nL ret nm fr lo) (L : CL own idx y bytes maxL ret' 5) (L2 : Cond.instanceMethod y ∈ gwd ∧ Cond.selects y.cls y y ∈ gwd) (hrm : fr' + 1 ≤ fr ∧ 8 + (maxL + 11) + lo' ≤ lo) (d : decode cc pc = .ok (.invokevirtual idx, 3)) (hW : (st.map fun v => v.category).sum ≤ 8) (hc : (vwCl[c]?).map (fun r => r.1) = some y.cls) (hk : kd h b = c + 1) (K : Sp (lX X) (dtX X) y bytes maxL ret' fr' lo' 0 0 [.ref b, y1, y2, y3, y4, y5] h (fun v h' => Wj X k n Q (pc + 3) lv (v.toList ++ st) h')) : Wj X k n Q pc lv (y5 :: y4 :: y3 :: y2 :: y1 :: .ref b :: st) h :=
  Wj.room (K := fun h1 h2 => w_callV (As := [y1, y2, y3, y4, y5]) (st := st) C L L2 hrm d rfl rfl hW hc h1 h2 hk K)
theorem w_cV1_5 {y1 y2 y3 y4 y5 : Value} (C : Cx X own cc nL ret nm fr lo) (L : CL own idx y bytes maxL ret' 5) (L2 : Cond.instanceMethod y ∈ gwd ∧ Cond.selects y.cls y y ∈ gwd) (hrm : fr' + 1 ≤ fr ∧ 8 + (maxL + 11) + lo' ≤ lo) (d : decode cc pc = .ok (.invokevirtual idx, 3)) (hW : (st.map fun v => v.category).sum ≤ 8) (hc : (vwCl[c]?).map (fun r => r.1) = some y.cls) (hcl : k + k' ≤ mcX X) (hsl : n + n' ≤ msX X) (hk : kd h b = c + 1) (K : Sp (lX X) (dtX X) y bytes maxL ret' fr' lo' k' n' [.ref b, y1, y2, y3, y4, y5] h (fun v h' => Wj X (k + k') (n + n') Q (pc + 3) lv (v.toList ++ st) h')) : Wj X k n Q pc lv (y5 :: y4 :: y3 :: y2 :: y1 :: .ref b :: st) h :=
  w_callV (As := [y1, y2, y3, y4, y5]) (st := st) C L L2 hrm d rfl rfl hW hc hcl hsl hk K
theorem w_cV0_6 {y1 y2 y3 y4 y5 y6 : Value} (C : Cx X own cc nL ret nm fr lo) (L : CL own idx y bytes maxL ret' 6) (L2 : Cond.instanceMethod y ∈ gwd ∧ Cond.selects y.cls y y ∈ gwd) (hrm : fr' + 1 ≤ fr ∧ 8 + (maxL + 11) + lo' ≤ lo) (d : decode cc pc = .ok (.invokevirtual idx, 3)) (hW : (st.map fun v => v.category).sum ≤ 8) (hc : (vwCl[c]?).map (fun r => r.1) = some y.cls) (hk : kd h b = c + 1) (K : Sp (lX X) (dtX X) y bytes maxL ret' fr' lo' 0 0 [.ref b, y1, y2, y3, y4, y5, y6] h (fun v h' => Wj X k n Q (pc + 3) lv (v.toList ++ st) h')) : Wj X k n Q pc lv (y6 :: y5 :: y4 :: y3 :: y2 :: y1 :: .ref b :: st) h :=
  Wj.room (K := fun h1 h2 => w_callV (As := [y1, y2, y3, y4, y5, y6]) (st := st) C L L2 hrm d rfl rfl hW hc h1 h2 hk K)
theorem w_cV1_6 {y1 y2 y3 y4 y5 y6 : Value} (C : Cx X own cc nL ret nm fr lo) (L : CL own idx y bytes maxL ret' 6) (L2 : Cond.instanceMethod y ∈ gwd ∧ Cond.selects y.cls y y ∈ gwd) (hrm : fr' + 1 ≤ fr ∧ 8 + (maxL + 11) + lo' ≤ lo) (d : decode cc pc = .ok (.invokevirtual idx, 3)) (hW : (st.map fun v => v.category).sum ≤ 8) (hc : (vwCl[c]?).map (fun r => r.1) = some y.cls) (hcl : k + k' ≤ mcX X) (hsl : n + n' ≤ msX X) (hk : kd h b = c + 1) (K : Sp (lX X) (dtX X) y bytes maxL ret' fr' lo' k' n' [.ref b, y1, y2, y3, y4, y5, y6] h (fun v h' => Wj X (k + k') (n + n') Q (pc + 3) lv (v.toList ++ st) h')) : Wj X k n Q pc lv (y6 :: y5 :: y4 :: y3 :: y2 :: y1 :: .ref b :: st) h :=
  w_callV (As := [y1, y2, y3, y4, y5, y6]) (st := st) C L L2 hrm d rfl rfl hW hc hcl hsl hk K
theorem w_cS0_1 {y1 : Value} (C : Cx X own cc nL ret nm fr lo) (L : CL own idx y bytes maxL ret' 1) (L2 : Cond.static y ∈ gwd) (hrm : fr' + 1 ≤ fr ∧ 8 + (maxL + 11) + lo' ≤ lo) (d : decode cc pc = .ok (.invokestatic idx, 3)) (hW : (st.map fun v => v.category).sum ≤ 8)  (K : Sp (lX X) (dtX X) y bytes maxL ret' fr' lo' 0 0 [y1] h (fun v h' => Wj X k n Q (pc + 3) lv (v.toList ++ st) h')) : Wj X k n Q pc lv (y1 :: st) h :=
  Wj.room (K := fun h1 h2 => w_callS (As := [y1]) (st := st) C L L2 hrm d rfl rfl hW h1 h2 K)
theorem w_cS0_2 {y1 y2 : Value} (C : Cx X own cc nL ret nm fr lo) (L : CL own idx y bytes maxL ret' 2) (L2 : Cond.static y ∈ gwd) (hrm : fr' + 1 ≤ fr ∧ 8 + (maxL + 11) + lo' ≤ lo) (d : decode cc pc = .ok (.invokestatic idx, 3)) (hW : (st.map fun v => v.category).sum ≤ 8)  (K : Sp (lX X) (dtX X) y bytes maxL ret' fr' lo' 0 0 [y1, y2] h (fun v h' => Wj X k n Q (pc + 3) lv (v.toList ++ st) h')) : Wj X k n Q pc lv (y2 :: y1 :: st) h :=
  Wj.room (K := fun h1 h2 => w_callS (As := [y1, y2]) (st := st) C L L2 hrm d rfl rfl hW h1 h2 K)
theorem w_cS0_3 {y1 y2 y3 : Value} (C : Cx X own cc nL ret nm fr lo) (L : CL own idx y bytes maxL ret' 3) (L2 : Cond.static y ∈ gwd) (hrm : fr' + 1 ≤ fr ∧ 8 + (maxL + 11) + lo' ≤ lo) (d : decode cc pc = .ok (.invokestatic idx, 3)) (hW : (st.map fun v => v.category).sum ≤ 8)  (K : Sp (lX X) (dtX X) y bytes maxL ret' fr' lo' 0 0 [y1, y2, y3] h (fun v h' => Wj X k n Q (pc + 3) lv (v.toList ++ st) h')) : Wj X k n Q pc lv (y3 :: y2 :: y1 :: st) h :=
  Wj.room (K := fun h1 h2 => w_callS (As := [y1, y2, y3]) (st := st) C L L2 hrm d rfl rfl hW h1 h2 K)
theorem w_cS0_4 {y1 y2 y3 y4 : Value} (C : Cx X own cc nL ret nm fr lo) (L : CL own idx y bytes maxL ret' 4) (L2 : Cond.static y ∈ gwd) (hrm : fr' + 1 ≤ fr ∧ 8 + (maxL + 11) + lo' ≤ lo) (d : decode cc pc = .ok (.invokestatic idx, 3)) (hW : (st.map fun v => v.category).sum ≤ 8)  (K : Sp (lX X) (dtX X) y bytes maxL ret' fr' lo' 0 0 [y1, y2, y3, y4] h (fun v h' => Wj X k n Q (pc + 3) lv (v.toList ++ st) h')) : Wj X k n Q pc lv (y4 :: y3 :: y2 :: y1 :: st) h :=
  Wj.room (K := fun h1 h2 => w_callS (As := [y1, y2, y3, y4]) (st := st) C L L2 hrm d rfl rfl hW h1 h2 K)
theorem w_cS0_5 {y1 y2 y3 y4 y5 : Value} (C : Cx X own cc nL ret nm fr lo) (L : CL own idx y bytes maxL ret' 5) (L2 : Cond.static y ∈ gwd) (hrm : fr' + 1 ≤ fr ∧ 8 + (maxL + 11) + lo' ≤ lo) (d : decode cc pc = .ok (.invokestatic idx, 3)) (hW : (st.map fun v => v.category).sum ≤ 8)  (K : Sp (lX X) (dtX X) y bytes maxL ret' fr' lo' 0 0 [y1, y2, y3, y4, y5] h (fun v h' => Wj X k n Q (pc + 3) lv (v.toList ++ st) h')) : Wj X k n Q pc lv (y5 :: y4 :: y3 :: y2 :: y1 :: st) h :=
  Wj.room (K := fun h1 h2 => w_callS (As := [y1, y2, y3, y4, y5]) (st := st) C L L2 hrm d rfl rfl hW h1 h2 K)
theorem w_cS0_6 {y1 y2 y3 y4 y5 y6 : Value} (C : Cx X own cc nL ret nm fr lo) (L : CL own idx y bytes maxL ret' 6) (L2 : Cond.static y ∈ gwd) (hrm : fr' + 1 ≤ fr ∧ 8 + (maxL + 11) + lo' ≤ lo) (d : decode cc pc = .ok (.invokestatic idx, 3)) (hW : (st.map fun v => v.category).sum ≤ 8)  (K : Sp (lX X) (dtX X) y bytes maxL ret' fr' lo' 0 0 [y1, y2, y3, y4, y5, y6] h (fun v h' => Wj X k n Q (pc + 3) lv (v.toList ++ st) h')) : Wj X k n Q pc lv (y6 :: y5 :: y4 :: y3 :: y2 :: y1 :: st) h :=
  Wj.room (K := fun h1 h2 => w_callS (As := [y1, y2, y3, y4, y5, y6]) (st := st) C L L2 hrm d rfl rfl hW h1 h2 K)
theorem w_cI0_0 (C : Cx X own cc nL ret nm fr lo) (L : CL own idx y bytes maxL none 0) (L2 : y.name = "<init>" ∧ Cond.instanceMethod y ∈ gwd) (hrm : fr' + 1 ≤ fr ∧ 8 + (maxL + 11) + lo' ≤ lo) (d : decode cc pc = .ok (.invokespecial idx, 3)) (hW : (st.map fun v => v.category).sum ≤ 8)  (K : Sp (lX X) (dtX X) y bytes maxL none fr' lo' 0 0 [.ref b] h (fun v h' => Wj X k n Q (pc + 3) lv (v.toList ++ st) h')) : Wj X k n Q pc lv (.ref b :: st) h :=
  Wj.room (K := fun h1 h2 => w_callI (As := []) (st := st) C L L2 hrm d rfl rfl hW h1 h2 K)
theorem w_cI1_0 (C : Cx X own cc nL ret nm fr lo) (L : CL own idx y bytes maxL none 0) (L2 : y.name = "<init>" ∧ Cond.instanceMethod y ∈ gwd) (hrm : fr' + 1 ≤ fr ∧ 8 + (maxL + 11) + lo' ≤ lo) (d : decode cc pc = .ok (.invokespecial idx, 3)) (hW : (st.map fun v => v.category).sum ≤ 8)  (hcl : k + k' ≤ mcX X) (hsl : n + n' ≤ msX X) (K : Sp (lX X) (dtX X) y bytes maxL none fr' lo' k' n' [.ref b] h (fun v h' => Wj X (k + k') (n + n') Q (pc + 3) lv (v.toList ++ st) h')) : Wj X k n Q pc lv (.ref b :: st) h :=
  w_callI (As := []) (st := st) C L L2 hrm d rfl rfl hW hcl hsl K
theorem w_cSN0_1 {y1 : Value} (C : Cx X own cc nL ret nm fr lo) (L : CLN own idx y bytes maxL ret' 1) (L2 : Cond.static y ∈ gwd) (hrm : fr' + 1 ≤ fr ∧ 8 + (maxL + 11) + lo' ≤ lo) (d : decode cc pc = .ok (.invokestatic idx, 3)) (hW : (st.map fun v => v.category).sum ≤ 8)  (K : Sp (lX X) (dtX X) y bytes maxL ret' fr' lo' 0 0 [y1] h (fun v h' => Wj X k n Q (pc + 3) lv (v.toList ++ st) h')) : Wj X k n Q pc lv (y1 :: st) h :=
  Wj.room (K := fun h1 h2 => w_callSN (As := [y1]) (st := st) C L L2 hrm d rfl rfl hW h1 h2 K)
theorem w_cSN0_2 {y1 y2 : Value} (C : Cx X own cc nL ret nm fr lo) (L : CLN own idx y bytes maxL ret' 2) (L2 : Cond.static y ∈ gwd) (hrm : fr' + 1 ≤ fr ∧ 8 + (maxL + 11) + lo' ≤ lo) (d : decode cc pc = .ok (.invokestatic idx, 3)) (hW : (st.map fun v => v.category).sum ≤ 8)  (K : Sp (lX X) (dtX X) y bytes maxL ret' fr' lo' 0 0 [y1, y2] h (fun v h' => Wj X k n Q (pc + 3) lv (v.toList ++ st) h')) : Wj X k n Q pc lv (y2 :: y1 :: st) h :=
  Wj.room (K := fun h1 h2 => w_callSN (As := [y1, y2]) (st := st) C L L2 hrm d rfl rfl hW h1 h2 K)
theorem w_cSN0_3 {y1 y2 y3 : Value} (C : Cx X own cc nL ret nm fr lo) (L : CLN own idx y bytes maxL ret' 3) (L2 : Cond.static y ∈ gwd) (hrm : fr' + 1 ≤ fr ∧ 8 + (maxL + 11) + lo' ≤ lo) (d : decode cc pc = .ok (.invokestatic idx, 3)) (hW : (st.map fun v => v.category).sum ≤ 8)  (K : Sp (lX X) (dtX X) y bytes maxL ret' fr' lo' 0 0 [y1, y2, y3] h (fun v h' => Wj X k n Q (pc + 3) lv (v.toList ++ st) h')) : Wj X k n Q pc lv (y3 :: y2 :: y1 :: st) h :=
  Wj.room (K := fun h1 h2 => w_callSN (As := [y1, y2, y3]) (st := st) C L L2 hrm d rfl rfl hW h1 h2 K)
theorem w_cSN0_4 {y1 y2 y3 y4 : Value} (C : Cx X own cc nL ret nm fr lo) (L : CLN own idx y bytes maxL ret' 4) (L2 : Cond.static y ∈ gwd) (hrm : fr' + 1 ≤ fr ∧ 8 + (maxL + 11) + lo' ≤ lo) (d : decode cc pc = .ok (.invokestatic idx, 3)) (hW : (st.map fun v => v.category).sum ≤ 8)  (K : Sp (lX X) (dtX X) y bytes maxL ret' fr' lo' 0 0 [y1, y2, y3, y4] h (fun v h' => Wj X k n Q (pc + 3) lv (v.toList ++ st) h')) : Wj X k n Q pc lv (y4 :: y3 :: y2 :: y1 :: st) h :=
  Wj.room (K := fun h1 h2 => w_callSN (As := [y1, y2, y3, y4]) (st := st) C L L2 hrm d rfl rfl hW h1 h2 K)
theorem w_cIN0_0 (C : Cx X own cc nL ret nm fr lo) (L : CLN own idx y bytes maxL none 0) (L2 : y.name = "<init>" ∧ Cond.instanceMethod y ∈ gwd) (hrm : fr' + 1 ≤ fr ∧ 8 + (maxL + 11) + lo' ≤ lo) (d : decode cc pc = .ok (.invokespecial idx, 3)) (hW : (st.map fun v => v.category).sum ≤ 8)  (K : Sp (lX X) (dtX X) y bytes maxL none fr' lo' 0 0 [.ref b] h (fun v h' => Wj X k n Q (pc + 3) lv (v.toList ++ st) h')) : Wj X k n Q pc lv (.ref b :: st) h :=
  Wj.room (K := fun h1 h2 => w_callIN (As := []) (st := st) C L L2 hrm d rfl rfl hW h1 h2 K)
theorem w_cIN1_0 (C : Cx X own cc nL ret nm fr lo) (L : CLN own idx y bytes maxL none 0) (L2 : y.name = "<init>" ∧ Cond.instanceMethod y ∈ gwd) (hrm : fr' + 1 ≤ fr ∧ 8 + (maxL + 11) + lo' ≤ lo) (d : decode cc pc = .ok (.invokespecial idx, 3)) (hW : (st.map fun v => v.category).sum ≤ 8)  (hcl : k + k' ≤ mcX X) (hsl : n + n' ≤ msX X) (K : Sp (lX X) (dtX X) y bytes maxL none fr' lo' k' n' [.ref b] h (fun v h' => Wj X (k + k') (n + n') Q (pc + 3) lv (v.toList ++ st) h')) : Wj X k n Q pc lv (.ref b :: st) h :=
  w_callIN (As := []) (st := st) C L L2 hrm d rfl rfl hW hcl hsl K
end Calls4
end
section
-- links: fields, classes, calls, constants, by their places in the tables (by program: gen_links.py)
theorem inT1 {w : Cond} (i : Nat) (h : tables_1_1[i]? = some w) (g : goodWord w = true) : w ∈ gwd := List.mem_filter.mpr ⟨List.mem_append_right _ (List.mem_append_left _ (List.mem_of_getElem? h)), g⟩
theorem inT2 {w : Cond} (i : Nat) (h : tables_1_2[i]? = some w) (g : goodWord w = true) : w ∈ gwd := List.mem_filter.mpr ⟨List.mem_append_right _ (List.mem_append_right _ (List.mem_append_left _ (List.mem_of_getElem? h))), g⟩
theorem inT3 {w : Cond} (i : Nat) (h : tables_1_3[i]? = some w) (g : goodWord w = true) : w ∈ gwd := List.mem_filter.mpr ⟨List.mem_append_right _ (List.mem_append_right _ (List.mem_append_right _ (List.mem_append_left _ (List.mem_of_getElem? h)))), g⟩
theorem inT4 {w : Cond} (i : Nat) (h : tables_1_4[i]? = some w) (g : goodWord w = true) : w ∈ gwd := List.mem_filter.mpr ⟨List.mem_append_right _ (List.mem_append_right _ (List.mem_append_right _ (List.mem_append_right _ (List.mem_append_left _ (List.mem_of_getElem? h))))), g⟩
theorem inT5 {w : Cond} (i : Nat) (h : tables_1_5[i]? = some w) (g : goodWord w = true) : w ∈ gwd := List.mem_filter.mpr ⟨List.mem_append_right _ (List.mem_append_right _ (List.mem_append_right _ (List.mem_append_right _ (List.mem_append_right _ (List.mem_append_left _ (List.mem_of_getElem? h)))))), g⟩
theorem inT6 {w : Cond} (i : Nat) (h : tables_1_6[i]? = some w) (g : goodWord w = true) : w ∈ gwd := List.mem_filter.mpr ⟨List.mem_append_right _ (List.mem_append_right _ (List.mem_append_right _ (List.mem_append_right _ (List.mem_append_right _ (List.mem_append_right _ (List.mem_append_left _ (List.mem_of_getElem? h))))))), g⟩
theorem inT7 {w : Cond} (i : Nat) (h : tables_1_7[i]? = some w) (g : goodWord w = true) : w ∈ gwd := List.mem_filter.mpr ⟨List.mem_append_right _ (List.mem_append_right _ (List.mem_append_right _ (List.mem_append_right _ (List.mem_append_right _ (List.mem_append_right _ (List.mem_append_right _ (List.mem_of_getElem? h))))))), g⟩
theorem fl_X9_10 : FL RX9 10 9 0 := ⟨_, rfl, by decide, inT2 45 (by rfl) rfl⟩
theorem fl_X9_19 : FL RX9 19 9 1 := ⟨_, rfl, by decide, inT2 46 (by rfl) rfl⟩
theorem fl_X9_26 : FL RX9 26 9 2 := ⟨_, rfl, by decide, inT2 47 (by rfl) rfl⟩
theorem fl_X9_33 : FL RX9 33 9 3 := ⟨_, rfl, by decide, inT2 48 (by rfl) rfl⟩
theorem fl_X9_40 : FL RX9 40 9 4 := ⟨_, rfl, by decide, inT2 49 (by rfl) rfl⟩
theorem fl_X9_47 : FL RX9 47 9 5 := ⟨_, rfl, by decide, inT2 50 (by rfl) rfl⟩
theorem fl_X9_54 : FL RX9 54 9 6 := ⟨_, rfl, by decide, inT2 51 (by rfl) rfl⟩
theorem fl_X9_58 : FL RX9 58 9 7 := ⟨_, rfl, by decide, inT2 52 (by rfl) rfl⟩
theorem fl_X9_63 : FL RX9 63 9 8 := ⟨_, rfl, by decide, inT2 53 (by rfl) rfl⟩
theorem fl_X9_67 : FL RX9 67 9 9 := ⟨_, rfl, by decide, inT2 54 (by rfl) rfl⟩
theorem fl_X9_70 : FL RX9 70 9 10 := ⟨_, rfl, by decide, inT2 55 (by rfl) rfl⟩
theorem fl_X9_74 : FL RX9 74 9 11 := ⟨_, rfl, by decide, inT2 56 (by rfl) rfl⟩
theorem fl_X9_78 : FL RX9 78 9 12 := ⟨_, rfl, by decide, inT2 57 (by rfl) rfl⟩
theorem fl_X9_82 : FL RX9 82 9 13 := ⟨_, rfl, by decide, inT2 58 (by rfl) rfl⟩
theorem fl_X9_85 : FL RX9 85 9 14 := ⟨_, rfl, by decide, inT2 59 (by rfl) rfl⟩
theorem fl_X9_96 : FL RX9 96 7 1 := ⟨_, rfl, by decide, inT1 41 (by rfl) rfl⟩
theorem fl_X9_131 : FL RX9 131 4 3 := ⟨_, rfl, by decide, inT1 207 (by rfl) rfl⟩
theorem fl_X9_137 : FL RX9 137 4 2 := ⟨_, rfl, by decide, inT1 203 (by rfl) rfl⟩
theorem fl_X9_140 : FL RX9 140 4 4 := ⟨_, rfl, by decide, inT1 210 (by rfl) rfl⟩
theorem fl_X9_184 : FL RX9 184 6 0 := ⟨_, rfl, by decide, inT1 71 (by rfl) rfl⟩
theorem fl_X9_187 : FL RX9 187 6 1 := ⟨_, rfl, by decide, inT1 73 (by rfl) rfl⟩
theorem fl_X9_190 : FL RX9 190 6 2 := ⟨_, rfl, by decide, inT1 75 (by rfl) rfl⟩
theorem fl_X9_193 : FL RX9 193 6 3 := ⟨_, rfl, by decide, inT1 77 (by rfl) rfl⟩
theorem fl_X9_197 : FL RX9 197 0 0 := ⟨_, rfl, by decide, inT1 94 (by rfl) rfl⟩
theorem fl_X9_200 : FL RX9 200 0 1 := ⟨_, rfl, by decide, inT1 96 (by rfl) rfl⟩
theorem fl_X9_201 : FL RX9 201 0 2 := ⟨_, rfl, by decide, inT1 98 (by rfl) rfl⟩
theorem fl_X9_204 : FL RX9 204 0 3 := ⟨_, rfl, by decide, inT1 100 (by rfl) rfl⟩
theorem fl_X9_205 : FL RX9 205 0 4 := ⟨_, rfl, by decide, inT1 102 (by rfl) rfl⟩
theorem fl_X9_208 : FL RX9 208 0 5 := ⟨_, rfl, by decide, inT1 104 (by rfl) rfl⟩
theorem fl_X9_218 : FL RX9 218 1 1 := ⟨_, rfl, by decide, inT1 129 (by rfl) rfl⟩
theorem fl_X9_220 : FL RX9 220 1 0 := ⟨_, rfl, by decide, inT1 127 (by rfl) rfl⟩
theorem fl_X9_223 : FL RX9 223 1 2 := ⟨_, rfl, by decide, inT1 131 (by rfl) rfl⟩
theorem fl_X9_231 : FL RX9 231 1 3 := ⟨_, rfl, by decide, inT1 133 (by rfl) rfl⟩
theorem fl_X9_263 : FL RX9 263 5 0 := ⟨_, rfl, by decide, inT3 22 (by rfl) rfl⟩
theorem fl_X9_273 : FL RX9 273 4 0 := ⟨_, rfl, by decide, inT1 199 (by rfl) rfl⟩
theorem fl_X9_276 : FL RX9 276 4 1 := ⟨_, rfl, by decide, inT1 201 (by rfl) rfl⟩
theorem fl_X9_297 : FL RX9 297 2 0 := ⟨_, rfl, by decide, inT1 159 (by rfl) rfl⟩
theorem fl_X9_300 : FL RX9 300 2 1 := ⟨_, rfl, by decide, inT1 164 (by rfl) rfl⟩
theorem fl_X9_333 : FL RX9 333 4 8 := ⟨_, rfl, by decide, inT1 219 (by rfl) rfl⟩
theorem fl_X9_343 : FL RX9 343 4 9 := ⟨_, rfl, by decide, inT1 221 (by rfl) rfl⟩
theorem fl_X9_360 : FL RX9 360 3 0 := ⟨_, rfl, by decide, inT1 171 (by rfl) rfl⟩
theorem fl_X9_363 : FL RX9 363 4 7 := ⟨_, rfl, by decide, inT1 217 (by rfl) rfl⟩
theorem fl_X9_410 : FL RX9 410 4 5 := ⟨_, rfl, by decide, inT1 212 (by rfl) rfl⟩
theorem fl_X9_414 : FL RX9 414 4 6 := ⟨_, rfl, by decide, inT1 214 (by rfl) rfl⟩
theorem fl_X9_416 : FL RX9 416 8 1 := ⟨_, rfl, by decide, inT1 56 (by rfl) rfl⟩
theorem fl_X0_9 : FL RX0 9 0 0 := ⟨_, rfl, by decide, inT1 93 (by rfl) rfl⟩
theorem fl_X0_15 : FL RX0 15 0 1 := ⟨_, rfl, by decide, inT1 95 (by rfl) rfl⟩
theorem fl_X0_18 : FL RX0 18 0 2 := ⟨_, rfl, by decide, inT1 97 (by rfl) rfl⟩
theorem fl_X0_21 : FL RX0 21 0 3 := ⟨_, rfl, by decide, inT1 99 (by rfl) rfl⟩
theorem fl_X0_24 : FL RX0 24 0 4 := ⟨_, rfl, by decide, inT1 101 (by rfl) rfl⟩
theorem fl_X0_27 : FL RX0 27 0 5 := ⟨_, rfl, by decide, inT1 103 (by rfl) rfl⟩
theorem fl_X0_30 : FL RX0 30 4 3 := ⟨_, rfl, by decide, inT1 205 (by rfl) rfl⟩
theorem fl_X0_46 : FL RX0 46 4 0 := ⟨_, rfl, by decide, inT1 197 (by rfl) rfl⟩
theorem fl_X1_12 : FL RX1 12 1 0 := ⟨_, rfl, by decide, inT1 126 (by rfl) rfl⟩
theorem fl_X1_18 : FL RX1 18 1 1 := ⟨_, rfl, by decide, inT1 128 (by rfl) rfl⟩
theorem fl_X1_22 : FL RX1 22 1 2 := ⟨_, rfl, by decide, inT1 130 (by rfl) rfl⟩
theorem fl_X1_25 : FL RX1 25 1 3 := ⟨_, rfl, by decide, inT1 132 (by rfl) rfl⟩
theorem fl_X1_36 : FL RX1 36 6 0 := ⟨_, rfl, by decide, inT1 70 (by rfl) rfl⟩
theorem fl_X1_39 : FL RX1 39 4 0 := ⟨_, rfl, by decide, inT1 198 (by rfl) rfl⟩
theorem fl_X2_7 : FL RX2 7 2 0 := ⟨_, rfl, by decide, inT1 155 (by rfl) rfl⟩
theorem fl_X2_13 : FL RX2 13 2 1 := ⟨_, rfl, by decide, inT1 160 (by rfl) rfl⟩
theorem fl_X3_9 : FL RX3 9 3 0 := ⟨_, rfl, by decide, inT1 170 (by rfl) rfl⟩
theorem fl_X3_18 : FL RX3 18 3 1 := ⟨_, rfl, by decide, inT1 172 (by rfl) rfl⟩
theorem fl_X3_22 : FL RX3 22 3 2 := ⟨_, rfl, by decide, inT1 173 (by rfl) rfl⟩
theorem fl_X3_26 : FL RX3 26 3 3 := ⟨_, rfl, by decide, inT1 174 (by rfl) rfl⟩
theorem fl_X3_29 : FL RX3 29 4 7 := ⟨_, rfl, by decide, inT1 216 (by rfl) rfl⟩
theorem fl_X3_42 : FL RX3 42 2 0 := ⟨_, rfl, by decide, inT1 156 (by rfl) rfl⟩
theorem fl_X3_46 : FL RX3 46 2 1 := ⟨_, rfl, by decide, inT1 161 (by rfl) rfl⟩
theorem fl_X4_9 : FL RX4 9 4 0 := ⟨_, rfl, by decide, inT1 195 (by rfl) rfl⟩
theorem fl_X4_15 : FL RX4 15 4 1 := ⟨_, rfl, by decide, inT1 200 (by rfl) rfl⟩
theorem fl_X4_18 : FL RX4 18 4 2 := ⟨_, rfl, by decide, inT1 202 (by rfl) rfl⟩
theorem fl_X4_21 : FL RX4 21 4 3 := ⟨_, rfl, by decide, inT1 204 (by rfl) rfl⟩
theorem fl_X4_24 : FL RX4 24 4 4 := ⟨_, rfl, by decide, inT1 208 (by rfl) rfl⟩
theorem fl_X4_27 : FL RX4 27 4 5 := ⟨_, rfl, by decide, inT1 211 (by rfl) rfl⟩
theorem fl_X4_30 : FL RX4 30 4 6 := ⟨_, rfl, by decide, inT1 213 (by rfl) rfl⟩
theorem fl_X4_33 : FL RX4 33 4 7 := ⟨_, rfl, by decide, inT1 215 (by rfl) rfl⟩
theorem fl_X4_39 : FL RX4 39 4 8 := ⟨_, rfl, by decide, inT1 218 (by rfl) rfl⟩
theorem fl_X4_43 : FL RX4 43 4 9 := ⟨_, rfl, by decide, inT1 220 (by rfl) rfl⟩
theorem fl_X4_46 : FL RX4 46 4 10 := ⟨_, rfl, by decide, inT1 222 (by rfl) rfl⟩
theorem fl_X4_49 : FL RX4 49 4 11 := ⟨_, rfl, by decide, inT1 223 (by rfl) rfl⟩
theorem fl_X4_53 : FL RX4 53 4 12 := ⟨_, rfl, by decide, inT1 224 (by rfl) rfl⟩
theorem fl_X4_56 : FL RX4 56 4 13 := ⟨_, rfl, by decide, inT1 225 (by rfl) rfl⟩
theorem fl_X4_59 : FL RX4 59 4 14 := ⟨_, rfl, by decide, inT1 226 (by rfl) rfl⟩
theorem fl_X4_63 : FL RX4 63 4 15 := ⟨_, rfl, by decide, inT1 227 (by rfl) rfl⟩
theorem fl_X4_66 : FL RX4 66 4 16 := ⟨_, rfl, by decide, inT1 228 (by rfl) rfl⟩
theorem fl_X4_131 : FL RX4 131 2 0 := ⟨_, rfl, by decide, inT1 158 (by rfl) rfl⟩
theorem fl_X4_135 : FL RX4 135 2 1 := ⟨_, rfl, by decide, inT1 163 (by rfl) rfl⟩
theorem fl_X5_9 : FL RX5 9 5 0 := ⟨_, rfl, by decide, inT3 21 (by rfl) rfl⟩
theorem fl_X5_15 : FL RX5 15 5 1 := ⟨_, rfl, by decide, inT3 23 (by rfl) rfl⟩
theorem fl_X5_18 : FL RX5 18 5 2 := ⟨_, rfl, by decide, inT3 24 (by rfl) rfl⟩
theorem fl_X5_22 : FL RX5 22 5 3 := ⟨_, rfl, by decide, inT3 25 (by rfl) rfl⟩
theorem fl_X5_25 : FL RX5 25 5 4 := ⟨_, rfl, by decide, inT3 26 (by rfl) rfl⟩
theorem fl_X5_28 : FL RX5 28 5 5 := ⟨_, rfl, by decide, inT3 27 (by rfl) rfl⟩
theorem fl_X5_31 : FL RX5 31 5 6 := ⟨_, rfl, by decide, inT3 28 (by rfl) rfl⟩
theorem fl_X5_34 : FL RX5 34 4 4 := ⟨_, rfl, by decide, inT1 209 (by rfl) rfl⟩
theorem fl_X6_9 : FL RX6 9 6 0 := ⟨_, rfl, by decide, inT1 69 (by rfl) rfl⟩
theorem fl_X6_15 : FL RX6 15 6 1 := ⟨_, rfl, by decide, inT1 72 (by rfl) rfl⟩
theorem fl_X6_18 : FL RX6 18 6 2 := ⟨_, rfl, by decide, inT1 74 (by rfl) rfl⟩
theorem fl_X6_21 : FL RX6 21 6 3 := ⟨_, rfl, by decide, inT1 76 (by rfl) rfl⟩
theorem fl_X6_24 : FL RX6 24 4 3 := ⟨_, rfl, by decide, inT1 206 (by rfl) rfl⟩
theorem fl_X6_33 : FL RX6 33 4 0 := ⟨_, rfl, by decide, inT1 196 (by rfl) rfl⟩
theorem fl_X7_9 : FL RX7 9 7 0 := ⟨_, rfl, by decide, inT1 39 (by rfl) rfl⟩
theorem fl_X7_15 : FL RX7 15 7 1 := ⟨_, rfl, by decide, inT1 40 (by rfl) rfl⟩
theorem fl_X8_9 : FL RX8 9 8 0 := ⟨_, rfl, by decide, inT1 54 (by rfl) rfl⟩
theorem fl_X8_15 : FL RX8 15 8 1 := ⟨_, rfl, by decide, inT1 55 (by rfl) rfl⟩
theorem fl_X8_19 : FL RX8 19 2 0 := ⟨_, rfl, by decide, inT1 157 (by rfl) rfl⟩
theorem fl_X8_29 : FL RX8 29 2 1 := ⟨_, rfl, by decide, inT1 162 (by rfl) rfl⟩
theorem fl_X10_1 : FL RX10 1 10 0 := ⟨_, rfl, by decide, inT5 32 (by rfl) rfl⟩
theorem fl_X10_7 : FL RX10 7 10 2 := ⟨_, rfl, by decide, inT5 34 (by rfl) rfl⟩
theorem fl_X10_11 : FL RX10 11 10 1 := ⟨_, rfl, by decide, inT5 33 (by rfl) rfl⟩
theorem fl_X10_22 : FL RX10 22 10 4 := ⟨_, rfl, by decide, inT5 36 (by rfl) rfl⟩
theorem fl_X10_25 : FL RX10 25 10 3 := ⟨_, rfl, by decide, inT5 35 (by rfl) rfl⟩
theorem fl_X10_33 : FL RX10 33 10 6 := ⟨_, rfl, by decide, inT5 38 (by rfl) rfl⟩
theorem fl_X10_36 : FL RX10 36 10 5 := ⟨_, rfl, by decide, inT5 37 (by rfl) rfl⟩
theorem fl_X10_68 : FL RX10 68 10 7 := ⟨_, rfl, by decide, inT5 39 (by rfl) rfl⟩
theorem fl_X10_71 : FL RX10 71 10 8 := ⟨_, rfl, by decide, inT5 40 (by rfl) rfl⟩
theorem fl_X10_74 : FL RX10 74 10 10 := ⟨_, rfl, by decide, inT5 42 (by rfl) rfl⟩
theorem fl_X10_77 : FL RX10 77 10 11 := ⟨_, rfl, by decide, inT5 43 (by rfl) rfl⟩
theorem fl_X10_80 : FL RX10 80 10 17 := ⟨_, rfl, by decide, inT5 49 (by rfl) rfl⟩
theorem fl_X10_83 : FL RX10 83 10 19 := ⟨_, rfl, by decide, inT5 51 (by rfl) rfl⟩
theorem fl_X10_86 : FL RX10 86 10 27 := ⟨_, rfl, by decide, inT5 59 (by rfl) rfl⟩
theorem fl_X10_89 : FL RX10 89 10 35 := ⟨_, rfl, by decide, inT5 67 (by rfl) rfl⟩
theorem fl_X10_92 : FL RX10 92 10 36 := ⟨_, rfl, by decide, inT5 68 (by rfl) rfl⟩
theorem fl_X10_95 : FL RX10 95 10 37 := ⟨_, rfl, by decide, inT5 69 (by rfl) rfl⟩
theorem fl_X10_98 : FL RX10 98 10 38 := ⟨_, rfl, by decide, inT5 70 (by rfl) rfl⟩
theorem fl_X10_101 : FL RX10 101 10 39 := ⟨_, rfl, by decide, inT5 71 (by rfl) rfl⟩
theorem fl_X10_104 : FL RX10 104 10 40 := ⟨_, rfl, by decide, inT5 72 (by rfl) rfl⟩
theorem fl_X10_107 : FL RX10 107 10 42 := ⟨_, rfl, by decide, inT5 74 (by rfl) rfl⟩
theorem fl_X10_115 : FL RX10 115 10 9 := ⟨_, rfl, by decide, inT5 41 (by rfl) rfl⟩
theorem fl_X10_192 : FL RX10 192 10 12 := ⟨_, rfl, by decide, inT5 44 (by rfl) rfl⟩
theorem fl_X10_195 : FL RX10 195 10 13 := ⟨_, rfl, by decide, inT5 45 (by rfl) rfl⟩
theorem fl_X10_198 : FL RX10 198 10 14 := ⟨_, rfl, by decide, inT5 46 (by rfl) rfl⟩
theorem fl_X10_201 : FL RX10 201 10 15 := ⟨_, rfl, by decide, inT5 47 (by rfl) rfl⟩
theorem fl_X10_204 : FL RX10 204 10 16 := ⟨_, rfl, by decide, inT5 48 (by rfl) rfl⟩
theorem fl_X10_217 : FL RX10 217 10 18 := ⟨_, rfl, by decide, inT5 50 (by rfl) rfl⟩
theorem fl_X10_230 : FL RX10 230 10 20 := ⟨_, rfl, by decide, inT5 52 (by rfl) rfl⟩
theorem fl_X10_253 : FL RX10 253 10 21 := ⟨_, rfl, by decide, inT5 53 (by rfl) rfl⟩
theorem fl_X10_256 : FL RX10 256 10 22 := ⟨_, rfl, by decide, inT5 54 (by rfl) rfl⟩
theorem fl_X10_271 : FL RX10 271 10 24 := ⟨_, rfl, by decide, inT5 56 (by rfl) rfl⟩
theorem fl_X10_275 : FL RX10 275 10 26 := ⟨_, rfl, by decide, inT5 58 (by rfl) rfl⟩
theorem fl_X10_278 : FL RX10 278 10 25 := ⟨_, rfl, by decide, inT5 57 (by rfl) rfl⟩
theorem fl_X10_281 : FL RX10 281 10 23 := ⟨_, rfl, by decide, inT5 55 (by rfl) rfl⟩
theorem fl_X10_300 : FL RX10 300 10 28 := ⟨_, rfl, by decide, inT5 60 (by rfl) rfl⟩
theorem fl_X10_347 : FL RX10 347 10 29 := ⟨_, rfl, by decide, inT5 61 (by rfl) rfl⟩
theorem fl_X10_350 : FL RX10 350 10 30 := ⟨_, rfl, by decide, inT5 62 (by rfl) rfl⟩
theorem fl_X10_356 : FL RX10 356 10 31 := ⟨_, rfl, by decide, inT5 63 (by rfl) rfl⟩
theorem fl_X10_359 : FL RX10 359 10 32 := ⟨_, rfl, by decide, inT5 64 (by rfl) rfl⟩
theorem fl_X10_409 : FL RX10 409 10 33 := ⟨_, rfl, by decide, inT5 65 (by rfl) rfl⟩
theorem fl_X10_412 : FL RX10 412 10 34 := ⟨_, rfl, by decide, inT5 66 (by rfl) rfl⟩
theorem fl_X10_431 : FL RX10 431 10 41 := ⟨_, rfl, by decide, inT5 73 (by rfl) rfl⟩
theorem nl_X9_7 : NL RX9 7 7 := ⟨_, rfl, inT1 33 (by rfl) rfl, inT1 34 (by rfl) rfl, inT1 2 (by rfl) rfl⟩
theorem nl_X9_16 : NL RX9 16 8 := ⟨_, rfl, inT1 48 (by rfl) rfl, inT1 49 (by rfl) rfl, inT1 3 (by rfl) rfl⟩
theorem nl_X9_23 : NL RX9 23 6 := ⟨_, rfl, inT1 63 (by rfl) rfl, inT1 64 (by rfl) rfl, inT1 4 (by rfl) rfl⟩
theorem nl_X9_30 : NL RX9 30 0 := ⟨_, rfl, inT1 87 (by rfl) rfl, inT1 88 (by rfl) rfl, inT1 5 (by rfl) rfl⟩
theorem nl_X9_37 : NL RX9 37 1 := ⟨_, rfl, inT1 118 (by rfl) rfl, inT1 119 (by rfl) rfl, inT1 6 (by rfl) rfl⟩
theorem nl_X9_44 : NL RX9 44 3 := ⟨_, rfl, inT1 143 (by rfl) rfl, inT1 144 (by rfl) rfl, inT1 7 (by rfl) rfl⟩
theorem nl_X9_51 : NL RX9 51 2 := ⟨_, rfl, inT1 184 (by rfl) rfl, inT1 150 (by rfl) rfl, inT1 8 (by rfl) rfl⟩
theorem nl_X9_61 : NL RX9 61 4 := ⟨_, rfl, inT1 186 (by rfl) rfl, inT1 188 (by rfl) rfl, inT1 9 (by rfl) rfl⟩
theorem nl_X9_227 : NL RX9 227 5 := ⟨_, rfl, inT3 15 (by rfl) rfl, inT3 16 (by rfl) rfl, inT1 21 (by rfl) rfl⟩
theorem nl_X1_9 : NL RX1 9 6 := ⟨_, rfl, inT1 124 (by rfl) rfl, inT1 64 (by rfl) rfl, inT1 4 (by rfl) rfl⟩
theorem nl_X3_15 : NL RX3 15 2 := ⟨_, rfl, inT1 149 (by rfl) rfl, inT1 150 (by rfl) rfl, inT1 8 (by rfl) rfl⟩
theorem nl_X4_36 : NL RX4 36 2 := ⟨_, rfl, inT1 193 (by rfl) rfl, inT1 150 (by rfl) rfl, inT1 8 (by rfl) rfl⟩
theorem nl_L_8 : NL RL 8 9 := ⟨_, rfl, inT1 25 (by rfl) rfl, inT1 26 (by rfl) rfl, inT1 1 (by rfl) rfl⟩
theorem nl_L_23 : NL RL 23 10 := ⟨_, rfl, inT5 22 (by rfl) rfl, inT5 23 (by rfl) rfl, inT1 10 (by rfl) rfl⟩
theorem cw_Head61 : Cond.classLink RX9 61 "DividingHead$Head" ∈ gwd := inT1 186 (by rfl) rfl
theorem ct_X9_311 : Cond.constant RX9 311 (100000) ∈ gwd := inT3 193 (by rfl) rfl
theorem ct_X9_319 : Cond.constant RX9 319 (1295999) ∈ gwd := inT3 209 (by rfl) rfl
theorem ct_X9_413 : Cond.constant RX9 413 (1103515245) ∈ gwd := inT4 143 (by rfl) rfl
theorem ct_X5_72 : Cond.constant RX5 72 (-1640531535) ∈ gwd := inT3 79 (by rfl) rfl
theorem ct_X5_73 : Cond.constant RX5 73 (-2048144789) ∈ gwd := inT3 80 (by rfl) rfl
theorem ct_X10_434 : Cond.constant RX10 434 (1103515245) ∈ gwd := inT7 154 (by rfl) rfl
theorem ct_J6_265 : Cond.constant RJ6 265 (1431655765) ∈ gwd := inT3 113 (by rfl) rfl
theorem ct_J6_266 : Cond.constant RJ6 266 (858993459) ∈ gwd := inT3 114 (by rfl) rfl
theorem ct_J6_267 : Cond.constant RJ6 267 (252645135) ∈ gwd := inT3 115 (by rfl) rfl
theorem ctl_X9_320 : Cond.constantLong RX9 320 (1296000) ∈ gwd := inT3 211 (by rfl) rfl
theorem ctl_X9_393 : Cond.constantLong RX9 393 (20001) ∈ gwd := inT4 111 (by rfl) rfl
theorem ctl_X4_150 : Cond.constantLong RX4 150 (1000000000) ∈ gwd := inT4 19 (by rfl) rfl
theorem ctl_X10_125 : Cond.constantLong RX10 125 (10) ∈ gwd := inT6 4 (by rfl) rfl
theorem ctl_X10_127 : Cond.constantLong RX10 127 (70) ∈ gwd := inT6 5 (by rfl) rfl
theorem ctl_X10_150 : Cond.constantLong RX10 150 (20) ∈ gwd := inT6 30 (by rfl) rfl
theorem ctl_X10_152 : Cond.constantLong RX10 152 (100) ∈ gwd := inT6 31 (by rfl) rfl
theorem ctl_X10_154 : Cond.constantLong RX10 154 (120) ∈ gwd := inT6 36 (by rfl) rfl
theorem ctl_X10_175 : Cond.constantLong RX10 175 (2) ∈ gwd := inT6 72 (by rfl) rfl
theorem ctl_X10_177 : Cond.constantLong RX10 177 (400) ∈ gwd := inT6 73 (by rfl) rfl
theorem ctl_X10_298 : Cond.constantLong RX10 298 (20000) ∈ gwd := inT6 203 (by rfl) rfl
theorem ctl_X10_306 : Cond.constantLong RX10 306 (1000000) ∈ gwd := inT6 208 (by rfl) rfl
theorem ctl_X10_314 : Cond.constantLong RX10 314 (100000) ∈ gwd := inT6 224 (by rfl) rfl
theorem ctl_X10_316 : Cond.constantLong RX10 316 (1000) ∈ gwd := inT6 225 (by rfl) rfl
theorem ctl_X10_322 : Cond.constantLong RX10 322 (1295999) ∈ gwd := inT6 238 (by rfl) rfl
theorem ctl_X10_324 : Cond.constantLong RX10 324 (1296000) ∈ gwd := inT6 239 (by rfl) rfl
theorem ctl_X10_345 : Cond.constantLong RX10 345 (-1) ∈ gwd := inT7 57 (by rfl) rfl
theorem ctl_X10_362 : Cond.constantLong RX10 362 (1000000000) ∈ gwd := inT7 58 (by rfl) rfl
theorem ctl_X10_368 : Cond.constantLong RX10 368 (99) ∈ gwd := inT7 36 (by rfl) rfl
theorem ctl_X10_398 : Cond.constantLong RX10 398 (60) ∈ gwd := inT7 95 (by rfl) rfl
theorem ctl_X10_435 : Cond.constantLong RX10 435 (30) ∈ gwd := inT7 149 (by rfl) rfl
theorem ac_int : Cond.arrayClass .int ∈ gwd := inT2 24 (by rfl) rfl
theorem ac_long : Cond.arrayClass .long ∈ gwd := inT1 62 (by rfl) rfl
theorem ac_char : Cond.arrayClass .char ∈ gwd := inT1 47 (by rfl) rfl
theorem ac_boolean : Cond.arrayClass .boolean ∈ gwd := inT5 162 (by rfl) rfl
theorem cd_J13_compare_74951 : Cond.code yJ13_compare_74951 cJ13_compare_74951 4 (some .int) ∈ gwd := inT4 46 (by rfl) rfl
theorem cd_J6_bitCount_0f7a4 : Cond.code yJ6_bitCount_0f7a4 cJ6_bitCount_0f7a4 1 (some .int) ∈ gwd := inT3 112 (by rfl) rfl
theorem cd_J7_fill_53178 : Cond.code yJ7_fill_53178 cJ7_fill_53178 4 none ∈ gwd := inT3 58 (by rfl) rfl
theorem cd_J9_abs_067f4 : Cond.code yJ9_abs_067f4 cJ9_abs_067f4 2 (some .long) ∈ gwd := inT3 165 (by rfl) rfl
theorem cd_J9_abs_0f7a4 : Cond.code yJ9_abs_0f7a4 cJ9_abs_0f7a4 1 (some .int) ∈ gwd := inT3 6 (by rfl) rfl
theorem cd_J9_floorDiv_7cf53 : Cond.code yJ9_floorDiv_7cf53 cJ9_floorDiv_7cf53 3 (some .int) ∈ gwd := inT2 239 (by rfl) rfl
theorem cd_J9_floorMod_7cf53 : Cond.code yJ9_floorMod_7cf53 cJ9_floorMod_7cf53 3 (some .int) ∈ gwd := inT2 236 (by rfl) rfl
theorem cd_J9_floorMod_f86c9 : Cond.code yJ9_floorMod_f86c9 cJ9_floorMod_f86c9 6 (some .long) ∈ gwd := inT4 18 (by rfl) rfl
theorem cd_X0_init : Cond.code yX0_init cX0_init 1 none ∈ gwd := inT1 91 (by rfl) rfl
theorem cd_X0_look : Cond.code yX0_look cX0_look 6 none ∈ gwd := inT2 220 (by rfl) rfl
theorem cd_X0_offer : Cond.code yX0_offer cX0_offer 8 (some .boolean) ∈ gwd := inT2 233 (by rfl) rfl
theorem cd_X0_take : Cond.code yX0_take cX0_take 5 (some .boolean) ∈ gwd := inT3 3 (by rfl) rfl
theorem cd_X0_tryPair : Cond.code yX0_tryPair cX0_tryPair 11 none ∈ gwd := inT2 228 (by rfl) rfl
theorem cd_X1_init : Cond.code yX1_init cX1_init 1 none ∈ gwd := inT1 122 (by rfl) rfl
theorem cd_X1_look : Cond.code yX1_look cX1_look 5 none ∈ gwd := inT3 88 (by rfl) rfl
theorem cd_X1_tryNumber : Cond.code yX1_tryNumber cX1_tryNumber 6 none ∈ gwd := inT3 92 (by rfl) rfl
theorem cd_X10_again : Cond.code yX10_again cX10_again 2 (some .boolean) ∈ gwd := inT7 162 (by rfl) rfl
theorem cd_X10_allHoles : Cond.code yX10_allHoles cX10_allHoles 3 (some .int) ∈ gwd := inT6 89 (by rfl) rfl
theorem cd_X10_angle : Cond.code yX10_angle cX10_angle 13 (some .int) ∈ gwd := inT6 237 (by rfl) rfl
theorem cd_X10_begins : Cond.code yX10_begins cX10_begins 2 none ∈ gwd := inT5 31 (by rfl) rfl
theorem cd_X10_beginsFour : Cond.code yX10_beginsFour cX10_beginsFour 2 (some .boolean) ∈ gwd := inT6 140 (by rfl) rfl
theorem cd_X10_circle : Cond.code yX10_circle cX10_circle 2 (some .int) ∈ gwd := inT6 40 (by rfl) rfl
theorem cd_X10_circles : Cond.code yX10_circles cX10_circles 1 (some .int) ∈ gwd := inT6 44 (by rfl) rfl
theorem cd_X10_circlesOf : Cond.code yX10_circlesOf cX10_circlesOf 2 (some .int) ∈ gwd := inT6 16 (by rfl) rfl
theorem cd_X10_common : Cond.code yX10_common cX10_common 10 (some .long) ∈ gwd := inT6 186 (by rfl) rfl
theorem cd_X10_compound : Cond.code yX10_compound cX10_compound 3 (some .int) ∈ gwd := inT6 93 (by rfl) rfl
theorem cd_X10_copies : Cond.code yX10_copies cX10_copies 4 none ∈ gwd := inT5 170 (by rfl) rfl
theorem cd_X10_count : Cond.code yX10_count cX10_count 2 (some .int) ∈ gwd := inT7 166 (by rfl) rfl
theorem cd_X10_cranks : Cond.code yX10_cranks cX10_cranks 5 (some .int) ∈ gwd := inT7 31 (by rfl) rfl
theorem cd_X10_cuts : Cond.code yX10_cuts cX10_cuts 1 (some .int) ∈ gwd := inT7 62 (by rfl) rfl
theorem cd_X10_cutsOne : Cond.code yX10_cutsOne cX10_cutsOne 2 (some .int) ∈ gwd := inT7 66 (by rfl) rfl
theorem cd_X10_day : Cond.code yX10_day cX10_day 3 (some .int) ∈ gwd := inT7 134 (by rfl) rfl
theorem cd_X10_differential : Cond.code yX10_differential cX10_differential 4 (some .int) ∈ gwd := inT6 108 (by rfl) rfl
theorem cd_X10_digit : Cond.code yX10_digit cX10_digit 1 (some .int) ∈ gwd := inT5 190 (by rfl) rfl
theorem cd_X10_divides : Cond.code yX10_divides cX10_divides 4 (some .int) ∈ gwd := inT7 94 (by rfl) rfl
theorem cd_X10_doesAct : Cond.code yX10_doesAct cX10_doesAct 2 (some .int) ∈ gwd := inT7 144 (by rfl) rfl
theorem cd_X10_done : Cond.code yX10_done cX10_done 3 (some .int) ∈ gwd := inT6 24 (by rfl) rfl
theorem cd_X10_draws : Cond.code yX10_draws cX10_draws 2 (some .int) ∈ gwd := inT7 153 (by rfl) rfl
theorem cd_X10_end : Cond.code yX10_end cX10_end 2 (some .boolean) ∈ gwd := inT5 18 (by rfl) rfl
theorem cd_X10_enters : Cond.code yX10_enters cX10_enters 3 none ∈ gwd := inT6 48 (by rfl) rfl
theorem cd_X10_entersFound : Cond.code yX10_entersFound cX10_entersFound 2 none ∈ gwd := inT6 175 (by rfl) rfl
theorem cd_X10_entersNear : Cond.code yX10_entersNear cX10_entersNear 1 none ∈ gwd := inT6 194 (by rfl) rfl
theorem cd_X10_entersPart : Cond.code yX10_entersPart cX10_entersPart 7 none ∈ gwd := inT6 198 (by rfl) rfl
theorem cd_X10_finds : Cond.code yX10_finds cX10_finds 2 none ∈ gwd := inT6 152 (by rfl) rfl
theorem cd_X10_findsCompound : Cond.code yX10_findsCompound cX10_findsCompound 6 (some .int) ∈ gwd := inT6 97 (by rfl) rfl
theorem cd_X10_findsDifferential : Cond.code yX10_findsDifferential cX10_findsDifferential 5 (some .boolean) ∈ gwd := inT6 112 (by rfl) rfl
theorem cd_X10_findsNearest : Cond.code yX10_findsNearest cX10_findsNearest 13 (some .boolean) ∈ gwd := inT6 183 (by rfl) rfl
theorem cd_X10_findsTrain : Cond.code yX10_findsTrain cX10_findsTrain 5 (some .boolean) ∈ gwd := inT6 120 (by rfl) rfl
theorem cd_X10_firstSimple : Cond.code yX10_firstSimple cX10_firstSimple 3 (some .int) ∈ gwd := inT6 85 (by rfl) rfl
theorem cd_X10_flag : Cond.code yX10_flag cX10_flag 1 (some .int) ∈ gwd := inT6 12 (by rfl) rfl
theorem cd_X10_gaps : Cond.code yX10_gaps cX10_gaps 1 (some .int) ∈ gwd := inT7 122 (by rfl) rfl
theorem cd_X10_gear : Cond.code yX10_gear cX10_gear 2 (some .int) ∈ gwd := inT6 56 (by rfl) rfl
theorem cd_X10_gearMany : Cond.code yX10_gearMany cX10_gearMany 1 (some .int) ∈ gwd := inT6 60 (by rfl) rfl
theorem cd_X10_geared : Cond.code yX10_geared cX10_geared 7 (some .int) ∈ gwd := inT7 11 (by rfl) rfl
theorem cd_X10_gearedOne : Cond.code yX10_gearedOne cX10_gearedOne 9 (some .int) ∈ gwd := inT7 15 (by rfl) rfl
theorem cd_X10_gears : Cond.code yX10_gears cX10_gears 5 (some .int) ∈ gwd := inT6 29 (by rfl) rfl
theorem cd_X10_goesBy : Cond.code yX10_goesBy cX10_goesBy 4 (some .int) ∈ gwd := inT7 40 (by rfl) rfl
theorem cd_X10_goesOn : Cond.code yX10_goesOn cX10_goesOn 3 (some .boolean) ∈ gwd := inT6 132 (by rfl) rfl
theorem cd_X10_hard : Cond.code yX10_hard cX10_hard 10 (some .int) ∈ gwd := inT6 164 (by rfl) rfl
theorem cd_X10_hasSimple : Cond.code yX10_hasSimple cX10_hasSimple 3 (some .boolean) ∈ gwd := inT6 77 (by rfl) rfl
theorem cd_X10_hasWay : Cond.code yX10_hasWay cX10_hasWay 3 (some .boolean) ∈ gwd := inT7 99 (by rfl) rfl
theorem cd_X10_holes : Cond.code yX10_holes cX10_holes 2 (some .int) ∈ gwd := inT6 52 (by rfl) rfl
theorem cd_X10_in : Cond.code yX10_in cX10_in 6 (some .boolean) ∈ gwd := inT5 21 (by rfl) rfl
theorem cd_X10_init : Cond.code yX10_init cX10_init 2 none ∈ gwd := inT5 26 (by rfl) rfl
theorem cd_X10_isBelow : Cond.code yX10_isBelow cX10_isBelow 23 (some .boolean) ∈ gwd := inT7 114 (by rfl) rfl
theorem cd_X10_isDifferential : Cond.code yX10_isDifferential cX10_isDifferential 3 (some .boolean) ∈ gwd := inT6 116 (by rfl) rfl
theorem cd_X10_isGear : Cond.code yX10_isGear cX10_isGear 2 (some .boolean) ∈ gwd := inT7 19 (by rfl) rfl
theorem cd_X10_isLess : Cond.code yX10_isLess cX10_isLess 4 (some .boolean) ∈ gwd := inT6 219 (by rfl) rfl
theorem cd_X10_isNearer : Cond.code yX10_isNearer cX10_isNearer 22 (some .boolean) ∈ gwd := inT6 190 (by rfl) rfl
theorem cd_X10_isNumber : Cond.code yX10_isNumber cX10_isNumber 1 (some .boolean) ∈ gwd := inT6 71 (by rfl) rfl
theorem cd_X10_isRatio : Cond.code yX10_isRatio cX10_isRatio 2 (some .boolean) ∈ gwd := inT6 171 (by rfl) rfl
theorem cd_X10_isUnlike : Cond.code yX10_isUnlike cX10_isUnlike 3 (some .boolean) ∈ gwd := inT6 136 (by rfl) rfl
theorem cd_X10_keep : Cond.code yX10_keep cX10_keep 2 (some .boolean) ∈ gwd := inT7 158 (by rfl) rfl
theorem cd_X10_laysGap : Cond.code yX10_laysGap cX10_laysGap 9 none ∈ gwd := inT7 111 (by rfl) rfl
theorem cd_X10_laysGaps : Cond.code yX10_laysGaps cX10_laysGaps 7 (some .int) ∈ gwd := inT7 107 (by rfl) rfl
theorem cd_X10_laysNext : Cond.code yX10_laysNext cX10_laysNext 18 (some .boolean) ∈ gwd := inT7 44 (by rfl) rfl
theorem cd_X10_laysStep : Cond.code yX10_laysStep cX10_laysStep 10 none ∈ gwd := inT7 48 (by rfl) rfl
theorem cd_X10_lead : Cond.code yX10_lead cX10_lead 2 (some .int) ∈ gwd := inT6 202 (by rfl) rfl
theorem cd_X10_looksAt : Cond.code yX10_looksAt cX10_looksAt 12 (some .int) ∈ gwd := inT6 101 (by rfl) rfl
theorem cd_X10_lower : Cond.code yX10_lower cX10_lower 1 (some .long) ∈ gwd := inT6 148 (by rfl) rfl
theorem cd_X10_mark : Cond.code yX10_mark cX10_mark 2 (some .int) ∈ gwd := inT7 118 (by rfl) rfl
theorem cd_X10_markAt : Cond.code yX10_markAt cX10_markAt 6 (some .int) ∈ gwd := inT7 70 (by rfl) rfl
theorem cd_X10_markLow : Cond.code yX10_markLow cX10_markLow 2 (some .long) ∈ gwd := inT7 82 (by rfl) rfl
theorem cd_X10_markUp : Cond.code yX10_markUp cX10_markUp 2 (some .long) ∈ gwd := inT7 78 (by rfl) rfl
theorem cd_X10_marks : Cond.code yX10_marks cX10_marks 1 (some .int) ∈ gwd := inT7 74 (by rfl) rfl
theorem cd_X10_missing : Cond.code yX10_missing cX10_missing 7 (some .int) ∈ gwd := inT7 126 (by rfl) rfl
theorem cd_X10_near : Cond.code yX10_near cX10_near 8 (some .int) ∈ gwd := inT6 223 (by rfl) rfl
theorem cd_X10_nearest : Cond.code yX10_nearest cX10_nearest 3 (some .int) ∈ gwd := inT6 179 (by rfl) rfl
theorem cd_X10_nextTrain : Cond.code yX10_nextTrain cX10_nextTrain 1 (some .boolean) ∈ gwd := inT6 124 (by rfl) rfl
theorem cd_X10_plates : Cond.code yX10_plates cX10_plates 2 (some .int) ∈ gwd := inT5 174 (by rfl) rfl
theorem cd_X10_putsRead : Cond.code yX10_putsRead cX10_putsRead 2 (some .int) ∈ gwd := inT6 20 (by rfl) rfl
theorem cd_X10_ratios : Cond.code yX10_ratios cX10_ratios 7 (some .int) ∈ gwd := inT6 207 (by rfl) rfl
theorem cd_X10_reaches : Cond.code yX10_reaches cX10_reaches 11 (some .int) ∈ gwd := inT7 130 (by rfl) rfl
theorem cd_X10_reads : Cond.code yX10_reads cX10_reads 1 none ∈ gwd := inT5 178 (by rfl) rfl
theorem cd_X10_readsAct : Cond.code yX10_readsAct cX10_readsAct 3 (some .boolean) ∈ gwd := inT7 138 (by rfl) rfl
theorem cd_X10_readsPlate : Cond.code yX10_readsPlate cX10_readsPlate 5 (some .boolean) ∈ gwd := inT5 182 (by rfl) rfl
theorem cd_X10_row : Cond.code yX10_row cX10_row 2 (some .long) ∈ gwd := inT7 170 (by rfl) rfl
theorem cd_X10_sets : Cond.code yX10_sets cX10_sets 4 (some .int) ∈ gwd := inT6 35 (by rfl) rfl
theorem cd_X10_sign : Cond.code yX10_sign cX10_sign 3 (some .int) ∈ gwd := inT5 14 (by rfl) rfl
theorem cd_X10_simple : Cond.code yX10_simple cX10_simple 4 (some .int) ∈ gwd := inT6 68 (by rfl) rfl
theorem cd_X10_sinks : Cond.code yX10_sinks cX10_sinks 7 none ∈ gwd := inT6 216 (by rfl) rfl
theorem cd_X10_size : Cond.code yX10_size cX10_size 1 (some .int) ∈ gwd := inT6 104 (by rfl) rfl
theorem cd_X10_sorts : Cond.code yX10_sorts cX10_sorts 4 none ∈ gwd := inT6 212 (by rfl) rfl
theorem cd_X10_startsTrains : Cond.code yX10_startsTrains cX10_startsTrains 3 none ∈ gwd := inT6 128 (by rfl) rfl
theorem cd_X10_stepsBy : Cond.code yX10_stepsBy cX10_stepsBy 5 none ∈ gwd := inT7 103 (by rfl) rfl
theorem cd_X10_stepsTo : Cond.code yX10_stepsTo cX10_stepsTo 20 (some .int) ∈ gwd := inT6 229 (by rfl) rfl
theorem cd_X10_takes : Cond.code yX10_takes cX10_takes 3 (some .boolean) ∈ gwd := inT6 9 (by rfl) rfl
theorem cd_X10_takesOf : Cond.code yX10_takesOf cX10_takesOf 3 (some .int) ∈ gwd := inT5 195 (by rfl) rfl
theorem cd_X10_teeth : Cond.code yX10_teeth cX10_teeth 2 (some .int) ∈ gwd := inT6 64 (by rfl) rfl
theorem cd_X10_thrown : Cond.code yX10_thrown cX10_thrown 1 (some .int) ∈ gwd := inT5 10 (by rfl) rfl
theorem cd_X10_train : Cond.code yX10_train cX10_train 3 (some .int) ∈ gwd := inT6 168 (by rfl) rfl
theorem cd_X10_trainLower : Cond.code yX10_trainLower cX10_trainLower 1 (some .long) ∈ gwd := inT7 52 (by rfl) rfl
theorem cd_X10_trainUpper : Cond.code yX10_trainUpper cX10_trainUpper 1 (some .long) ∈ gwd := inT7 56 (by rfl) rfl
theorem cd_X10_tree : Cond.code yX10_tree cX10_tree 3 (some .int) ∈ gwd := inT6 233 (by rfl) rfl
theorem cd_X10_turnsOne : Cond.code yX10_turnsOne cX10_turnsOne 7 (some .int) ∈ gwd := inT7 35 (by rfl) rfl
theorem cd_X10_two : Cond.code yX10_two cX10_two 3 (some .int) ∈ gwd := inT5 186 (by rfl) rfl
theorem cd_X10_undo : Cond.code yX10_undo cX10_undo 1 (some .int) ∈ gwd := inT5 166 (by rfl) rfl
theorem cd_X10_ungeared : Cond.code yX10_ungeared cX10_ungeared 1 (some .int) ∈ gwd := inT7 23 (by rfl) rfl
theorem cd_X10_ungearedOne : Cond.code yX10_ungearedOne cX10_ungearedOne 2 (some .int) ∈ gwd := inT7 27 (by rfl) rfl
theorem cd_X10_upper : Cond.code yX10_upper cX10_upper 1 (some .long) ∈ gwd := inT6 144 (by rfl) rfl
theorem cd_X10_uses : Cond.code yX10_uses cX10_uses 2 (some .int) ∈ gwd := inT7 3 (by rfl) rfl
theorem cd_X10_usesOne : Cond.code yX10_usesOne cX10_usesOne 3 (some .int) ∈ gwd := inT7 7 (by rfl) rfl
theorem cd_X10_ways : Cond.code yX10_ways cX10_ways 3 (some .int) ∈ gwd := inT6 156 (by rfl) rfl
theorem cd_X10_waysOf : Cond.code yX10_waysOf cX10_waysOf 2 (some .int) ∈ gwd := inT6 160 (by rfl) rfl
theorem cd_X10_wipes : Cond.code yX10_wipes cX10_wipes 1 (some .int) ∈ gwd := inT7 86 (by rfl) rfl
theorem cd_X10_wipesOne : Cond.code yX10_wipesOne cX10_wipesOne 2 (some .int) ∈ gwd := inT7 90 (by rfl) rfl
theorem cd_X10_worm : Cond.code yX10_worm cX10_worm 1 (some .int) ∈ gwd := inT6 81 (by rfl) rfl
theorem cd_X10_years : Cond.code yX10_years cX10_years 6 (some .int) ∈ gwd := inT7 148 (by rfl) rfl
theorem cd_X2_copyFrom : Cond.code yX2_copyFrom cX2_copyFrom 2 none ∈ gwd := inT2 114 (by rfl) rfl
theorem cd_X2_init : Cond.code yX2_init cX2_init 1 none ∈ gwd := inT1 153 (by rfl) rfl
theorem cd_X2_put : Cond.code yX2_put cX2_put 7 none ∈ gwd := inT2 134 (by rfl) rfl
theorem cd_X3_holdsGap : Cond.code yX3_holdsGap cX3_holdsGap 2 (some .boolean) ∈ gwd := inT4 76 (by rfl) rfl
theorem cd_X3_init : Cond.code yX3_init cX3_init 1 none ∈ gwd := inT1 147 (by rfl) rfl
theorem cd_X3_look : Cond.code yX3_look cX3_look 3 none ∈ gwd := inT4 68 (by rfl) rfl
theorem cd_X3_tellExtreme : Cond.code yX3_tellExtreme cX3_tellExtreme 5 none ∈ gwd := inT4 92 (by rfl) rfl
theorem cd_X4_addCircle : Cond.code yX4_addCircle cX4_addCircle 2 none ∈ gwd := inT2 38 (by rfl) rfl
theorem cd_X4_addGear : Cond.code yX4_addGear cX4_addGear 2 none ∈ gwd := inT2 44 (by rfl) rfl
theorem cd_X4_atFirst : Cond.code yX4_atFirst cX4_atFirst 1 none ∈ gwd := inT2 126 (by rfl) rfl
theorem cd_X4_choose : Cond.code yX4_choose cX4_choose 3 (some .int) ∈ gwd := inT3 223 (by rfl) rfl
theorem cd_X4_compareMark : Cond.code yX4_compareMark cX4_compareMark 2 (some .int) ∈ gwd := inT4 31 (by rfl) rfl
theorem cd_X4_copyFrom : Cond.code yX4_copyFrom cX4_copyFrom 2 none ∈ gwd := inT2 110 (by rfl) rfl
theorem cd_X4_dropPlates : Cond.code yX4_dropPlates cX4_dropPlates 1 none ∈ gwd := inT2 32 (by rfl) rfl
theorem cd_X4_fillAtFirst : Cond.code yX4_fillAtFirst cX4_fillAtFirst 2 none ∈ gwd := inT2 28 (by rfl) rfl
theorem cd_X4_gapBehind : Cond.code yX4_gapBehind cX4_gapBehind 8 none ∈ gwd := inT4 72 (by rfl) rfl
theorem cd_X4_holesOf : Cond.code yX4_holesOf cX4_holesOf 2 (some .int) ∈ gwd := inT2 200 (by rfl) rfl
theorem cd_X4_init : Cond.code yX4_init cX4_init 1 none ∈ gwd := inT1 191 (by rfl) rfl
theorem cd_X4_isCircle : Cond.code yX4_isCircle cX4_isCircle 2 (some .boolean) ∈ gwd := inT2 204 (by rfl) rfl
theorem cd_X4_isGear : Cond.code yX4_isGear cX4_isGear 2 (some .boolean) ∈ gwd := inT3 55 (by rfl) rfl
theorem cd_X4_isMark : Cond.code yX4_isMark cX4_isMark 2 (some .boolean) ∈ gwd := inT4 39 (by rfl) rfl
theorem cd_X4_isPair : Cond.code yX4_isPair cX4_isPair 3 (some .boolean) ∈ gwd := inT3 235 (by rfl) rfl
theorem cd_X4_markLow : Cond.code yX4_markLow cX4_markLow 2 (some .long) ∈ gwd := inT4 43 (by rfl) rfl
theorem cd_X4_markUp : Cond.code yX4_markUp cX4_markUp 2 (some .long) ∈ gwd := inT4 35 (by rfl) rfl
theorem cd_X4_plateOf : Cond.code yX4_plateOf cX4_plateOf 2 (some .int) ∈ gwd := inT2 224 (by rfl) rfl
theorem cd_X4_putIn : Cond.code yX4_putIn cX4_putIn 7 (some .int) ∈ gwd := inT3 231 (by rfl) rfl
theorem cd_X4_scribe : Cond.code yX4_scribe cX4_scribe 3 (some .int) ∈ gwd := inT4 27 (by rfl) rfl
theorem cd_X4_setTo : Cond.code yX4_setTo cX4_setTo 5 (some .int) ∈ gwd := inT2 181 (by rfl) rfl
theorem cd_X4_stepOfHole : Cond.code yX4_stepOfHole cX4_stepOfHole 6 none ∈ gwd := inT4 14 (by rfl) rfl
theorem cd_X4_takeOut : Cond.code yX4_takeOut cX4_takeOut 2 (some .int) ∈ gwd := inT2 130 (by rfl) rfl
theorem cd_X4_teethOf : Cond.code yX4_teethOf cX4_teethOf 2 (some .int) ∈ gwd := inT3 51 (by rfl) rfl
theorem cd_X4_wayToMark : Cond.code yX4_wayToMark cX4_wayToMark 7 none ∈ gwd := inT4 115 (by rfl) rfl
theorem cd_X4_wind : Cond.code yX4_wind cX4_wind 11 (some .int) ∈ gwd := inT4 9 (by rfl) rfl
theorem cd_X4_wipeAll : Cond.code yX4_wipeAll cX4_wipeAll 2 (some .int) ∈ gwd := inT2 141 (by rfl) rfl
theorem cd_X5_add : Cond.code yX5_add cX5_add 6 none ∈ gwd := inT3 73 (by rfl) rfl
theorem cd_X5_addFours : Cond.code yX5_addFours cX5_addFours 5 none ∈ gwd := inT3 84 (by rfl) rfl
theorem cd_X5_addTwos : Cond.code yX5_addTwos cX5_addTwos 3 none ∈ gwd := inT3 62 (by rfl) rfl
theorem cd_X5_closest : Cond.code yX5_closest cX5_closest 23 (some .int) ∈ gwd := inT3 146 (by rfl) rfl
theorem cd_X5_extreme : Cond.code yX5_extreme cX5_extreme 5 (some .int) ∈ gwd := inT3 182 (by rfl) rfl
theorem cd_X5_find : Cond.code yX5_find cX5_find 8 (some .int) ∈ gwd := inT3 97 (by rfl) rfl
theorem cd_X5_fit : Cond.code yX5_fit cX5_fit 4 none ∈ gwd := inT3 47 (by rfl) rfl
theorem cd_X5_init : Cond.code yX5_init cX5_init 1 none ∈ gwd := inT3 19 (by rfl) rfl
theorem cd_X5_low : Cond.code yX5_low cX5_low 2 (some .int) ∈ gwd := inT3 154 (by rfl) rfl
theorem cd_X5_lower : Cond.code yX5_lower cX5_lower 4 (some .long) ∈ gwd := inT3 162 (by rfl) rfl
theorem cd_X5_pack : Cond.code yX5_pack cX5_pack 4 (some .int) ∈ gwd := inT3 69 (by rfl) rfl
theorem cd_X5_slotOf : Cond.code yX5_slotOf cX5_slotOf 6 (some .int) ∈ gwd := inT3 78 (by rfl) rfl
theorem cd_X5_tooth : Cond.code yX5_tooth cX5_tooth 2 (some .int) ∈ gwd := inT3 66 (by rfl) rfl
theorem cd_X5_up : Cond.code yX5_up cX5_up 2 (some .int) ∈ gwd := inT3 158 (by rfl) rfl
theorem cd_X5_upper : Cond.code yX5_upper cX5_upper 4 (some .long) ∈ gwd := inT3 150 (by rfl) rfl
theorem cd_X5_wheel : Cond.code yX5_wheel cX5_wheel 4 (some .int) ∈ gwd := inT3 101 (by rfl) rfl
theorem cd_X5_wheelTotal : Cond.code yX5_wheelTotal cX5_wheelTotal 2 (some .int) ∈ gwd := inT3 133 (by rfl) rfl
theorem cd_X6_init : Cond.code yX6_init cX6_init 1 none ∈ gwd := inT1 67 (by rfl) rfl
theorem cd_X6_look : Cond.code yX6_look cX6_look 5 none ∈ gwd := inT2 196 (by rfl) rfl
theorem cd_X7_addFour : Cond.code yX7_addFour cX7_addFour 3 (some .boolean) ∈ gwd := inT2 98 (by rfl) rfl
theorem cd_X7_at : Cond.code yX7_at cX7_at 2 (some .int) ∈ gwd := inT2 153 (by rfl) rfl
theorem cd_X7_firstNoDigit : Cond.code yX7_firstNoDigit cX7_firstNoDigit 4 (some .int) ∈ gwd := inT2 145 (by rfl) rfl
theorem cd_X7_init : Cond.code yX7_init cX7_init 1 none ∈ gwd := inT1 37 (by rfl) rfl
theorem cd_X7_isDigit : Cond.code yX7_isDigit cX7_isDigit 2 (some .boolean) ∈ gwd := inT2 149 (by rfl) rfl
theorem cd_X7_number : Cond.code yX7_number cX7_number 5 (some .int) ∈ gwd := inT2 157 (by rfl) rfl
theorem cd_X8_add : Cond.code yX8_add cX8_add 3 none ∈ gwd := inT2 212 (by rfl) rfl
theorem cd_X8_addFraction : Cond.code yX8_addFraction cX8_addFraction 2 none ∈ gwd := inT3 172 (by rfl) rfl
theorem cd_X8_clear : Cond.code yX8_clear cX8_clear 1 none ∈ gwd := inT2 208 (by rfl) rfl
theorem cd_X8_init : Cond.code yX8_init cX8_init 1 none ∈ gwd := inT1 52 (by rfl) rfl
theorem cd_X8_number : Cond.code yX8_number cX8_number 2 (some .long) ∈ gwd := inT5 6 (by rfl) rfl
theorem cd_X9_adopt : Cond.code yX9_adopt cX9_adopt 4 (some .int) ∈ gwd := inT2 163 (by rfl) rfl
theorem cd_X9_again : Cond.code yX9_again cX9_again 3 (some .boolean) ∈ gwd := inT4 151 (by rfl) rfl
theorem cd_X9_angle : Cond.code yX9_angle cX9_angle 20 (some .int) ∈ gwd := inT3 208 (by rfl) rfl
theorem cd_X9_circle : Cond.code yX9_circle cX9_circle 2 (some .int) ∈ gwd := inT4 163 (by rfl) rfl
theorem cd_X9_common : Cond.code yX9_common cX9_common 11 (some .long) ∈ gwd := inT2 137 (by rfl) rfl
theorem cd_X9_compareFractions : Cond.code yX9_compareFractions cX9_compareFractions 22 (some .int) ∈ gwd := inT4 95 (by rfl) rfl
theorem cd_X9_compound : Cond.code yX9_compound cX9_compound 2 (some .int) ∈ gwd := inT2 216 (by rfl) rfl
theorem cd_X9_count : Cond.code yX9_count cX9_count 2 (some .int) ∈ gwd := inT4 155 (by rfl) rfl
theorem cd_X9_cranks : Cond.code yX9_cranks cX9_cranks 5 (some .int) ∈ gwd := inT4 5 (by rfl) rfl
theorem cd_X9_cuts : Cond.code yX9_cuts cX9_cuts 1 (some .int) ∈ gwd := inT4 23 (by rfl) rfl
theorem cd_X9_day : Cond.code yX9_day cX9_day 6 (some .int) ∈ gwd := inT4 119 (by rfl) rfl
theorem cd_X9_differential : Cond.code yX9_differential cX9_differential 4 (some .int) ∈ gwd := inT3 10 (by rfl) rfl
theorem cd_X9_divides : Cond.code yX9_divides cX9_divides 4 (some .int) ∈ gwd := inT4 55 (by rfl) rfl
theorem cd_X9_doAct : Cond.code yX9_doAct cX9_doAct 2 (some .int) ∈ gwd := inT4 130 (by rfl) rfl
theorem cd_X9_draw : Cond.code yX9_draw cX9_draw 2 (some .int) ∈ gwd := inT4 142 (by rfl) rfl
theorem cd_X9_end : Cond.code yX9_end cX9_end 2 (some .boolean) ∈ gwd := inT2 102 (by rfl) rfl
theorem cd_X9_findNear : Cond.code yX9_findNear cX9_findNear 22 none ∈ gwd := inT3 197 (by rfl) rfl
theorem cd_X9_firstWrongOfDay : Cond.code yX9_firstWrongOfDay cX9_firstWrongOfDay 7 (some .int) ∈ gwd := inT4 123 (by rfl) rfl
theorem cd_X9_fittedShelf : Cond.code yX9_fittedShelf cX9_fittedShelf 1 (some (.object "DividingHead$Shelf")) ∈ gwd := inT3 14 (by rfl) rfl
theorem cd_X9_gaps : Cond.code yX9_gaps cX9_gaps 1 (some .int) ∈ gwd := inT4 88 (by rfl) rfl
theorem cd_X9_gear : Cond.code yX9_gear cX9_gear 2 (some .int) ∈ gwd := inT4 233 (by rfl) rfl
theorem cd_X9_geared : Cond.code yX9_geared cX9_geared 7 (some .int) ∈ gwd := inT3 227 (by rfl) rfl
theorem cd_X9_gears : Cond.code yX9_gears cX9_gears 2 (some .int) ∈ gwd := inT2 167 (by rfl) rfl
theorem cd_X9_hard : Cond.code yX9_hard cX9_hard 11 (some .int) ∈ gwd := inT3 119 (by rfl) rfl
theorem cd_X9_hasWay : Cond.code yX9_hasWay cX9_hasWay 3 (some .boolean) ∈ gwd := inT3 109 (by rfl) rfl
theorem cd_X9_init : Cond.code yX9_init cX9_init 1 none ∈ gwd := inT1 29 (by rfl) rfl
theorem cd_X9_inverse : Cond.code yX9_inverse cX9_inverse 19 (some .long) ∈ gwd := inT4 109 (by rfl) rfl
theorem cd_X9_isBetween : Cond.code yX9_isBetween cX9_isBetween 3 (some .boolean) ∈ gwd := inT2 184 (by rfl) rfl
theorem cd_X9_isParts : Cond.code yX9_isParts cX9_isParts 1 (some .boolean) ∈ gwd := inT2 192 (by rfl) rfl
theorem cd_X9_keep : Cond.code yX9_keep cX9_keep 3 (some .boolean) ∈ gwd := inT4 147 (by rfl) rfl
theorem cd_X9_lead : Cond.code yX9_lead cX9_lead 2 (some .int) ∈ gwd := inT3 188 (by rfl) rfl
theorem cd_X9_lengthOfAct : Cond.code yX9_lengthOfAct cX9_lengthOfAct 1 (some .int) ∈ gwd := inT4 126 (by rfl) rfl
theorem cd_X9_mark : Cond.code yX9_mark cX9_mark 2 (some .int) ∈ gwd := inT4 80 (by rfl) rfl
theorem cd_X9_missing : Cond.code yX9_missing cX9_missing 7 (some .int) ∈ gwd := inT4 101 (by rfl) rfl
theorem cd_X9_near : Cond.code yX9_near cX9_near 4 (some .int) ∈ gwd := inT3 192 (by rfl) rfl
theorem cd_X9_nearest : Cond.code yX9_nearest cX9_nearest 3 (some .int) ∈ gwd := inT3 138 (by rfl) rfl
theorem cd_X9_plates : Cond.code yX9_plates cX9_plates 2 (some .int) ∈ gwd := inT2 106 (by rfl) rfl
theorem cd_X9_putInDifferential : Cond.code yX9_putInDifferential cX9_putInDifferential 3 none ∈ gwd := inT4 59 (by rfl) rfl
theorem cd_X9_ratios : Cond.code yX9_ratios cX9_ratios 4 (some .int) ∈ gwd := inT3 178 (by rfl) rfl
theorem cd_X9_reaches : Cond.code yX9_reaches cX9_reaches 11 (some .int) ∈ gwd := inT4 105 (by rfl) rfl
theorem cd_X9_readGears : Cond.code yX9_readGears cX9_readGears 6 (some .int) ∈ gwd := inT2 171 (by rfl) rfl
theorem cd_X9_readPlates : Cond.code yX9_readPlates cX9_readPlates 7 (some .int) ∈ gwd := inT2 121 (by rfl) rfl
theorem cd_X9_row : Cond.code yX9_row cX9_row 2 (some .long) ∈ gwd := inT5 2 (by rfl) rfl
theorem cd_X9_sets : Cond.code yX9_sets cX9_sets 3 (some .int) ∈ gwd := inT2 177 (by rfl) rfl
theorem cd_X9_sign : Cond.code yX9_sign cX9_sign 2 (some .int) ∈ gwd := inT2 94 (by rfl) rfl
theorem cd_X9_simple : Cond.code yX9_simple cX9_simple 2 (some .int) ∈ gwd := inT2 189 (by rfl) rfl
theorem cd_X9_tellAngle : Cond.code yX9_tellAngle cX9_tellAngle 5 none ∈ gwd := inT3 215 (by rfl) rfl
theorem cd_X9_tellClosest : Cond.code yX9_tellClosest cX9_tellClosest 10 (some .int) ∈ gwd := inT3 142 (by rfl) rfl
theorem cd_X9_tellWheels : Cond.code yX9_tellWheels cX9_tellWheels 5 (some .int) ∈ gwd := inT3 129 (by rfl) rfl
theorem cd_X9_train : Cond.code yX9_train cX9_train 5 (some .int) ∈ gwd := inT3 123 (by rfl) rfl
theorem cd_X9_tree : Cond.code yX9_tree cX9_tree 9 (some .int) ∈ gwd := inT3 204 (by rfl) rfl
theorem cd_X9_treeSteps : Cond.code yX9_treeSteps cX9_treeSteps 13 (some .int) ∈ gwd := inT3 200 (by rfl) rfl
theorem cd_X9_undo : Cond.code yX9_undo cX9_undo 2 (some .int) ∈ gwd := inT4 134 (by rfl) rfl
theorem cd_X9_ungeared : Cond.code yX9_ungeared cX9_ungeared 1 (some .int) ∈ gwd := inT4 0 (by rfl) rfl
theorem cd_X9_uses : Cond.code yX9_uses cX9_uses 2 (some .int) ∈ gwd := inT3 219 (by rfl) rfl
theorem cd_X9_ways : Cond.code yX9_ways cX9_ways 4 (some .int) ∈ gwd := inT3 105 (by rfl) rfl
theorem cd_X9_windWay : Cond.code yX9_windWay cX9_windWay 3 none ∈ gwd := inT4 63 (by rfl) rfl
theorem cd_X9_wipes : Cond.code yX9_wipes cX9_wipes 1 (some .int) ∈ gwd := inT4 50 (by rfl) rfl
theorem cd_X9_years : Cond.code yX9_years cX9_years 6 (some .int) ∈ gwd := inT4 138 (by rfl) rfl
theorem oi_X9_1 : Cond.methodLink RX9 1 Lib.objectInit ∈ gwd := inT1 30 (by rfl) rfl
theorem cl_X9_9 : CLN RX9 9 yX7_init cX7_init 1 none 0 := ⟨by simp [nestW], inT1 2 (by rfl) rfl, cd_X7_init, by decide +kernel, by decide +kernel, by decide +kernel⟩
theorem li_X7_init : yX7_init.name = "<init>" ∧ Cond.instanceMethod yX7_init ∈ gwd := ⟨rfl, inT1 36 (by rfl) rfl⟩
theorem cl_X9_18 : CLN RX9 18 yX8_init cX8_init 1 none 0 := ⟨by simp [nestW], inT1 3 (by rfl) rfl, cd_X8_init, by decide +kernel, by decide +kernel, by decide +kernel⟩
theorem li_X8_init : yX8_init.name = "<init>" ∧ Cond.instanceMethod yX8_init ∈ gwd := ⟨rfl, inT1 51 (by rfl) rfl⟩
theorem cl_X9_25 : CLN RX9 25 yX6_init cX6_init 1 none 0 := ⟨by simp [nestW], inT1 4 (by rfl) rfl, cd_X6_init, by decide +kernel, by decide +kernel, by decide +kernel⟩
theorem li_X6_init : yX6_init.name = "<init>" ∧ Cond.instanceMethod yX6_init ∈ gwd := ⟨rfl, inT1 66 (by rfl) rfl⟩
theorem cl_X9_32 : CLN RX9 32 yX0_init cX0_init 1 none 0 := ⟨by simp [nestW], inT1 5 (by rfl) rfl, cd_X0_init, by decide +kernel, by decide +kernel, by decide +kernel⟩
theorem li_X0_init : yX0_init.name = "<init>" ∧ Cond.instanceMethod yX0_init ∈ gwd := ⟨rfl, inT1 90 (by rfl) rfl⟩
theorem cl_X9_39 : CLN RX9 39 yX1_init cX1_init 1 none 0 := ⟨by simp [nestW], inT1 6 (by rfl) rfl, cd_X1_init, by decide +kernel, by decide +kernel, by decide +kernel⟩
theorem li_X1_init : yX1_init.name = "<init>" ∧ Cond.instanceMethod yX1_init ∈ gwd := ⟨rfl, inT1 121 (by rfl) rfl⟩
theorem cl_X9_46 : CLN RX9 46 yX3_init cX3_init 1 none 0 := ⟨by simp [nestW], inT1 7 (by rfl) rfl, cd_X3_init, by decide +kernel, by decide +kernel, by decide +kernel⟩
theorem li_X3_init : yX3_init.name = "<init>" ∧ Cond.instanceMethod yX3_init ∈ gwd := ⟨rfl, inT1 146 (by rfl) rfl⟩
theorem cl_X9_53 : CLN RX9 53 yX2_init cX2_init 1 none 0 := ⟨by simp [nestW], inT1 8 (by rfl) rfl, cd_X2_init, by decide +kernel, by decide +kernel, by decide +kernel⟩
theorem li_X2_init : yX2_init.name = "<init>" ∧ Cond.instanceMethod yX2_init ∈ gwd := ⟨rfl, inT1 152 (by rfl) rfl⟩
theorem cl_X9_77 : CLN RX9 77 yX4_init cX4_init 1 none 0 := ⟨by simp [nestW], inT1 9 (by rfl) rfl, cd_X4_init, by decide +kernel, by decide +kernel, by decide +kernel⟩
theorem li_X4_init : yX4_init.name = "<init>" ∧ Cond.instanceMethod yX4_init ∈ gwd := ⟨rfl, inT1 190 (by rfl) rfl⟩
theorem cl_X9_89 : CL RX9 89 yX4_fillAtFirst cX4_fillAtFirst 2 none 0 := ⟨inT2 25 (by rfl) rfl, inT1 9 (by rfl) rfl, cd_X4_fillAtFirst, by decide +kernel, by decide +kernel, by decide +kernel⟩
theorem lv_X4_fillAtFirst : Cond.instanceMethod yX4_fillAtFirst ∈ gwd ∧ Cond.selects yX4_fillAtFirst.cls yX4_fillAtFirst yX4_fillAtFirst ∈ gwd := ⟨inT2 26 (by rfl) rfl, inT2 27 (by rfl) rfl⟩
theorem cl_X9_92 : CL RX9 92 yX7_addFour cX7_addFour 3 (some .boolean) 1 := ⟨inT2 95 (by rfl) rfl, inT1 2 (by rfl) rfl, cd_X7_addFour, by decide +kernel, by decide +kernel, by decide +kernel⟩
theorem lv_X7_addFour : Cond.instanceMethod yX7_addFour ∈ gwd ∧ Cond.selects yX7_addFour.cls yX7_addFour yX7_addFour ∈ gwd := ⟨inT2 96 (by rfl) rfl, inT2 97 (by rfl) rfl⟩
theorem cl_X9_99 : CL RX9 99 yX4_copyFrom cX4_copyFrom 2 none 1 := ⟨inT2 107 (by rfl) rfl, inT1 9 (by rfl) rfl, cd_X4_copyFrom, by decide +kernel, by decide +kernel, by decide +kernel⟩
theorem lv_X4_copyFrom : Cond.instanceMethod yX4_copyFrom ∈ gwd ∧ Cond.selects yX4_copyFrom.cls yX4_copyFrom yX4_copyFrom ∈ gwd := ⟨inT2 108 (by rfl) rfl, inT2 109 (by rfl) rfl⟩
theorem cl_X9_103 : CL RX9 103 yX9_readPlates cX9_readPlates 7 (some .int) 0 := ⟨inT2 118 (by rfl) rfl, inT1 1 (by rfl) rfl, cd_X9_readPlates, by decide +kernel, by decide +kernel, by decide +kernel⟩
theorem lv_X9_readPlates : Cond.instanceMethod yX9_readPlates ∈ gwd ∧ Cond.selects yX9_readPlates.cls yX9_readPlates yX9_readPlates ∈ gwd := ⟨inT2 120 (by rfl) rfl, inG 0 (by decide +kernel) rfl⟩
theorem cl_X9_107 : CL RX9 107 yX9_adopt cX9_adopt 4 (some .int) 1 := ⟨inT2 160 (by rfl) rfl, inT1 1 (by rfl) rfl, cd_X9_adopt, by decide +kernel, by decide +kernel, by decide +kernel⟩
theorem lv_X9_adopt : Cond.instanceMethod yX9_adopt ∈ gwd ∧ Cond.selects yX9_adopt.cls yX9_adopt yX9_adopt ∈ gwd := ⟨inT2 162 (by rfl) rfl, inG 1 (by decide +kernel) rfl⟩
theorem cl_X9_111 : CL RX9 111 yX9_readGears cX9_readGears 6 (some .int) 0 := ⟨inT2 168 (by rfl) rfl, inT1 1 (by rfl) rfl, cd_X9_readGears, by decide +kernel, by decide +kernel, by decide +kernel⟩
theorem lv_X9_readGears : Cond.instanceMethod yX9_readGears ∈ gwd ∧ Cond.selects yX9_readGears.cls yX9_readGears yX9_readGears ∈ gwd := ⟨inT2 170 (by rfl) rfl, inG 2 (by decide +kernel) rfl⟩
theorem cl_X9_114 : CL RX9 114 yX4_dropPlates cX4_dropPlates 1 none 0 := ⟨inT2 122 (by rfl) rfl, inT1 9 (by rfl) rfl, cd_X4_dropPlates, by decide +kernel, by decide +kernel, by decide +kernel⟩
theorem lv_X4_dropPlates : Cond.instanceMethod yX4_dropPlates ∈ gwd ∧ Cond.selects yX4_dropPlates.cls yX4_dropPlates yX4_dropPlates ∈ gwd := ⟨inT2 30 (by rfl) rfl, inT2 31 (by rfl) rfl⟩
theorem cl_X9_117 : CL RX9 117 yX4_atFirst cX4_atFirst 1 none 0 := ⟨inT2 123 (by rfl) rfl, inT1 9 (by rfl) rfl, cd_X4_atFirst, by decide +kernel, by decide +kernel, by decide +kernel⟩
theorem lv_X4_atFirst : Cond.instanceMethod yX4_atFirst ∈ gwd ∧ Cond.selects yX4_atFirst.cls yX4_atFirst yX4_atFirst ∈ gwd := ⟨inT2 124 (by rfl) rfl, inT2 125 (by rfl) rfl⟩
theorem cl_X9_120 : CL RX9 120 yX7_firstNoDigit cX7_firstNoDigit 4 (some .int) 2 := ⟨inT2 142 (by rfl) rfl, inT1 2 (by rfl) rfl, cd_X7_firstNoDigit, by decide +kernel, by decide +kernel, by decide +kernel⟩
theorem lv_X7_firstNoDigit : Cond.instanceMethod yX7_firstNoDigit ∈ gwd ∧ Cond.selects yX7_firstNoDigit.cls yX7_firstNoDigit yX7_firstNoDigit ∈ gwd := ⟨inT2 143 (by rfl) rfl, inT2 144 (by rfl) rfl⟩
theorem cl_X9_124 : CL RX9 124 yX7_number cX7_number 5 (some .int) 2 := ⟨inT2 154 (by rfl) rfl, inT1 2 (by rfl) rfl, cd_X7_number, by decide +kernel, by decide +kernel, by decide +kernel⟩
theorem lv_X7_number : Cond.instanceMethod yX7_number ∈ gwd ∧ Cond.selects yX7_number.cls yX7_number yX7_number ∈ gwd := ⟨inT2 155 (by rfl) rfl, inT2 156 (by rfl) rfl⟩
theorem cl_X9_127 : CL RX9 127 yX4_addCircle cX4_addCircle 2 none 1 := ⟨inT2 158 (by rfl) rfl, inT1 9 (by rfl) rfl, cd_X4_addCircle, by decide +kernel, by decide +kernel, by decide +kernel⟩
theorem lv_X4_addCircle : Cond.instanceMethod yX4_addCircle ∈ gwd ∧ Cond.selects yX4_addCircle.cls yX4_addCircle yX4_addCircle ∈ gwd := ⟨inT2 36 (by rfl) rfl, inT2 37 (by rfl) rfl⟩
theorem cl_X9_134 : CL RX9 134 yX7_at cX7_at 2 (some .int) 1 := ⟨inT2 159 (by rfl) rfl, inT1 2 (by rfl) rfl, cd_X7_at, by decide +kernel, by decide +kernel, by decide +kernel⟩
theorem lv_X7_at : Cond.instanceMethod yX7_at ∈ gwd ∧ Cond.selects yX7_at.cls yX7_at yX7_at ∈ gwd := ⟨inT2 151 (by rfl) rfl, inT2 152 (by rfl) rfl⟩
theorem cl_X9_143 : CL RX9 143 yX7_isDigit cX7_isDigit 2 (some .boolean) 1 := ⟨inT2 172 (by rfl) rfl, inT1 2 (by rfl) rfl, cd_X7_isDigit, by decide +kernel, by decide +kernel, by decide +kernel⟩
theorem lv_X7_isDigit : Cond.instanceMethod yX7_isDigit ∈ gwd ∧ Cond.selects yX7_isDigit.cls yX7_isDigit yX7_isDigit ∈ gwd := ⟨inT2 147 (by rfl) rfl, inT2 148 (by rfl) rfl⟩
theorem cl_X9_146 : CL RX9 146 yX4_addGear cX4_addGear 2 none 1 := ⟨inT2 173 (by rfl) rfl, inT1 9 (by rfl) rfl, cd_X4_addGear, by decide +kernel, by decide +kernel, by decide +kernel⟩
theorem lv_X4_addGear : Cond.instanceMethod yX4_addGear ∈ gwd ∧ Cond.selects yX4_addGear.cls yX4_addGear yX4_addGear ∈ gwd := ⟨inT2 42 (by rfl) rfl, inT2 43 (by rfl) rfl⟩
theorem cl_X9_149 : CL RX9 149 yX4_setTo cX4_setTo 5 (some .int) 2 := ⟨inT2 178 (by rfl) rfl, inT1 9 (by rfl) rfl, cd_X4_setTo, by decide +kernel, by decide +kernel, by decide +kernel⟩
theorem lv_X4_setTo : Cond.instanceMethod yX4_setTo ∈ gwd ∧ Cond.selects yX4_setTo.cls yX4_setTo yX4_setTo ∈ gwd := ⟨inT2 179 (by rfl) rfl, inT2 180 (by rfl) rfl⟩
theorem cl_X9_152 : CL RX9 152 yX4_isCircle cX4_isCircle 2 (some .boolean) 1 := ⟨inT4 164 (by rfl) rfl, inT1 9 (by rfl) rfl, cd_X4_isCircle, by decide +kernel, by decide +kernel, by decide +kernel⟩
theorem lv_X4_isCircle : Cond.instanceMethod yX4_isCircle ∈ gwd ∧ Cond.selects yX4_isCircle.cls yX4_isCircle yX4_isCircle ∈ gwd := ⟨inT2 202 (by rfl) rfl, inT2 203 (by rfl) rfl⟩
theorem cl_X9_158 : CL RX9 158 yX8_clear cX8_clear 1 none 0 := ⟨inT2 205 (by rfl) rfl, inT1 3 (by rfl) rfl, cd_X8_clear, by decide +kernel, by decide +kernel, by decide +kernel⟩
theorem lv_X8_clear : Cond.instanceMethod yX8_clear ∈ gwd ∧ Cond.selects yX8_clear.cls yX8_clear yX8_clear ∈ gwd := ⟨inT2 206 (by rfl) rfl, inT2 207 (by rfl) rfl⟩
theorem cl_X9_161 : CL RX9 161 yX4_plateOf cX4_plateOf 2 (some .int) 1 := ⟨inT4 226 (by rfl) rfl, inT1 9 (by rfl) rfl, cd_X4_plateOf, by decide +kernel, by decide +kernel, by decide +kernel⟩
theorem lv_X4_plateOf : Cond.instanceMethod yX4_plateOf ∈ gwd ∧ Cond.selects yX4_plateOf.cls yX4_plateOf yX4_plateOf ∈ gwd := ⟨inT2 222 (by rfl) rfl, inT2 223 (by rfl) rfl⟩
theorem cl_X9_164 : CL RX9 164 yX8_add cX8_add 3 none 1 := ⟨inT2 209 (by rfl) rfl, inT1 3 (by rfl) rfl, cd_X8_add, by decide +kernel, by decide +kernel, by decide +kernel⟩
theorem lv_X8_add : Cond.instanceMethod yX8_add ∈ gwd ∧ Cond.selects yX8_add.cls yX8_add yX8_add ∈ gwd := ⟨inT2 210 (by rfl) rfl, inT2 211 (by rfl) rfl⟩
theorem cl_X9_168 : CL RX9 168 yX4_holesOf cX4_holesOf 2 (some .int) 1 := ⟨inT3 210 (by rfl) rfl, inT1 9 (by rfl) rfl, cd_X4_holesOf, by decide +kernel, by decide +kernel, by decide +kernel⟩
theorem lv_X4_holesOf : Cond.instanceMethod yX4_holesOf ∈ gwd ∧ Cond.selects yX4_holesOf.cls yX4_holesOf yX4_holesOf ∈ gwd := ⟨inT2 198 (by rfl) rfl, inT2 199 (by rfl) rfl⟩
theorem cl_X9_171 : CL RX9 171 yX4_isGear cX4_isGear 2 (some .boolean) 1 := ⟨inT4 234 (by rfl) rfl, inT1 9 (by rfl) rfl, cd_X4_isGear, by decide +kernel, by decide +kernel, by decide +kernel⟩
theorem lv_X4_isGear : Cond.instanceMethod yX4_isGear ∈ gwd ∧ Cond.selects yX4_isGear.cls yX4_isGear yX4_isGear ∈ gwd := ⟨inT3 53 (by rfl) rfl, inT3 54 (by rfl) rfl⟩
theorem cl_X9_174 : CL RX9 174 yX4_teethOf cX4_teethOf 2 (some .int) 1 := ⟨inT4 235 (by rfl) rfl, inT1 9 (by rfl) rfl, cd_X4_teethOf, by decide +kernel, by decide +kernel, by decide +kernel⟩
theorem lv_X4_teethOf : Cond.instanceMethod yX4_teethOf ∈ gwd ∧ Cond.selects yX4_teethOf.cls yX4_teethOf yX4_teethOf ∈ gwd := ⟨inT3 49 (by rfl) rfl, inT3 50 (by rfl) rfl⟩
theorem cl_X9_177 : CL RX9 177 yX9_isParts cX9_isParts 1 (some .boolean) 1 := ⟨inT2 190 (by rfl) rfl, inT1 1 (by rfl) rfl, cd_X9_isParts, by decide +kernel, by decide +kernel, by decide +kernel⟩
theorem ls_X9_isParts : Cond.static yX9_isParts ∈ gwd := inT2 191 (by rfl) rfl
theorem cl_X9_180 : CL RX9 180 yX6_look cX6_look 5 none 2 := ⟨inT2 193 (by rfl) rfl, inT1 4 (by rfl) rfl, cd_X6_look, by decide +kernel, by decide +kernel, by decide +kernel⟩
theorem lv_X6_look : Cond.instanceMethod yX6_look ∈ gwd ∧ Cond.selects yX6_look.cls yX6_look yX6_look ∈ gwd := ⟨inT2 194 (by rfl) rfl, inT2 195 (by rfl) rfl⟩
theorem cl_X9_196 : CL RX9 196 yX0_look cX0_look 6 none 2 := ⟨inT2 217 (by rfl) rfl, inT1 5 (by rfl) rfl, cd_X0_look, by decide +kernel, by decide +kernel, by decide +kernel⟩
theorem lv_X0_look : Cond.instanceMethod yX0_look ∈ gwd ∧ Cond.selects yX0_look.cls yX0_look yX0_look ∈ gwd := ⟨inT2 218 (by rfl) rfl, inT2 219 (by rfl) rfl⟩
theorem cl_X9_211 : CL RX9 211 yX9_fittedShelf cX9_fittedShelf 1 (some (.object "DividingHead$Shelf")) 0 := ⟨inT3 11 (by rfl) rfl, inT1 1 (by rfl) rfl, cd_X9_fittedShelf, by decide +kernel, by decide +kernel, by decide +kernel⟩
theorem lv_X9_fittedShelf : Cond.instanceMethod yX9_fittedShelf ∈ gwd ∧ Cond.selects yX9_fittedShelf.cls yX9_fittedShelf yX9_fittedShelf ∈ gwd := ⟨inT3 13 (by rfl) rfl, inG 6 (by decide +kernel) rfl⟩
theorem cl_X9_215 : CL RX9 215 yX1_look cX1_look 5 none 3 := ⟨inT3 85 (by rfl) rfl, inT1 6 (by rfl) rfl, cd_X1_look, by decide +kernel, by decide +kernel, by decide +kernel⟩
theorem lv_X1_look : Cond.instanceMethod yX1_look ∈ gwd ∧ Cond.selects yX1_look.cls yX1_look yX1_look ∈ gwd := ⟨inT3 86 (by rfl) rfl, inT3 87 (by rfl) rfl⟩
theorem cl_X9_226 : CL RX9 226 yX5_wheel cX5_wheel 4 (some .int) 2 := ⟨inT3 98 (by rfl) rfl, inT1 21 (by rfl) rfl, cd_X5_wheel, by decide +kernel, by decide +kernel, by decide +kernel⟩
theorem lv_X5_wheel : Cond.instanceMethod yX5_wheel ∈ gwd ∧ Cond.selects yX5_wheel.cls yX5_wheel yX5_wheel ∈ gwd := ⟨inT3 99 (by rfl) rfl, inT3 100 (by rfl) rfl⟩
theorem cl_X9_234 : CL RX9 234 yX9_hasWay cX9_hasWay 3 (some .boolean) 2 := ⟨inT3 106 (by rfl) rfl, inT1 1 (by rfl) rfl, cd_X9_hasWay, by decide +kernel, by decide +kernel, by decide +kernel⟩
theorem lv_X9_hasWay : Cond.instanceMethod yX9_hasWay ∈ gwd ∧ Cond.selects yX9_hasWay.cls yX9_hasWay yX9_hasWay ∈ gwd := ⟨inT3 108 (by rfl) rfl, inG 13 (by decide +kernel) rfl⟩
theorem cl_X9_238 : CL RX9 238 yJ6_bitCount_0f7a4 cJ6_bitCount_0f7a4 1 (some .int) 1 := ⟨inT3 110 (by rfl) rfl, inT1 23 (by rfl) rfl, cd_J6_bitCount_0f7a4, by decide +kernel, by decide +kernel, by decide +kernel⟩
theorem ls_J6_bitCount_0f7a4 : Cond.static yJ6_bitCount_0f7a4 ∈ gwd := inT3 111 (by rfl) rfl
theorem cl_X9_243 : CLN RX9 243 yX5_init cX5_init 1 none 0 := ⟨by simp [nestW], inT1 21 (by rfl) rfl, cd_X5_init, by decide +kernel, by decide +kernel, by decide +kernel⟩
theorem li_X5_init : yX5_init.name = "<init>" ∧ Cond.instanceMethod yX5_init ∈ gwd := ⟨rfl, inT3 18 (by rfl) rfl⟩
theorem cl_X9_244 : CL RX9 244 yX5_fit cX5_fit 4 none 1 := ⟨inT3 44 (by rfl) rfl, inT1 21 (by rfl) rfl, cd_X5_fit, by decide +kernel, by decide +kernel, by decide +kernel⟩
theorem lv_X5_fit : Cond.instanceMethod yX5_fit ∈ gwd ∧ Cond.selects yX5_fit.cls yX5_fit yX5_fit ∈ gwd := ⟨inT3 45 (by rfl) rfl, inT3 46 (by rfl) rfl⟩
theorem cl_X9_247 : CL RX9 247 yX9_isBetween cX9_isBetween 3 (some .boolean) 3 := ⟨inT3 124 (by rfl) rfl, inT1 1 (by rfl) rfl, cd_X9_isBetween, by decide +kernel, by decide +kernel, by decide +kernel⟩
theorem ls_X9_isBetween : Cond.static yX9_isBetween ∈ gwd := inT2 183 (by rfl) rfl
theorem cl_X9_251 : CL RX9 251 yX5_find cX5_find 8 (some .int) 2 := ⟨inT3 125 (by rfl) rfl, inT1 21 (by rfl) rfl, cd_X5_find, by decide +kernel, by decide +kernel, by decide +kernel⟩
theorem lv_X5_find : Cond.instanceMethod yX5_find ∈ gwd ∧ Cond.selects yX5_find.cls yX5_find yX5_find ∈ gwd := ⟨inT3 95 (by rfl) rfl, inT3 96 (by rfl) rfl⟩
theorem cl_X9_255 : CL RX9 255 yX9_tellWheels cX9_tellWheels 5 (some .int) 2 := ⟨inT3 126 (by rfl) rfl, inT1 1 (by rfl) rfl, cd_X9_tellWheels, by decide +kernel, by decide +kernel, by decide +kernel⟩
theorem lv_X9_tellWheels : Cond.instanceMethod yX9_tellWheels ∈ gwd ∧ Cond.selects yX9_tellWheels.cls yX9_tellWheels yX9_tellWheels ∈ gwd := ⟨inT3 128 (by rfl) rfl, inG 14 (by decide +kernel) rfl⟩
theorem cl_X9_259 : CL RX9 259 yX9_tellClosest cX9_tellClosest 10 (some .int) 3 := ⟨inT3 139 (by rfl) rfl, inT1 1 (by rfl) rfl, cd_X9_tellClosest, by decide +kernel, by decide +kernel, by decide +kernel⟩
theorem lv_X9_tellClosest : Cond.instanceMethod yX9_tellClosest ∈ gwd ∧ Cond.selects yX9_tellClosest.cls yX9_tellClosest yX9_tellClosest ∈ gwd := ⟨inT3 141 (by rfl) rfl, inG 15 (by decide +kernel) rfl⟩
theorem cl_X9_264 : CL RX9 264 yX5_extreme cX5_extreme 5 (some .int) 1 := ⟨inT3 179 (by rfl) rfl, inT1 21 (by rfl) rfl, cd_X5_extreme, by decide +kernel, by decide +kernel, by decide +kernel⟩
theorem lv_X5_extreme : Cond.instanceMethod yX5_extreme ∈ gwd ∧ Cond.selects yX5_extreme.cls yX5_extreme yX5_extreme ∈ gwd := ⟨inT3 180 (by rfl) rfl, inT3 181 (by rfl) rfl⟩
theorem cl_X9_267 : CL RX9 267 yX5_up cX5_up 2 (some .int) 1 := ⟨inT3 183 (by rfl) rfl, inT1 21 (by rfl) rfl, cd_X5_up, by decide +kernel, by decide +kernel, by decide +kernel⟩
theorem lv_X5_up : Cond.instanceMethod yX5_up ∈ gwd ∧ Cond.selects yX5_up.cls yX5_up yX5_up ∈ gwd := ⟨inT3 156 (by rfl) rfl, inT3 157 (by rfl) rfl⟩
theorem cl_X9_270 : CL RX9 270 yX5_low cX5_low 2 (some .int) 1 := ⟨inT3 184 (by rfl) rfl, inT1 21 (by rfl) rfl, cd_X5_low, by decide +kernel, by decide +kernel, by decide +kernel⟩
theorem lv_X5_low : Cond.instanceMethod yX5_low ∈ gwd ∧ Cond.selects yX5_low.cls yX5_low yX5_low ∈ gwd := ⟨inT3 152 (by rfl) rfl, inT3 153 (by rfl) rfl⟩
theorem cl_X9_279 : CL RX9 279 yX5_closest cX5_closest 23 (some .int) 3 := ⟨inT3 143 (by rfl) rfl, inT1 21 (by rfl) rfl, cd_X5_closest, by decide +kernel, by decide +kernel, by decide +kernel⟩
theorem lv_X5_closest : Cond.instanceMethod yX5_closest ∈ gwd ∧ Cond.selects yX5_closest.cls yX5_closest yX5_closest ∈ gwd := ⟨inT3 144 (by rfl) rfl, inT3 145 (by rfl) rfl⟩
theorem cl_X9_282 : CL RX9 282 yX5_upper cX5_upper 4 (some .long) 2 := ⟨inT3 166 (by rfl) rfl, inT1 21 (by rfl) rfl, cd_X5_upper, by decide +kernel, by decide +kernel, by decide +kernel⟩
theorem lv_X5_upper : Cond.instanceMethod yX5_upper ∈ gwd ∧ Cond.selects yX5_upper.cls yX5_upper yX5_upper ∈ gwd := ⟨inT3 148 (by rfl) rfl, inT3 149 (by rfl) rfl⟩
theorem cl_X9_286 : CL RX9 286 yX5_lower cX5_lower 4 (some .long) 2 := ⟨inT3 167 (by rfl) rfl, inT1 21 (by rfl) rfl, cd_X5_lower, by decide +kernel, by decide +kernel, by decide +kernel⟩
theorem lv_X5_lower : Cond.instanceMethod yX5_lower ∈ gwd ∧ Cond.selects yX5_lower.cls yX5_lower yX5_lower ∈ gwd := ⟨inT3 160 (by rfl) rfl, inT3 161 (by rfl) rfl⟩
theorem cl_X9_289 : CL RX9 289 yX2_put cX2_put 7 none 2 := ⟨inT3 168 (by rfl) rfl, inT1 8 (by rfl) rfl, cd_X2_put, by decide +kernel, by decide +kernel, by decide +kernel⟩
theorem lv_X2_put : Cond.instanceMethod yX2_put ∈ gwd ∧ Cond.selects yX2_put.cls yX2_put yX2_put ∈ gwd := ⟨inT2 132 (by rfl) rfl, inT2 133 (by rfl) rfl⟩
theorem cl_X9_293 : CL RX9 293 yX8_addFraction cX8_addFraction 2 none 1 := ⟨inT3 169 (by rfl) rfl, inT1 3 (by rfl) rfl, cd_X8_addFraction, by decide +kernel, by decide +kernel, by decide +kernel⟩
theorem lv_X8_addFraction : Cond.instanceMethod yX8_addFraction ∈ gwd ∧ Cond.selects yX8_addFraction.cls yX8_addFraction yX8_addFraction ∈ gwd := ⟨inT3 170 (by rfl) rfl, inT3 171 (by rfl) rfl⟩
theorem cl_X9_302 : CL RX9 302 yJ9_abs_067f4 cJ9_abs_067f4 2 (some .long) 1 := ⟨inT3 174 (by rfl) rfl, inT1 20 (by rfl) rfl, cd_J9_abs_067f4, by decide +kernel, by decide +kernel, by decide +kernel⟩
theorem ls_J9_abs_067f4 : Cond.static yJ9_abs_067f4 ∈ gwd := inT3 164 (by rfl) rfl
theorem cl_X9_308 : CL RX9 308 yX5_wheelTotal cX5_wheelTotal 2 (some .int) 1 := ⟨inT3 130 (by rfl) rfl, inT1 21 (by rfl) rfl, cd_X5_wheelTotal, by decide +kernel, by decide +kernel, by decide +kernel⟩
theorem lv_X5_wheelTotal : Cond.instanceMethod yX5_wheelTotal ∈ gwd ∧ Cond.selects yX5_wheelTotal.cls yX5_wheelTotal yX5_wheelTotal ∈ gwd := ⟨inT3 131 (by rfl) rfl, inT3 132 (by rfl) rfl⟩
theorem cl_X9_312 : CL RX9 312 yX9_findNear cX9_findNear 22 none 3 := ⟨inT3 194 (by rfl) rfl, inT1 1 (by rfl) rfl, cd_X9_findNear, by decide +kernel, by decide +kernel, by decide +kernel⟩
theorem lv_X9_findNear : Cond.instanceMethod yX9_findNear ∈ gwd ∧ Cond.selects yX9_findNear.cls yX9_findNear yX9_findNear ∈ gwd := ⟨inT3 196 (by rfl) rfl, inG 16 (by decide +kernel) rfl⟩
theorem cl_X9_316 : CL RX9 316 yX9_treeSteps cX9_treeSteps 13 (some .int) 2 := ⟨inT3 198 (by rfl) rfl, inT1 1 (by rfl) rfl, cd_X9_treeSteps, by decide +kernel, by decide +kernel, by decide +kernel⟩
theorem ls_X9_treeSteps : Cond.static yX9_treeSteps ∈ gwd := inT3 199 (by rfl) rfl
theorem cl_X9_322 : CL RX9 322 yX9_tellAngle cX9_tellAngle 5 none 2 := ⟨inT3 212 (by rfl) rfl, inT1 1 (by rfl) rfl, cd_X9_tellAngle, by decide +kernel, by decide +kernel, by decide +kernel⟩
theorem lv_X9_tellAngle : Cond.instanceMethod yX9_tellAngle ∈ gwd ∧ Cond.selects yX9_tellAngle.cls yX9_tellAngle yX9_tellAngle ∈ gwd := ⟨inT3 214 (by rfl) rfl, inG 17 (by decide +kernel) rfl⟩
theorem cl_X9_326 : CL RX9 326 yX4_choose cX4_choose 3 (some .int) 1 := ⟨inT3 220 (by rfl) rfl, inT1 9 (by rfl) rfl, cd_X4_choose, by decide +kernel, by decide +kernel, by decide +kernel⟩
theorem lv_X4_choose : Cond.instanceMethod yX4_choose ∈ gwd ∧ Cond.selects yX4_choose.cls yX4_choose yX4_choose ∈ gwd := ⟨inT3 221 (by rfl) rfl, inT3 222 (by rfl) rfl⟩
theorem cl_X9_329 : CL RX9 329 yX4_putIn cX4_putIn 7 (some .int) 5 := ⟨inT3 228 (by rfl) rfl, inT1 9 (by rfl) rfl, cd_X4_putIn, by decide +kernel, by decide +kernel, by decide +kernel⟩
theorem lv_X4_putIn : Cond.instanceMethod yX4_putIn ∈ gwd ∧ Cond.selects yX4_putIn.cls yX4_putIn yX4_putIn ∈ gwd := ⟨inT3 229 (by rfl) rfl, inT3 230 (by rfl) rfl⟩
theorem cl_X9_336 : CL RX9 336 yX4_takeOut cX4_takeOut 2 (some .int) 0 := ⟨inT4 1 (by rfl) rfl, inT1 9 (by rfl) rfl, cd_X4_takeOut, by decide +kernel, by decide +kernel, by decide +kernel⟩
theorem lv_X4_takeOut : Cond.instanceMethod yX4_takeOut ∈ gwd ∧ Cond.selects yX4_takeOut.cls yX4_takeOut yX4_takeOut ∈ gwd := ⟨inT2 128 (by rfl) rfl, inT2 129 (by rfl) rfl⟩
theorem cl_X9_339 : CL RX9 339 yX4_wind cX4_wind 11 (some .int) 3 := ⟨inT4 6 (by rfl) rfl, inT1 9 (by rfl) rfl, cd_X4_wind, by decide +kernel, by decide +kernel, by decide +kernel⟩
theorem lv_X4_wind : Cond.instanceMethod yX4_wind ∈ gwd ∧ Cond.selects yX4_wind.cls yX4_wind yX4_wind ∈ gwd := ⟨inT4 7 (by rfl) rfl, inT4 8 (by rfl) rfl⟩
theorem cl_X9_346 : CL RX9 346 yX4_scribe cX4_scribe 3 (some .int) 0 := ⟨inT4 24 (by rfl) rfl, inT1 9 (by rfl) rfl, cd_X4_scribe, by decide +kernel, by decide +kernel, by decide +kernel⟩
theorem lv_X4_scribe : Cond.instanceMethod yX4_scribe ∈ gwd ∧ Cond.selects yX4_scribe.cls yX4_scribe yX4_scribe ∈ gwd := ⟨inT4 25 (by rfl) rfl, inT4 26 (by rfl) rfl⟩
theorem cl_X9_349 : CL RX9 349 yX4_wipeAll cX4_wipeAll 2 (some .int) 0 := ⟨inT4 51 (by rfl) rfl, inT1 9 (by rfl) rfl, cd_X4_wipeAll, by decide +kernel, by decide +kernel, by decide +kernel⟩
theorem lv_X4_wipeAll : Cond.instanceMethod yX4_wipeAll ∈ gwd ∧ Cond.selects yX4_wipeAll.cls yX4_wipeAll yX4_wipeAll ∈ gwd := ⟨inT2 139 (by rfl) rfl, inT2 140 (by rfl) rfl⟩
theorem cl_X9_352 : CL RX9 352 yX9_putInDifferential cX9_putInDifferential 3 none 0 := ⟨inT4 56 (by rfl) rfl, inT1 1 (by rfl) rfl, cd_X9_putInDifferential, by decide +kernel, by decide +kernel, by decide +kernel⟩
theorem lv_X9_putInDifferential : Cond.instanceMethod yX9_putInDifferential ∈ gwd ∧ Cond.selects yX9_putInDifferential.cls yX9_putInDifferential yX9_putInDifferential ∈ gwd := ⟨inT4 58 (by rfl) rfl, inG 20 (by decide +kernel) rfl⟩
theorem cl_X9_355 : CL RX9 355 yX9_windWay cX9_windWay 3 none 1 := ⟨inT4 60 (by rfl) rfl, inT1 1 (by rfl) rfl, cd_X9_windWay, by decide +kernel, by decide +kernel, by decide +kernel⟩
theorem lv_X9_windWay : Cond.instanceMethod yX9_windWay ∈ gwd ∧ Cond.selects yX9_windWay.cls yX9_windWay yX9_windWay ∈ gwd := ⟨inT4 62 (by rfl) rfl, inG 21 (by decide +kernel) rfl⟩
theorem cl_X9_358 : CL RX9 358 yX3_look cX3_look 3 none 1 := ⟨inT4 65 (by rfl) rfl, inT1 7 (by rfl) rfl, cd_X3_look, by decide +kernel, by decide +kernel, by decide +kernel⟩
theorem lv_X3_look : Cond.instanceMethod yX3_look ∈ gwd ∧ Cond.selects yX3_look.cls yX3_look yX3_look ∈ gwd := ⟨inT4 66 (by rfl) rfl, inT4 67 (by rfl) rfl⟩
theorem cl_X9_366 : CL RX9 366 yJ9_abs_0f7a4 cJ9_abs_0f7a4 1 (some .int) 1 := ⟨inT4 64 (by rfl) rfl, inT1 20 (by rfl) rfl, cd_J9_abs_0f7a4, by decide +kernel, by decide +kernel, by decide +kernel⟩
theorem ls_J9_abs_0f7a4 : Cond.static yJ9_abs_0f7a4 ∈ gwd := inT3 5 (by rfl) rfl
theorem cl_X9_368 : CL RX9 368 yX4_isMark cX4_isMark 2 (some .boolean) 1 := ⟨inT4 81 (by rfl) rfl, inT1 9 (by rfl) rfl, cd_X4_isMark, by decide +kernel, by decide +kernel, by decide +kernel⟩
theorem lv_X4_isMark : Cond.instanceMethod yX4_isMark ∈ gwd ∧ Cond.selects yX4_isMark.cls yX4_isMark yX4_isMark ∈ gwd := ⟨inT4 37 (by rfl) rfl, inT4 38 (by rfl) rfl⟩
theorem cl_X9_371 : CL RX9 371 yX4_markUp cX4_markUp 2 (some .long) 1 := ⟨inT4 82 (by rfl) rfl, inT1 9 (by rfl) rfl, cd_X4_markUp, by decide +kernel, by decide +kernel, by decide +kernel⟩
theorem lv_X4_markUp : Cond.instanceMethod yX4_markUp ∈ gwd ∧ Cond.selects yX4_markUp.cls yX4_markUp yX4_markUp ∈ gwd := ⟨inT4 33 (by rfl) rfl, inT4 34 (by rfl) rfl⟩
theorem cl_X9_375 : CL RX9 375 yX4_markLow cX4_markLow 2 (some .long) 1 := ⟨inT4 83 (by rfl) rfl, inT1 9 (by rfl) rfl, cd_X4_markLow, by decide +kernel, by decide +kernel, by decide +kernel⟩
theorem lv_X4_markLow : Cond.instanceMethod yX4_markLow ∈ gwd ∧ Cond.selects yX4_markLow.cls yX4_markLow yX4_markLow ∈ gwd := ⟨inT4 41 (by rfl) rfl, inT4 42 (by rfl) rfl⟩
theorem cl_X9_378 : CL RX9 378 yX4_gapBehind cX4_gapBehind 8 none 2 := ⟨inT4 84 (by rfl) rfl, inT1 9 (by rfl) rfl, cd_X4_gapBehind, by decide +kernel, by decide +kernel, by decide +kernel⟩
theorem lv_X4_gapBehind : Cond.instanceMethod yX4_gapBehind ∈ gwd ∧ Cond.selects yX4_gapBehind.cls yX4_gapBehind yX4_gapBehind ∈ gwd := ⟨inT4 70 (by rfl) rfl, inT4 71 (by rfl) rfl⟩
theorem cl_X9_382 : CL RX9 382 yX3_tellExtreme cX3_tellExtreme 5 none 2 := ⟨inT4 89 (by rfl) rfl, inT1 7 (by rfl) rfl, cd_X3_tellExtreme, by decide +kernel, by decide +kernel, by decide +kernel⟩
theorem lv_X3_tellExtreme : Cond.instanceMethod yX3_tellExtreme ∈ gwd ∧ Cond.selects yX3_tellExtreme.cls yX3_tellExtreme yX3_tellExtreme ∈ gwd := ⟨inT4 90 (by rfl) rfl, inT4 91 (by rfl) rfl⟩
theorem cl_X9_386 : CL RX9 386 yX4_stepOfHole cX4_stepOfHole 6 none 1 := ⟨inT4 106 (by rfl) rfl, inT1 9 (by rfl) rfl, cd_X4_stepOfHole, by decide +kernel, by decide +kernel, by decide +kernel⟩
theorem lv_X4_stepOfHole : Cond.instanceMethod yX4_stepOfHole ∈ gwd ∧ Cond.selects yX4_stepOfHole.cls yX4_stepOfHole yX4_stepOfHole ∈ gwd := ⟨inT4 12 (by rfl) rfl, inT4 13 (by rfl) rfl⟩
theorem cl_X9_389 : CL RX9 389 yX9_inverse cX9_inverse 19 (some .long) 2 := ⟨inT4 107 (by rfl) rfl, inT1 1 (by rfl) rfl, cd_X9_inverse, by decide +kernel, by decide +kernel, by decide +kernel⟩
theorem ls_X9_inverse : Cond.static yX9_inverse ∈ gwd := inT4 108 (by rfl) rfl
theorem cl_X9_395 : CL RX9 395 yX4_wayToMark cX4_wayToMark 7 none 2 := ⟨inT4 112 (by rfl) rfl, inT1 9 (by rfl) rfl, cd_X4_wayToMark, by decide +kernel, by decide +kernel, by decide +kernel⟩
theorem lv_X4_wayToMark : Cond.instanceMethod yX4_wayToMark ∈ gwd ∧ Cond.selects yX4_wayToMark.cls yX4_wayToMark yX4_wayToMark ∈ gwd := ⟨inT4 113 (by rfl) rfl, inT4 114 (by rfl) rfl⟩
theorem cl_X9_398 : CL RX9 398 yX9_firstWrongOfDay cX9_firstWrongOfDay 7 (some .int) 0 := ⟨inT4 120 (by rfl) rfl, inT1 1 (by rfl) rfl, cd_X9_firstWrongOfDay, by decide +kernel, by decide +kernel, by decide +kernel⟩
theorem lv_X9_firstWrongOfDay : Cond.instanceMethod yX9_firstWrongOfDay ∈ gwd ∧ Cond.selects yX9_firstWrongOfDay.cls yX9_firstWrongOfDay yX9_firstWrongOfDay ∈ gwd := ⟨inT4 122 (by rfl) rfl, inG 23 (by decide +kernel) rfl⟩
theorem cl_X9_401 : CL RX9 401 yX9_doAct cX9_doAct 2 (some .int) 1 := ⟨inT4 127 (by rfl) rfl, inT1 1 (by rfl) rfl, cd_X9_doAct, by decide +kernel, by decide +kernel, by decide +kernel⟩
theorem lv_X9_doAct : Cond.instanceMethod yX9_doAct ∈ gwd ∧ Cond.selects yX9_doAct.cls yX9_doAct yX9_doAct ∈ gwd := ⟨inT4 129 (by rfl) rfl, inG 24 (by decide +kernel) rfl⟩
theorem cl_X9_404 : CL RX9 404 yX9_lengthOfAct cX9_lengthOfAct 1 (some .int) 1 := ⟨inT4 124 (by rfl) rfl, inT1 1 (by rfl) rfl, cd_X9_lengthOfAct, by decide +kernel, by decide +kernel, by decide +kernel⟩
theorem ls_X9_lengthOfAct : Cond.static yX9_lengthOfAct ∈ gwd := inT4 125 (by rfl) rfl
theorem cl_X9_407 : CL RX9 407 yX9_draw cX9_draw 2 (some .int) 1 := ⟨inT4 139 (by rfl) rfl, inT1 1 (by rfl) rfl, cd_X9_draw, by decide +kernel, by decide +kernel, by decide +kernel⟩
theorem lv_X9_draw : Cond.instanceMethod yX9_draw ∈ gwd ∧ Cond.selects yX9_draw.cls yX9_draw yX9_draw ∈ gwd := ⟨inT4 141 (by rfl) rfl, inG 25 (by decide +kernel) rfl⟩
theorem cl_X9_417 : CL RX9 417 yX8_number cX8_number 2 (some .long) 1 := ⟨inT5 3 (by rfl) rfl, inT1 3 (by rfl) rfl, cd_X8_number, by decide +kernel, by decide +kernel, by decide +kernel⟩
theorem lv_X8_number : Cond.instanceMethod yX8_number ∈ gwd ∧ Cond.selects yX8_number.cls yX8_number yX8_number ∈ gwd := ⟨inT5 4 (by rfl) rfl, inT5 5 (by rfl) rfl⟩
theorem cl_X9_419 : CL RX9 419 yJ13_compare_74951 cJ13_compare_74951 4 (some .int) 2 := ⟨inT4 96 (by rfl) rfl, inT1 24 (by rfl) rfl, cd_J13_compare_74951, by decide +kernel, by decide +kernel, by decide +kernel⟩
theorem ls_J13_compare_74951 : Cond.static yJ13_compare_74951 ∈ gwd := inT4 45 (by rfl) rfl
theorem cl_X9_424 : CL RX9 424 yJ9_floorMod_f86c9 cJ9_floorMod_f86c9 6 (some .long) 2 := ⟨inT4 110 (by rfl) rfl, inT1 20 (by rfl) rfl, cd_J9_floorMod_f86c9, by decide +kernel, by decide +kernel, by decide +kernel⟩
theorem ls_J9_floorMod_f86c9 : Cond.static yJ9_floorMod_f86c9 ∈ gwd := inT4 17 (by rfl) rfl
theorem oi_X0_3 : Cond.methodLink RX0 3 Lib.objectInit ∈ gwd := inT1 92 (by rfl) rfl
theorem cl_X0_35 : CL RX0 35 yX4_plateOf cX4_plateOf 2 (some .int) 1 := ⟨inT2 221 (by rfl) rfl, inT1 9 (by rfl) rfl, cd_X4_plateOf, by decide +kernel, by decide +kernel, by decide +kernel⟩
theorem cl_X0_39 : CL RX0 39 yX0_tryPair cX0_tryPair 11 none 4 := ⟨inT2 225 (by rfl) rfl, inT1 5 (by rfl) rfl, cd_X0_tryPair, by decide +kernel, by decide +kernel, by decide +kernel⟩
theorem lv_X0_tryPair : Cond.instanceMethod yX0_tryPair ∈ gwd ∧ Cond.selects yX0_tryPair.cls yX0_tryPair yX0_tryPair ∈ gwd := ⟨inT2 227 (by rfl) rfl, inG 3 (by decide +kernel) rfl⟩
theorem cl_X0_43 : CL RX0 43 yX4_holesOf cX4_holesOf 2 (some .int) 1 := ⟨inT2 229 (by rfl) rfl, inT1 9 (by rfl) rfl, cd_X4_holesOf, by decide +kernel, by decide +kernel, by decide +kernel⟩
theorem cl_X0_49 : CL RX0 49 yX0_offer cX0_offer 8 (some .boolean) 3 := ⟨inT2 230 (by rfl) rfl, inT1 5 (by rfl) rfl, cd_X0_offer, by decide +kernel, by decide +kernel, by decide +kernel⟩
theorem lv_X0_offer : Cond.instanceMethod yX0_offer ∈ gwd ∧ Cond.selects yX0_offer.cls yX0_offer yX0_offer ∈ gwd := ⟨inT2 232 (by rfl) rfl, inG 4 (by decide +kernel) rfl⟩
theorem cl_X0_53 : CL RX0 53 yJ9_floorMod_7cf53 cJ9_floorMod_7cf53 3 (some .int) 2 := ⟨inT2 234 (by rfl) rfl, inT1 20 (by rfl) rfl, cd_J9_floorMod_7cf53, by decide +kernel, by decide +kernel, by decide +kernel⟩
theorem ls_J9_floorMod_7cf53 : Cond.static yJ9_floorMod_7cf53 ∈ gwd := inT2 235 (by rfl) rfl
theorem cl_X0_59 : CL RX0 59 yJ9_floorDiv_7cf53 cJ9_floorDiv_7cf53 3 (some .int) 2 := ⟨inT2 237 (by rfl) rfl, inT1 20 (by rfl) rfl, cd_J9_floorDiv_7cf53, by decide +kernel, by decide +kernel, by decide +kernel⟩
theorem ls_J9_floorDiv_7cf53 : Cond.static yJ9_floorDiv_7cf53 ∈ gwd := inT2 238 (by rfl) rfl
theorem cl_X0_62 : CL RX0 62 yX0_take cX0_take 5 (some .boolean) 3 := ⟨inT3 0 (by rfl) rfl, inT1 5 (by rfl) rfl, cd_X0_take, by decide +kernel, by decide +kernel, by decide +kernel⟩
theorem lv_X0_take : Cond.instanceMethod yX0_take ∈ gwd ∧ Cond.selects yX0_take.cls yX0_take yX0_take ∈ gwd := ⟨inT3 2 (by rfl) rfl, inG 5 (by decide +kernel) rfl⟩
theorem cl_X0_65 : CL RX0 65 yJ9_abs_0f7a4 cJ9_abs_0f7a4 1 (some .int) 1 := ⟨inT3 4 (by rfl) rfl, inT1 20 (by rfl) rfl, cd_J9_abs_0f7a4, by decide +kernel, by decide +kernel, by decide +kernel⟩
theorem oi_X1_3 : Cond.methodLink RX1 3 Lib.objectInit ∈ gwd := inT1 123 (by rfl) rfl
theorem cl_X1_11 : CLN RX1 11 yX6_init cX6_init 1 none 0 := ⟨by simp [nestW], inT1 4 (by rfl) rfl, cd_X6_init, by decide +kernel, by decide +kernel, by decide +kernel⟩
theorem cl_X1_28 : CL RX1 28 yX1_tryNumber cX1_tryNumber 6 none 5 := ⟨inT3 89 (by rfl) rfl, inT1 6 (by rfl) rfl, cd_X1_tryNumber, by decide +kernel, by decide +kernel, by decide +kernel⟩
theorem lv_X1_tryNumber : Cond.instanceMethod yX1_tryNumber ∈ gwd ∧ Cond.selects yX1_tryNumber.cls yX1_tryNumber yX1_tryNumber ∈ gwd := ⟨inT3 91 (by rfl) rfl, inG 12 (by decide +kernel) rfl⟩
theorem cl_X1_32 : CL RX1 32 yX6_look cX6_look 5 none 2 := ⟨inT3 93 (by rfl) rfl, inT1 4 (by rfl) rfl, cd_X6_look, by decide +kernel, by decide +kernel, by decide +kernel⟩
theorem cl_X1_44 : CL RX1 44 yX5_find cX5_find 8 (some .int) 2 := ⟨inT3 94 (by rfl) rfl, inT1 21 (by rfl) rfl, cd_X5_find, by decide +kernel, by decide +kernel, by decide +kernel⟩
theorem oi_X2_1 : Cond.methodLink RX2 1 Lib.objectInit ∈ gwd := inT1 154 (by rfl) rfl
theorem cl_X2_16 : CLN RX2 16 yX9_common cX9_common 11 (some .long) 2 := ⟨by simp [nestW], inT1 1 (by rfl) rfl, cd_X9_common, by decide +kernel, by decide +kernel, by decide +kernel⟩
theorem ls_X9_common : Cond.static yX9_common ∈ gwd := inT2 136 (by rfl) rfl
theorem oi_X3_3 : Cond.methodLink RX3 3 Lib.objectInit ∈ gwd := inT1 148 (by rfl) rfl
theorem cl_X3_17 : CLN RX3 17 yX2_init cX2_init 1 none 0 := ⟨by simp [nestW], inT1 8 (by rfl) rfl, cd_X2_init, by decide +kernel, by decide +kernel, by decide +kernel⟩
theorem cl_X3_34 : CL RX3 34 yX4_gapBehind cX4_gapBehind 8 none 2 := ⟨inT4 69 (by rfl) rfl, inT1 9 (by rfl) rfl, cd_X4_gapBehind, by decide +kernel, by decide +kernel, by decide +kernel⟩
theorem cl_X3_38 : CL RX3 38 yX3_holdsGap cX3_holdsGap 2 (some .boolean) 0 := ⟨inT4 73 (by rfl) rfl, inT1 7 (by rfl) rfl, cd_X3_holdsGap, by decide +kernel, by decide +kernel, by decide +kernel⟩
theorem lv_X3_holdsGap : Cond.instanceMethod yX3_holdsGap ∈ gwd ∧ Cond.selects yX3_holdsGap.cls yX3_holdsGap yX3_holdsGap ∈ gwd := ⟨inT4 75 (by rfl) rfl, inG 22 (by decide +kernel) rfl⟩
theorem cl_X3_49 : CLN RX3 49 yX9_compareFractions cX9_compareFractions 22 (some .int) 4 := ⟨by simp [nestW], inT1 1 (by rfl) rfl, cd_X9_compareFractions, by decide +kernel, by decide +kernel, by decide +kernel⟩
theorem ls_X9_compareFractions : Cond.static yX9_compareFractions ∈ gwd := inT4 94 (by rfl) rfl
theorem cl_X3_53 : CL RX3 53 yX8_add cX8_add 3 none 1 := ⟨inT4 97 (by rfl) rfl, inT1 3 (by rfl) rfl, cd_X8_add, by decide +kernel, by decide +kernel, by decide +kernel⟩
theorem oi_X4_3 : Cond.methodLink RX4 3 Lib.objectInit ∈ gwd := inT1 192 (by rfl) rfl
theorem cl_X4_38 : CLN RX4 38 yX2_init cX2_init 1 none 0 := ⟨by simp [nestW], inT1 8 (by rfl) rfl, cd_X2_init, by decide +kernel, by decide +kernel, by decide +kernel⟩
theorem cl_X4_69 : CL RX4 69 yX4_dropPlates cX4_dropPlates 1 none 0 := ⟨inT2 29 (by rfl) rfl, inT1 9 (by rfl) rfl, cd_X4_dropPlates, by decide +kernel, by decide +kernel, by decide +kernel⟩
theorem cl_X4_75 : CL RX4 75 yX4_addCircle cX4_addCircle 2 none 1 := ⟨inT2 35 (by rfl) rfl, inT1 9 (by rfl) rfl, cd_X4_addCircle, by decide +kernel, by decide +kernel, by decide +kernel⟩
theorem cl_X4_82 : CL RX4 82 yX4_addGear cX4_addGear 2 none 1 := ⟨inT2 41 (by rfl) rfl, inT1 9 (by rfl) rfl, cd_X4_addGear, by decide +kernel, by decide +kernel, by decide +kernel⟩
theorem cl_X4_85 : CL RX4 85 yX2_copyFrom cX2_copyFrom 2 none 1 := ⟨inT2 111 (by rfl) rfl, inT1 8 (by rfl) rfl, cd_X2_copyFrom, by decide +kernel, by decide +kernel, by decide +kernel⟩
theorem lv_X2_copyFrom : Cond.instanceMethod yX2_copyFrom ∈ gwd ∧ Cond.selects yX2_copyFrom.cls yX2_copyFrom yX2_copyFrom ∈ gwd := ⟨inT2 112 (by rfl) rfl, inT2 113 (by rfl) rfl⟩
theorem ay_X4_89 : Cond.methodLink RX4 89 arraycopyName ∈ gwd := inT2 115 (by rfl) rfl
theorem cl_X4_95 : CL RX4 95 yX4_takeOut cX4_takeOut 2 (some .int) 0 := ⟨inT2 127 (by rfl) rfl, inT1 9 (by rfl) rfl, cd_X4_takeOut, by decide +kernel, by decide +kernel, by decide +kernel⟩
theorem cl_X4_99 : CL RX4 99 yX4_wipeAll cX4_wipeAll 2 (some .int) 0 := ⟨inT2 138 (by rfl) rfl, inT1 9 (by rfl) rfl, cd_X4_wipeAll, by decide +kernel, by decide +kernel, by decide +kernel⟩
theorem cl_X4_102 : CL RX4 102 yX4_isCircle cX4_isCircle 2 (some .boolean) 1 := ⟨inT2 201 (by rfl) rfl, inT1 9 (by rfl) rfl, cd_X4_isCircle, by decide +kernel, by decide +kernel, by decide +kernel⟩
theorem cl_X4_106 : CL RX4 106 yX4_isGear cX4_isGear 2 (some .boolean) 1 := ⟨inT3 52 (by rfl) rfl, inT1 9 (by rfl) rfl, cd_X4_isGear, by decide +kernel, by decide +kernel, by decide +kernel⟩
theorem cl_X4_109 : CL RX4 109 yX4_isMark cX4_isMark 2 (some .boolean) 1 := ⟨inT4 36 (by rfl) rfl, inT1 9 (by rfl) rfl, cd_X4_isMark, by decide +kernel, by decide +kernel, by decide +kernel⟩
theorem cl_X4_112 : CLN RX4 112 yX9_isBetween cX9_isBetween 3 (some .boolean) 3 := ⟨by simp [nestW], inT1 1 (by rfl) rfl, cd_X9_isBetween, by decide +kernel, by decide +kernel, by decide +kernel⟩
theorem cl_X4_116 : CL RX4 116 yX4_atFirst cX4_atFirst 1 none 0 := ⟨inT2 185 (by rfl) rfl, inT1 9 (by rfl) rfl, cd_X4_atFirst, by decide +kernel, by decide +kernel, by decide +kernel⟩
theorem cl_X4_119 : CL RX4 119 yX4_isPair cX4_isPair 3 (some .boolean) 2 := ⟨inT3 232 (by rfl) rfl, inT1 9 (by rfl) rfl, cd_X4_isPair, by decide +kernel, by decide +kernel, by decide +kernel⟩
theorem lv_X4_isPair : Cond.instanceMethod yX4_isPair ∈ gwd ∧ Cond.selects yX4_isPair.cls yX4_isPair yX4_isPair ∈ gwd := ⟨inT3 234 (by rfl) rfl, inG 18 (by decide +kernel) rfl⟩
theorem cl_X4_123 : CL RX4 123 yX4_teethOf cX4_teethOf 2 (some .int) 1 := ⟨inT3 236 (by rfl) rfl, inT1 9 (by rfl) rfl, cd_X4_teethOf, by decide +kernel, by decide +kernel, by decide +kernel⟩
theorem cl_X4_127 : CL RX4 127 yX2_put cX2_put 7 none 2 := ⟨inT2 131 (by rfl) rfl, inT1 8 (by rfl) rfl, cd_X2_put, by decide +kernel, by decide +kernel, by decide +kernel⟩
theorem cl_X4_138 : CL RX4 138 yX4_holesOf cX4_holesOf 2 (some .int) 1 := ⟨inT4 10 (by rfl) rfl, inT1 9 (by rfl) rfl, cd_X4_holesOf, by decide +kernel, by decide +kernel, by decide +kernel⟩
theorem cl_X4_141 : CL RX4 141 yX4_stepOfHole cX4_stepOfHole 6 none 1 := ⟨inT4 11 (by rfl) rfl, inT1 9 (by rfl) rfl, cd_X4_stepOfHole, by decide +kernel, by decide +kernel, by decide +kernel⟩
theorem cl_X4_144 : CL RX4 144 yJ9_floorMod_f86c9 cJ9_floorMod_f86c9 6 (some .long) 2 := ⟨inT4 16 (by rfl) rfl, inT1 20 (by rfl) rfl, cd_J9_floorMod_f86c9, by decide +kernel, by decide +kernel, by decide +kernel⟩
theorem cl_X4_152 : CL RX4 152 yJ9_abs_067f4 cJ9_abs_067f4 2 (some .long) 1 := ⟨inT4 15 (by rfl) rfl, inT1 20 (by rfl) rfl, cd_J9_abs_067f4, by decide +kernel, by decide +kernel, by decide +kernel⟩
theorem cl_X4_156 : CL RX4 156 yX4_compareMark cX4_compareMark 2 (some .int) 1 := ⟨inT4 28 (by rfl) rfl, inT1 9 (by rfl) rfl, cd_X4_compareMark, by decide +kernel, by decide +kernel, by decide +kernel⟩
theorem lv_X4_compareMark : Cond.instanceMethod yX4_compareMark ∈ gwd ∧ Cond.selects yX4_compareMark.cls yX4_compareMark yX4_compareMark ∈ gwd := ⟨inT4 30 (by rfl) rfl, inG 19 (by decide +kernel) rfl⟩
theorem cl_X4_159 : CL RX4 159 yX4_markUp cX4_markUp 2 (some .long) 1 := ⟨inT4 32 (by rfl) rfl, inT1 9 (by rfl) rfl, cd_X4_markUp, by decide +kernel, by decide +kernel, by decide +kernel⟩
theorem cl_X4_163 : CL RX4 163 yX4_markLow cX4_markLow 2 (some .long) 1 := ⟨inT4 40 (by rfl) rfl, inT1 9 (by rfl) rfl, cd_X4_markLow, by decide +kernel, by decide +kernel, by decide +kernel⟩
theorem cl_X4_166 : CL RX4 166 yJ13_compare_74951 cJ13_compare_74951 4 (some .int) 2 := ⟨inT4 44 (by rfl) rfl, inT1 24 (by rfl) rfl, cd_J13_compare_74951, by decide +kernel, by decide +kernel, by decide +kernel⟩
theorem oi_X5_3 : Cond.methodLink RX5 3 Lib.objectInit ∈ gwd := inT3 20 (by rfl) rfl
theorem cl_X5_37 : CL RX5 37 yX4_teethOf cX4_teethOf 2 (some .int) 1 := ⟨inT3 48 (by rfl) rfl, inT1 9 (by rfl) rfl, cd_X4_teethOf, by decide +kernel, by decide +kernel, by decide +kernel⟩
theorem cl_X5_41 : CL RX5 41 yJ7_fill_53178 cJ7_fill_53178 4 none 2 := ⟨inT3 56 (by rfl) rfl, inT1 22 (by rfl) rfl, cd_J7_fill_53178, by decide +kernel, by decide +kernel, by decide +kernel⟩
theorem ls_J7_fill_53178 : Cond.static yJ7_fill_53178 ∈ gwd := inT3 57 (by rfl) rfl
theorem cl_X5_47 : CL RX5 47 yX5_addTwos cX5_addTwos 3 none 0 := ⟨inT3 59 (by rfl) rfl, inT1 21 (by rfl) rfl, cd_X5_addTwos, by decide +kernel, by decide +kernel, by decide +kernel⟩
theorem lv_X5_addTwos : Cond.instanceMethod yX5_addTwos ∈ gwd ∧ Cond.selects yX5_addTwos.cls yX5_addTwos yX5_addTwos ∈ gwd := ⟨inT3 61 (by rfl) rfl, inG 7 (by decide +kernel) rfl⟩
theorem cl_X5_50 : CL RX5 50 yX5_addFours cX5_addFours 5 none 0 := ⟨inT3 81 (by rfl) rfl, inT1 21 (by rfl) rfl, cd_X5_addFours, by decide +kernel, by decide +kernel, by decide +kernel⟩
theorem lv_X5_addFours : Cond.instanceMethod yX5_addFours ∈ gwd ∧ Cond.selects yX5_addFours.cls yX5_addFours yX5_addFours ∈ gwd := ⟨inT3 83 (by rfl) rfl, inG 11 (by decide +kernel) rfl⟩
theorem cl_X5_53 : CL RX5 53 yX5_tooth cX5_tooth 2 (some .int) 1 := ⟨inT3 63 (by rfl) rfl, inT1 21 (by rfl) rfl, cd_X5_tooth, by decide +kernel, by decide +kernel, by decide +kernel⟩
theorem lv_X5_tooth : Cond.instanceMethod yX5_tooth ∈ gwd ∧ Cond.selects yX5_tooth.cls yX5_tooth yX5_tooth ∈ gwd := ⟨inT3 65 (by rfl) rfl, inG 8 (by decide +kernel) rfl⟩
theorem cl_X5_56 : CL RX5 56 yX5_pack cX5_pack 4 (some .int) 4 := ⟨inT3 67 (by rfl) rfl, inT1 21 (by rfl) rfl, cd_X5_pack, by decide +kernel, by decide +kernel, by decide +kernel⟩
theorem ls_X5_pack : Cond.static yX5_pack ∈ gwd := inT3 68 (by rfl) rfl
theorem cl_X5_60 : CL RX5 60 yX5_add cX5_add 6 none 3 := ⟨inT3 70 (by rfl) rfl, inT1 21 (by rfl) rfl, cd_X5_add, by decide +kernel, by decide +kernel, by decide +kernel⟩
theorem lv_X5_add : Cond.instanceMethod yX5_add ∈ gwd ∧ Cond.selects yX5_add.cls yX5_add yX5_add ∈ gwd := ⟨inT3 72 (by rfl) rfl, inG 9 (by decide +kernel) rfl⟩
theorem cl_X5_64 : CLN RX5 64 yX9_common cX9_common 11 (some .long) 2 := ⟨by simp [nestW], inT1 1 (by rfl) rfl, cd_X9_common, by decide +kernel, by decide +kernel, by decide +kernel⟩
theorem cl_X5_68 : CL RX5 68 yX5_slotOf cX5_slotOf 6 (some .int) 2 := ⟨inT3 75 (by rfl) rfl, inT1 21 (by rfl) rfl, cd_X5_slotOf, by decide +kernel, by decide +kernel, by decide +kernel⟩
theorem lv_X5_slotOf : Cond.instanceMethod yX5_slotOf ∈ gwd ∧ Cond.selects yX5_slotOf.cls yX5_slotOf yX5_slotOf ∈ gwd := ⟨inT3 77 (by rfl) rfl, inG 10 (by decide +kernel) rfl⟩
theorem cl_X5_74 : CL RX5 74 yX5_wheel cX5_wheel 4 (some .int) 2 := ⟨inT3 134 (by rfl) rfl, inT1 21 (by rfl) rfl, cd_X5_wheel, by decide +kernel, by decide +kernel, by decide +kernel⟩
theorem cl_X5_77 : CL RX5 77 yX5_low cX5_low 2 (some .int) 1 := ⟨inT3 151 (by rfl) rfl, inT1 21 (by rfl) rfl, cd_X5_low, by decide +kernel, by decide +kernel, by decide +kernel⟩
theorem cl_X5_80 : CL RX5 80 yX5_up cX5_up 2 (some .int) 1 := ⟨inT3 155 (by rfl) rfl, inT1 21 (by rfl) rfl, cd_X5_up, by decide +kernel, by decide +kernel, by decide +kernel⟩
theorem cl_X5_83 : CL RX5 83 yX5_upper cX5_upper 4 (some .long) 2 := ⟨inT3 147 (by rfl) rfl, inT1 21 (by rfl) rfl, cd_X5_upper, by decide +kernel, by decide +kernel, by decide +kernel⟩
theorem cl_X5_87 : CL RX5 87 yX5_lower cX5_lower 4 (some .long) 2 := ⟨inT3 159 (by rfl) rfl, inT1 21 (by rfl) rfl, cd_X5_lower, by decide +kernel, by decide +kernel, by decide +kernel⟩
theorem cl_X5_90 : CL RX5 90 yJ9_abs_067f4 cJ9_abs_067f4 2 (some .long) 1 := ⟨inT3 163 (by rfl) rfl, inT1 20 (by rfl) rfl, cd_J9_abs_067f4, by decide +kernel, by decide +kernel, by decide +kernel⟩
theorem oi_X6_3 : Cond.methodLink RX6 3 Lib.objectInit ∈ gwd := inT1 68 (by rfl) rfl
theorem cl_X6_29 : CL RX6 29 yX4_holesOf cX4_holesOf 2 (some .int) 1 := ⟨inT2 197 (by rfl) rfl, inT1 9 (by rfl) rfl, cd_X4_holesOf, by decide +kernel, by decide +kernel, by decide +kernel⟩
theorem oi_X7_3 : Cond.methodLink RX7 3 Lib.objectInit ∈ gwd := inT1 38 (by rfl) rfl
theorem cl_X7_19 : CL RX7 19 yX7_at cX7_at 2 (some .int) 1 := ⟨inT2 150 (by rfl) rfl, inT1 2 (by rfl) rfl, cd_X7_at, by decide +kernel, by decide +kernel, by decide +kernel⟩
theorem cl_X7_23 : CL RX7 23 yX7_isDigit cX7_isDigit 2 (some .boolean) 1 := ⟨inT2 146 (by rfl) rfl, inT1 2 (by rfl) rfl, cd_X7_isDigit, by decide +kernel, by decide +kernel, by decide +kernel⟩
theorem oi_X8_3 : Cond.methodLink RX8 3 Lib.objectInit ∈ gwd := inT1 53 (by rfl) rfl
theorem cl_X8_25 : CL RX8 25 yX8_add cX8_add 3 none 1 := ⟨inT3 173 (by rfl) rfl, inT1 3 (by rfl) rfl, cd_X8_add, by decide +kernel, by decide +kernel, by decide +kernel⟩
theorem cl_L_7 : CL RL 7 yX9_circle cX9_circle 2 (some .int) 1 := ⟨inT4 160 (by rfl) rfl, inT1 1 (by rfl) rfl, cd_X9_circle, by decide +kernel, by decide +kernel, by decide +kernel⟩
theorem lv_X9_circle : Cond.instanceMethod yX9_circle ∈ gwd ∧ Cond.selects yX9_circle.cls yX9_circle yX9_circle ∈ gwd := ⟨inT4 161 (by rfl) rfl, inT4 162 (by rfl) rfl⟩
theorem cl_L_15 : CL RL 15 yX9_gear cX9_gear 2 (some .int) 1 := ⟨inT4 230 (by rfl) rfl, inT1 1 (by rfl) rfl, cd_X9_gear, by decide +kernel, by decide +kernel, by decide +kernel⟩
theorem lv_X9_gear : Cond.instanceMethod yX9_gear ∈ gwd ∧ Cond.selects yX9_gear.cls yX9_gear yX9_gear ∈ gwd := ⟨inT4 231 (by rfl) rfl, inT4 232 (by rfl) rfl⟩
theorem cl_L_18 : CL RL 18 yX9_row cX9_row 2 (some .long) 1 := ⟨inT4 239 (by rfl) rfl, inT1 1 (by rfl) rfl, cd_X9_row, by decide +kernel, by decide +kernel, by decide +kernel⟩
theorem lv_X9_row : Cond.instanceMethod yX9_row ∈ gwd ∧ Cond.selects yX9_row.cls yX9_row yX9_row ∈ gwd := ⟨inT5 0 (by rfl) rfl, inT5 1 (by rfl) rfl⟩
theorem cl_L_22 : CL RL 22 yX9_init cX9_init 1 none 0 := ⟨inT1 27 (by rfl) rfl, inT1 1 (by rfl) rfl, cd_X9_init, by decide +kernel, by decide +kernel, by decide +kernel⟩
theorem li_X9_init : yX9_init.name = "<init>" ∧ Cond.instanceMethod yX9_init ∈ gwd := ⟨rfl, inT1 28 (by rfl) rfl⟩
theorem cl_L_25 : CL RL 25 yX10_init cX10_init 2 none 0 := ⟨inT5 24 (by rfl) rfl, inT1 10 (by rfl) rfl, cd_X10_init, by decide +kernel, by decide +kernel, by decide +kernel⟩
theorem li_X10_init : yX10_init.name = "<init>" ∧ Cond.instanceMethod yX10_init ∈ gwd := ⟨rfl, inT5 25 (by rfl) rfl⟩
theorem cl_L_26 : CL RL 26 yX9_sign cX9_sign 2 (some .int) 1 := ⟨inT2 91 (by rfl) rfl, inT1 1 (by rfl) rfl, cd_X9_sign, by decide +kernel, by decide +kernel, by decide +kernel⟩
theorem lv_X9_sign : Cond.instanceMethod yX9_sign ∈ gwd ∧ Cond.selects yX9_sign.cls yX9_sign yX9_sign ∈ gwd := ⟨inT2 92 (by rfl) rfl, inT2 93 (by rfl) rfl⟩
theorem cl_L_29 : CL RL 29 yX10_sign cX10_sign 3 (some .int) 1 := ⟨inT5 11 (by rfl) rfl, inT1 10 (by rfl) rfl, cd_X10_sign, by decide +kernel, by decide +kernel, by decide +kernel⟩
theorem lv_X10_sign : Cond.instanceMethod yX10_sign ∈ gwd ∧ Cond.selects yX10_sign.cls yX10_sign yX10_sign ∈ gwd := ⟨inT5 12 (by rfl) rfl, inT5 13 (by rfl) rfl⟩
theorem cl_L_30 : CL RL 30 yX9_end cX9_end 2 (some .boolean) 1 := ⟨inT2 99 (by rfl) rfl, inT1 1 (by rfl) rfl, cd_X9_end, by decide +kernel, by decide +kernel, by decide +kernel⟩
theorem lv_X9_end : Cond.instanceMethod yX9_end ∈ gwd ∧ Cond.selects yX9_end.cls yX9_end yX9_end ∈ gwd := ⟨inT2 100 (by rfl) rfl, inT2 101 (by rfl) rfl⟩
theorem cl_L_34 : CL RL 34 yX10_end cX10_end 2 (some .boolean) 1 := ⟨inT5 15 (by rfl) rfl, inT1 10 (by rfl) rfl, cd_X10_end, by decide +kernel, by decide +kernel, by decide +kernel⟩
theorem lv_X10_end : Cond.instanceMethod yX10_end ∈ gwd ∧ Cond.selects yX10_end.cls yX10_end yX10_end ∈ gwd := ⟨inT5 16 (by rfl) rfl, inT5 17 (by rfl) rfl⟩
theorem cl_L_35 : CL RL 35 yX9_plates cX9_plates 2 (some .int) 0 := ⟨inT2 103 (by rfl) rfl, inT1 1 (by rfl) rfl, cd_X9_plates, by decide +kernel, by decide +kernel, by decide +kernel⟩
theorem lv_X9_plates : Cond.instanceMethod yX9_plates ∈ gwd ∧ Cond.selects yX9_plates.cls yX9_plates yX9_plates ∈ gwd := ⟨inT2 104 (by rfl) rfl, inT2 105 (by rfl) rfl⟩
theorem cl_L_39 : CL RL 39 yX10_plates cX10_plates 2 (some .int) 0 := ⟨inT5 171 (by rfl) rfl, inT1 10 (by rfl) rfl, cd_X10_plates, by decide +kernel, by decide +kernel, by decide +kernel⟩
theorem lv_X10_plates : Cond.instanceMethod yX10_plates ∈ gwd ∧ Cond.selects yX10_plates.cls yX10_plates yX10_plates ∈ gwd := ⟨inT5 172 (by rfl) rfl, inT5 173 (by rfl) rfl⟩
theorem cl_L_40 : CL RL 40 yX9_gears cX9_gears 2 (some .int) 0 := ⟨inT2 164 (by rfl) rfl, inT1 1 (by rfl) rfl, cd_X9_gears, by decide +kernel, by decide +kernel, by decide +kernel⟩
theorem lv_X9_gears : Cond.instanceMethod yX9_gears ∈ gwd ∧ Cond.selects yX9_gears.cls yX9_gears yX9_gears ∈ gwd := ⟨inT2 165 (by rfl) rfl, inT2 166 (by rfl) rfl⟩
theorem cl_L_43 : CL RL 43 yX10_gears cX10_gears 5 (some .int) 0 := ⟨inT6 26 (by rfl) rfl, inT1 10 (by rfl) rfl, cd_X10_gears, by decide +kernel, by decide +kernel, by decide +kernel⟩
theorem lv_X10_gears : Cond.instanceMethod yX10_gears ∈ gwd ∧ Cond.selects yX10_gears.cls yX10_gears yX10_gears ∈ gwd := ⟨inT6 27 (by rfl) rfl, inT6 28 (by rfl) rfl⟩
theorem cl_L_44 : CL RL 44 yX9_sets cX9_sets 3 (some .int) 2 := ⟨inT2 174 (by rfl) rfl, inT1 1 (by rfl) rfl, cd_X9_sets, by decide +kernel, by decide +kernel, by decide +kernel⟩
theorem lv_X9_sets : Cond.instanceMethod yX9_sets ∈ gwd ∧ Cond.selects yX9_sets.cls yX9_sets yX9_sets ∈ gwd := ⟨inT2 175 (by rfl) rfl, inT2 176 (by rfl) rfl⟩
theorem cl_L_48 : CL RL 48 yX10_sets cX10_sets 4 (some .int) 2 := ⟨inT6 32 (by rfl) rfl, inT1 10 (by rfl) rfl, cd_X10_sets, by decide +kernel, by decide +kernel, by decide +kernel⟩
theorem lv_X10_sets : Cond.instanceMethod yX10_sets ∈ gwd ∧ Cond.selects yX10_sets.cls yX10_sets yX10_sets ∈ gwd := ⟨inT6 33 (by rfl) rfl, inT6 34 (by rfl) rfl⟩
theorem cl_L_54 : CL RL 54 yX10_circle cX10_circle 2 (some .int) 1 := ⟨inT6 37 (by rfl) rfl, inT1 10 (by rfl) rfl, cd_X10_circle, by decide +kernel, by decide +kernel, by decide +kernel⟩
theorem lv_X10_circle : Cond.instanceMethod yX10_circle ∈ gwd ∧ Cond.selects yX10_circle.cls yX10_circle yX10_circle ∈ gwd := ⟨inT6 38 (by rfl) rfl, inT6 39 (by rfl) rfl⟩
theorem cl_L_55 : CL RL 55 yX10_thrown cX10_thrown 1 (some .int) 0 := ⟨inT5 7 (by rfl) rfl, inT1 10 (by rfl) rfl, cd_X10_thrown, by decide +kernel, by decide +kernel, by decide +kernel⟩
theorem lv_X10_thrown : Cond.instanceMethod yX10_thrown ∈ gwd ∧ Cond.selects yX10_thrown.cls yX10_thrown yX10_thrown ∈ gwd := ⟨inT5 8 (by rfl) rfl, inT5 9 (by rfl) rfl⟩
theorem cl_L_60 : CL RL 60 yX10_gear cX10_gear 2 (some .int) 1 := ⟨inT6 53 (by rfl) rfl, inT1 10 (by rfl) rfl, cd_X10_gear, by decide +kernel, by decide +kernel, by decide +kernel⟩
theorem lv_X10_gear : Cond.instanceMethod yX10_gear ∈ gwd ∧ Cond.selects yX10_gear.cls yX10_gear yX10_gear ∈ gwd := ⟨inT6 54 (by rfl) rfl, inT6 55 (by rfl) rfl⟩
theorem cl_L_61 : CL RL 61 yX9_simple cX9_simple 2 (some .int) 1 := ⟨inT2 186 (by rfl) rfl, inT1 1 (by rfl) rfl, cd_X9_simple, by decide +kernel, by decide +kernel, by decide +kernel⟩
theorem lv_X9_simple : Cond.instanceMethod yX9_simple ∈ gwd ∧ Cond.selects yX9_simple.cls yX9_simple yX9_simple ∈ gwd := ⟨inT2 187 (by rfl) rfl, inT2 188 (by rfl) rfl⟩
theorem cl_L_64 : CL RL 64 yX10_simple cX10_simple 4 (some .int) 1 := ⟨inT6 65 (by rfl) rfl, inT1 10 (by rfl) rfl, cd_X10_simple, by decide +kernel, by decide +kernel, by decide +kernel⟩
theorem lv_X10_simple : Cond.instanceMethod yX10_simple ∈ gwd ∧ Cond.selects yX10_simple.cls yX10_simple yX10_simple ∈ gwd := ⟨inT6 66 (by rfl) rfl, inT6 67 (by rfl) rfl⟩
theorem cl_L_65 : CL RL 65 yX9_compound cX9_compound 2 (some .int) 1 := ⟨inT2 213 (by rfl) rfl, inT1 1 (by rfl) rfl, cd_X9_compound, by decide +kernel, by decide +kernel, by decide +kernel⟩
theorem lv_X9_compound : Cond.instanceMethod yX9_compound ∈ gwd ∧ Cond.selects yX9_compound.cls yX9_compound yX9_compound ∈ gwd := ⟨inT2 214 (by rfl) rfl, inT2 215 (by rfl) rfl⟩
theorem cl_L_68 : CL RL 68 yX10_compound cX10_compound 3 (some .int) 1 := ⟨inT6 90 (by rfl) rfl, inT1 10 (by rfl) rfl, cd_X10_compound, by decide +kernel, by decide +kernel, by decide +kernel⟩
theorem lv_X10_compound : Cond.instanceMethod yX10_compound ∈ gwd ∧ Cond.selects yX10_compound.cls yX10_compound yX10_compound ∈ gwd := ⟨inT6 91 (by rfl) rfl, inT6 92 (by rfl) rfl⟩
theorem cl_L_69 : CL RL 69 yX9_differential cX9_differential 4 (some .int) 1 := ⟨inT3 7 (by rfl) rfl, inT1 1 (by rfl) rfl, cd_X9_differential, by decide +kernel, by decide +kernel, by decide +kernel⟩
theorem lv_X9_differential : Cond.instanceMethod yX9_differential ∈ gwd ∧ Cond.selects yX9_differential.cls yX9_differential yX9_differential ∈ gwd := ⟨inT3 8 (by rfl) rfl, inT3 9 (by rfl) rfl⟩
theorem cl_L_72 : CL RL 72 yX10_differential cX10_differential 4 (some .int) 1 := ⟨inT6 105 (by rfl) rfl, inT1 10 (by rfl) rfl, cd_X10_differential, by decide +kernel, by decide +kernel, by decide +kernel⟩
theorem lv_X10_differential : Cond.instanceMethod yX10_differential ∈ gwd ∧ Cond.selects yX10_differential.cls yX10_differential yX10_differential ∈ gwd := ⟨inT6 106 (by rfl) rfl, inT6 107 (by rfl) rfl⟩
theorem cl_L_73 : CL RL 73 yX9_ways cX9_ways 4 (some .int) 1 := ⟨inT3 102 (by rfl) rfl, inT1 1 (by rfl) rfl, cd_X9_ways, by decide +kernel, by decide +kernel, by decide +kernel⟩
theorem lv_X9_ways : Cond.instanceMethod yX9_ways ∈ gwd ∧ Cond.selects yX9_ways.cls yX9_ways yX9_ways ∈ gwd := ⟨inT3 103 (by rfl) rfl, inT3 104 (by rfl) rfl⟩
theorem cl_L_76 : CL RL 76 yX10_ways cX10_ways 3 (some .int) 1 := ⟨inT6 153 (by rfl) rfl, inT1 10 (by rfl) rfl, cd_X10_ways, by decide +kernel, by decide +kernel, by decide +kernel⟩
theorem lv_X10_ways : Cond.instanceMethod yX10_ways ∈ gwd ∧ Cond.selects yX10_ways.cls yX10_ways yX10_ways ∈ gwd := ⟨inT6 154 (by rfl) rfl, inT6 155 (by rfl) rfl⟩
theorem cl_L_77 : CL RL 77 yX9_hard cX9_hard 11 (some .int) 2 := ⟨inT3 116 (by rfl) rfl, inT1 1 (by rfl) rfl, cd_X9_hard, by decide +kernel, by decide +kernel, by decide +kernel⟩
theorem lv_X9_hard : Cond.instanceMethod yX9_hard ∈ gwd ∧ Cond.selects yX9_hard.cls yX9_hard yX9_hard ∈ gwd := ⟨inT3 117 (by rfl) rfl, inT3 118 (by rfl) rfl⟩
theorem cl_L_80 : CL RL 80 yX10_hard cX10_hard 10 (some .int) 2 := ⟨inT6 161 (by rfl) rfl, inT1 10 (by rfl) rfl, cd_X10_hard, by decide +kernel, by decide +kernel, by decide +kernel⟩
theorem lv_X10_hard : Cond.instanceMethod yX10_hard ∈ gwd ∧ Cond.selects yX10_hard.cls yX10_hard yX10_hard ∈ gwd := ⟨inT6 162 (by rfl) rfl, inT6 163 (by rfl) rfl⟩
theorem cl_L_81 : CL RL 81 yX9_train cX9_train 5 (some .int) 2 := ⟨inT3 120 (by rfl) rfl, inT1 1 (by rfl) rfl, cd_X9_train, by decide +kernel, by decide +kernel, by decide +kernel⟩
theorem lv_X9_train : Cond.instanceMethod yX9_train ∈ gwd ∧ Cond.selects yX9_train.cls yX9_train yX9_train ∈ gwd := ⟨inT3 121 (by rfl) rfl, inT3 122 (by rfl) rfl⟩
theorem cl_L_84 : CL RL 84 yX10_train cX10_train 3 (some .int) 2 := ⟨inT6 165 (by rfl) rfl, inT1 10 (by rfl) rfl, cd_X10_train, by decide +kernel, by decide +kernel, by decide +kernel⟩
theorem lv_X10_train : Cond.instanceMethod yX10_train ∈ gwd ∧ Cond.selects yX10_train.cls yX10_train yX10_train ∈ gwd := ⟨inT6 166 (by rfl) rfl, inT6 167 (by rfl) rfl⟩
theorem cl_L_85 : CL RL 85 yX9_nearest cX9_nearest 3 (some .int) 2 := ⟨inT3 135 (by rfl) rfl, inT1 1 (by rfl) rfl, cd_X9_nearest, by decide +kernel, by decide +kernel, by decide +kernel⟩
theorem lv_X9_nearest : Cond.instanceMethod yX9_nearest ∈ gwd ∧ Cond.selects yX9_nearest.cls yX9_nearest yX9_nearest ∈ gwd := ⟨inT3 136 (by rfl) rfl, inT3 137 (by rfl) rfl⟩
theorem cl_L_88 : CL RL 88 yX10_nearest cX10_nearest 3 (some .int) 2 := ⟨inT6 176 (by rfl) rfl, inT1 10 (by rfl) rfl, cd_X10_nearest, by decide +kernel, by decide +kernel, by decide +kernel⟩
theorem lv_X10_nearest : Cond.instanceMethod yX10_nearest ∈ gwd ∧ Cond.selects yX10_nearest.cls yX10_nearest yX10_nearest ∈ gwd := ⟨inT6 177 (by rfl) rfl, inT6 178 (by rfl) rfl⟩
theorem cl_L_89 : CL RL 89 yX9_ratios cX9_ratios 4 (some .int) 0 := ⟨inT3 175 (by rfl) rfl, inT1 1 (by rfl) rfl, cd_X9_ratios, by decide +kernel, by decide +kernel, by decide +kernel⟩
theorem lv_X9_ratios : Cond.instanceMethod yX9_ratios ∈ gwd ∧ Cond.selects yX9_ratios.cls yX9_ratios yX9_ratios ∈ gwd := ⟨inT3 176 (by rfl) rfl, inT3 177 (by rfl) rfl⟩
theorem cl_L_92 : CL RL 92 yX10_ratios cX10_ratios 7 (some .int) 0 := ⟨inT6 204 (by rfl) rfl, inT1 10 (by rfl) rfl, cd_X10_ratios, by decide +kernel, by decide +kernel, by decide +kernel⟩
theorem lv_X10_ratios : Cond.instanceMethod yX10_ratios ∈ gwd ∧ Cond.selects yX10_ratios.cls yX10_ratios yX10_ratios ∈ gwd := ⟨inT6 205 (by rfl) rfl, inT6 206 (by rfl) rfl⟩
theorem cl_L_93 : CL RL 93 yX9_lead cX9_lead 2 (some .int) 1 := ⟨inT3 185 (by rfl) rfl, inT1 1 (by rfl) rfl, cd_X9_lead, by decide +kernel, by decide +kernel, by decide +kernel⟩
theorem lv_X9_lead : Cond.instanceMethod yX9_lead ∈ gwd ∧ Cond.selects yX9_lead.cls yX9_lead yX9_lead ∈ gwd := ⟨inT3 186 (by rfl) rfl, inT3 187 (by rfl) rfl⟩
theorem cl_L_96 : CL RL 96 yX10_lead cX10_lead 2 (some .int) 1 := ⟨inT6 199 (by rfl) rfl, inT1 10 (by rfl) rfl, cd_X10_lead, by decide +kernel, by decide +kernel, by decide +kernel⟩
theorem lv_X10_lead : Cond.instanceMethod yX10_lead ∈ gwd ∧ Cond.selects yX10_lead.cls yX10_lead yX10_lead ∈ gwd := ⟨inT6 200 (by rfl) rfl, inT6 201 (by rfl) rfl⟩
theorem cl_L_97 : CL RL 97 yX9_near cX9_near 4 (some .int) 3 := ⟨inT3 189 (by rfl) rfl, inT1 1 (by rfl) rfl, cd_X9_near, by decide +kernel, by decide +kernel, by decide +kernel⟩
theorem lv_X9_near : Cond.instanceMethod yX9_near ∈ gwd ∧ Cond.selects yX9_near.cls yX9_near yX9_near ∈ gwd := ⟨inT3 190 (by rfl) rfl, inT3 191 (by rfl) rfl⟩
theorem cl_L_101 : CL RL 101 yX10_near cX10_near 8 (some .int) 3 := ⟨inT6 220 (by rfl) rfl, inT1 10 (by rfl) rfl, cd_X10_near, by decide +kernel, by decide +kernel, by decide +kernel⟩
theorem lv_X10_near : Cond.instanceMethod yX10_near ∈ gwd ∧ Cond.selects yX10_near.cls yX10_near yX10_near ∈ gwd := ⟨inT6 221 (by rfl) rfl, inT6 222 (by rfl) rfl⟩
theorem cl_L_102 : CL RL 102 yX9_tree cX9_tree 9 (some .int) 2 := ⟨inT3 201 (by rfl) rfl, inT1 1 (by rfl) rfl, cd_X9_tree, by decide +kernel, by decide +kernel, by decide +kernel⟩
theorem lv_X9_tree : Cond.instanceMethod yX9_tree ∈ gwd ∧ Cond.selects yX9_tree.cls yX9_tree yX9_tree ∈ gwd := ⟨inT3 202 (by rfl) rfl, inT3 203 (by rfl) rfl⟩
theorem cl_L_105 : CL RL 105 yX10_tree cX10_tree 3 (some .int) 2 := ⟨inT6 230 (by rfl) rfl, inT1 10 (by rfl) rfl, cd_X10_tree, by decide +kernel, by decide +kernel, by decide +kernel⟩
theorem lv_X10_tree : Cond.instanceMethod yX10_tree ∈ gwd ∧ Cond.selects yX10_tree.cls yX10_tree yX10_tree ∈ gwd := ⟨inT6 231 (by rfl) rfl, inT6 232 (by rfl) rfl⟩
theorem cl_L_106 : CL RL 106 yX9_angle cX9_angle 20 (some .int) 1 := ⟨inT3 205 (by rfl) rfl, inT1 1 (by rfl) rfl, cd_X9_angle, by decide +kernel, by decide +kernel, by decide +kernel⟩
theorem lv_X9_angle : Cond.instanceMethod yX9_angle ∈ gwd ∧ Cond.selects yX9_angle.cls yX9_angle yX9_angle ∈ gwd := ⟨inT3 206 (by rfl) rfl, inT3 207 (by rfl) rfl⟩
theorem cl_L_109 : CL RL 109 yX10_angle cX10_angle 13 (some .int) 1 := ⟨inT6 234 (by rfl) rfl, inT1 10 (by rfl) rfl, cd_X10_angle, by decide +kernel, by decide +kernel, by decide +kernel⟩
theorem lv_X10_angle : Cond.instanceMethod yX10_angle ∈ gwd ∧ Cond.selects yX10_angle.cls yX10_angle yX10_angle ∈ gwd := ⟨inT6 235 (by rfl) rfl, inT6 236 (by rfl) rfl⟩
theorem cl_L_110 : CL RL 110 yX9_uses cX9_uses 2 (some .int) 1 := ⟨inT3 216 (by rfl) rfl, inT1 1 (by rfl) rfl, cd_X9_uses, by decide +kernel, by decide +kernel, by decide +kernel⟩
theorem lv_X9_uses : Cond.instanceMethod yX9_uses ∈ gwd ∧ Cond.selects yX9_uses.cls yX9_uses yX9_uses ∈ gwd := ⟨inT3 217 (by rfl) rfl, inT3 218 (by rfl) rfl⟩
theorem cl_L_113 : CL RL 113 yX10_uses cX10_uses 2 (some .int) 1 := ⟨inT7 0 (by rfl) rfl, inT1 10 (by rfl) rfl, cd_X10_uses, by decide +kernel, by decide +kernel, by decide +kernel⟩
theorem lv_X10_uses : Cond.instanceMethod yX10_uses ∈ gwd ∧ Cond.selects yX10_uses.cls yX10_uses yX10_uses ∈ gwd := ⟨inT7 1 (by rfl) rfl, inT7 2 (by rfl) rfl⟩
theorem cl_L_114 : CL RL 114 yX9_geared cX9_geared 7 (some .int) 5 := ⟨inT3 224 (by rfl) rfl, inT1 1 (by rfl) rfl, cd_X9_geared, by decide +kernel, by decide +kernel, by decide +kernel⟩
theorem lv_X9_geared : Cond.instanceMethod yX9_geared ∈ gwd ∧ Cond.selects yX9_geared.cls yX9_geared yX9_geared ∈ gwd := ⟨inT3 225 (by rfl) rfl, inT3 226 (by rfl) rfl⟩
theorem cl_L_118 : CL RL 118 yX10_geared cX10_geared 7 (some .int) 5 := ⟨inT7 8 (by rfl) rfl, inT1 10 (by rfl) rfl, cd_X10_geared, by decide +kernel, by decide +kernel, by decide +kernel⟩
theorem lv_X10_geared : Cond.instanceMethod yX10_geared ∈ gwd ∧ Cond.selects yX10_geared.cls yX10_geared yX10_geared ∈ gwd := ⟨inT7 9 (by rfl) rfl, inT7 10 (by rfl) rfl⟩
theorem cl_L_119 : CL RL 119 yX9_ungeared cX9_ungeared 1 (some .int) 0 := ⟨inT3 237 (by rfl) rfl, inT1 1 (by rfl) rfl, cd_X9_ungeared, by decide +kernel, by decide +kernel, by decide +kernel⟩
theorem lv_X9_ungeared : Cond.instanceMethod yX9_ungeared ∈ gwd ∧ Cond.selects yX9_ungeared.cls yX9_ungeared yX9_ungeared ∈ gwd := ⟨inT3 238 (by rfl) rfl, inT3 239 (by rfl) rfl⟩
theorem cl_L_122 : CL RL 122 yX10_ungeared cX10_ungeared 1 (some .int) 0 := ⟨inT7 20 (by rfl) rfl, inT1 10 (by rfl) rfl, cd_X10_ungeared, by decide +kernel, by decide +kernel, by decide +kernel⟩
theorem lv_X10_ungeared : Cond.instanceMethod yX10_ungeared ∈ gwd ∧ Cond.selects yX10_ungeared.cls yX10_ungeared yX10_ungeared ∈ gwd := ⟨inT7 21 (by rfl) rfl, inT7 22 (by rfl) rfl⟩
theorem cl_L_123 : CL RL 123 yX9_cranks cX9_cranks 5 (some .int) 3 := ⟨inT4 2 (by rfl) rfl, inT1 1 (by rfl) rfl, cd_X9_cranks, by decide +kernel, by decide +kernel, by decide +kernel⟩
theorem lv_X9_cranks : Cond.instanceMethod yX9_cranks ∈ gwd ∧ Cond.selects yX9_cranks.cls yX9_cranks yX9_cranks ∈ gwd := ⟨inT4 3 (by rfl) rfl, inT4 4 (by rfl) rfl⟩
theorem cl_L_126 : CL RL 126 yX10_cranks cX10_cranks 5 (some .int) 3 := ⟨inT7 28 (by rfl) rfl, inT1 10 (by rfl) rfl, cd_X10_cranks, by decide +kernel, by decide +kernel, by decide +kernel⟩
theorem lv_X10_cranks : Cond.instanceMethod yX10_cranks ∈ gwd ∧ Cond.selects yX10_cranks.cls yX10_cranks yX10_cranks ∈ gwd := ⟨inT7 29 (by rfl) rfl, inT7 30 (by rfl) rfl⟩
theorem cl_L_127 : CL RL 127 yX9_cuts cX9_cuts 1 (some .int) 0 := ⟨inT4 20 (by rfl) rfl, inT1 1 (by rfl) rfl, cd_X9_cuts, by decide +kernel, by decide +kernel, by decide +kernel⟩
theorem lv_X9_cuts : Cond.instanceMethod yX9_cuts ∈ gwd ∧ Cond.selects yX9_cuts.cls yX9_cuts yX9_cuts ∈ gwd := ⟨inT4 21 (by rfl) rfl, inT4 22 (by rfl) rfl⟩
theorem cl_L_130 : CL RL 130 yX10_cuts cX10_cuts 1 (some .int) 0 := ⟨inT7 59 (by rfl) rfl, inT1 10 (by rfl) rfl, cd_X10_cuts, by decide +kernel, by decide +kernel, by decide +kernel⟩
theorem lv_X10_cuts : Cond.instanceMethod yX10_cuts ∈ gwd ∧ Cond.selects yX10_cuts.cls yX10_cuts yX10_cuts ∈ gwd := ⟨inT7 60 (by rfl) rfl, inT7 61 (by rfl) rfl⟩
theorem cl_L_131 : CL RL 131 yX9_wipes cX9_wipes 1 (some .int) 0 := ⟨inT4 47 (by rfl) rfl, inT1 1 (by rfl) rfl, cd_X9_wipes, by decide +kernel, by decide +kernel, by decide +kernel⟩
theorem lv_X9_wipes : Cond.instanceMethod yX9_wipes ∈ gwd ∧ Cond.selects yX9_wipes.cls yX9_wipes yX9_wipes ∈ gwd := ⟨inT4 48 (by rfl) rfl, inT4 49 (by rfl) rfl⟩
theorem cl_L_134 : CL RL 134 yX10_wipes cX10_wipes 1 (some .int) 0 := ⟨inT7 83 (by rfl) rfl, inT1 10 (by rfl) rfl, cd_X10_wipes, by decide +kernel, by decide +kernel, by decide +kernel⟩
theorem lv_X10_wipes : Cond.instanceMethod yX10_wipes ∈ gwd ∧ Cond.selects yX10_wipes.cls yX10_wipes yX10_wipes ∈ gwd := ⟨inT7 84 (by rfl) rfl, inT7 85 (by rfl) rfl⟩
theorem cl_L_135 : CL RL 135 yX9_divides cX9_divides 4 (some .int) 2 := ⟨inT4 52 (by rfl) rfl, inT1 1 (by rfl) rfl, cd_X9_divides, by decide +kernel, by decide +kernel, by decide +kernel⟩
theorem lv_X9_divides : Cond.instanceMethod yX9_divides ∈ gwd ∧ Cond.selects yX9_divides.cls yX9_divides yX9_divides ∈ gwd := ⟨inT4 53 (by rfl) rfl, inT4 54 (by rfl) rfl⟩
theorem cl_L_138 : CL RL 138 yX10_divides cX10_divides 4 (some .int) 2 := ⟨inT7 91 (by rfl) rfl, inT1 10 (by rfl) rfl, cd_X10_divides, by decide +kernel, by decide +kernel, by decide +kernel⟩
theorem lv_X10_divides : Cond.instanceMethod yX10_divides ∈ gwd ∧ Cond.selects yX10_divides.cls yX10_divides yX10_divides ∈ gwd := ⟨inT7 92 (by rfl) rfl, inT7 93 (by rfl) rfl⟩
theorem cl_L_139 : CL RL 139 yX9_mark cX9_mark 2 (some .int) 1 := ⟨inT4 77 (by rfl) rfl, inT1 1 (by rfl) rfl, cd_X9_mark, by decide +kernel, by decide +kernel, by decide +kernel⟩
theorem lv_X9_mark : Cond.instanceMethod yX9_mark ∈ gwd ∧ Cond.selects yX9_mark.cls yX9_mark yX9_mark ∈ gwd := ⟨inT4 78 (by rfl) rfl, inT4 79 (by rfl) rfl⟩
theorem cl_L_142 : CL RL 142 yX10_mark cX10_mark 2 (some .int) 1 := ⟨inT7 115 (by rfl) rfl, inT1 10 (by rfl) rfl, cd_X10_mark, by decide +kernel, by decide +kernel, by decide +kernel⟩
theorem lv_X10_mark : Cond.instanceMethod yX10_mark ∈ gwd ∧ Cond.selects yX10_mark.cls yX10_mark yX10_mark ∈ gwd := ⟨inT7 116 (by rfl) rfl, inT7 117 (by rfl) rfl⟩
theorem cl_L_143 : CL RL 143 yX9_gaps cX9_gaps 1 (some .int) 0 := ⟨inT4 85 (by rfl) rfl, inT1 1 (by rfl) rfl, cd_X9_gaps, by decide +kernel, by decide +kernel, by decide +kernel⟩
theorem lv_X9_gaps : Cond.instanceMethod yX9_gaps ∈ gwd ∧ Cond.selects yX9_gaps.cls yX9_gaps yX9_gaps ∈ gwd := ⟨inT4 86 (by rfl) rfl, inT4 87 (by rfl) rfl⟩
theorem cl_L_146 : CL RL 146 yX10_gaps cX10_gaps 1 (some .int) 0 := ⟨inT7 119 (by rfl) rfl, inT1 10 (by rfl) rfl, cd_X10_gaps, by decide +kernel, by decide +kernel, by decide +kernel⟩
theorem lv_X10_gaps : Cond.instanceMethod yX10_gaps ∈ gwd ∧ Cond.selects yX10_gaps.cls yX10_gaps yX10_gaps ∈ gwd := ⟨inT7 120 (by rfl) rfl, inT7 121 (by rfl) rfl⟩
theorem cl_L_147 : CL RL 147 yX9_missing cX9_missing 7 (some .int) 1 := ⟨inT4 98 (by rfl) rfl, inT1 1 (by rfl) rfl, cd_X9_missing, by decide +kernel, by decide +kernel, by decide +kernel⟩
theorem lv_X9_missing : Cond.instanceMethod yX9_missing ∈ gwd ∧ Cond.selects yX9_missing.cls yX9_missing yX9_missing ∈ gwd := ⟨inT4 99 (by rfl) rfl, inT4 100 (by rfl) rfl⟩
theorem cl_L_150 : CL RL 150 yX10_missing cX10_missing 7 (some .int) 1 := ⟨inT7 123 (by rfl) rfl, inT1 10 (by rfl) rfl, cd_X10_missing, by decide +kernel, by decide +kernel, by decide +kernel⟩
theorem lv_X10_missing : Cond.instanceMethod yX10_missing ∈ gwd ∧ Cond.selects yX10_missing.cls yX10_missing yX10_missing ∈ gwd := ⟨inT7 124 (by rfl) rfl, inT7 125 (by rfl) rfl⟩
theorem cl_L_151 : CL RL 151 yX9_reaches cX9_reaches 11 (some .int) 0 := ⟨inT4 102 (by rfl) rfl, inT1 1 (by rfl) rfl, cd_X9_reaches, by decide +kernel, by decide +kernel, by decide +kernel⟩
theorem lv_X9_reaches : Cond.instanceMethod yX9_reaches ∈ gwd ∧ Cond.selects yX9_reaches.cls yX9_reaches yX9_reaches ∈ gwd := ⟨inT4 103 (by rfl) rfl, inT4 104 (by rfl) rfl⟩
theorem cl_L_154 : CL RL 154 yX10_reaches cX10_reaches 11 (some .int) 0 := ⟨inT7 127 (by rfl) rfl, inT1 10 (by rfl) rfl, cd_X10_reaches, by decide +kernel, by decide +kernel, by decide +kernel⟩
theorem lv_X10_reaches : Cond.instanceMethod yX10_reaches ∈ gwd ∧ Cond.selects yX10_reaches.cls yX10_reaches yX10_reaches ∈ gwd := ⟨inT7 128 (by rfl) rfl, inT7 129 (by rfl) rfl⟩
theorem cl_L_155 : CL RL 155 yX9_day cX9_day 6 (some .int) 0 := ⟨inT4 116 (by rfl) rfl, inT1 1 (by rfl) rfl, cd_X9_day, by decide +kernel, by decide +kernel, by decide +kernel⟩
theorem lv_X9_day : Cond.instanceMethod yX9_day ∈ gwd ∧ Cond.selects yX9_day.cls yX9_day yX9_day ∈ gwd := ⟨inT4 117 (by rfl) rfl, inT4 118 (by rfl) rfl⟩
theorem cl_L_158 : CL RL 158 yX10_day cX10_day 3 (some .int) 0 := ⟨inT7 131 (by rfl) rfl, inT1 10 (by rfl) rfl, cd_X10_day, by decide +kernel, by decide +kernel, by decide +kernel⟩
theorem lv_X10_day : Cond.instanceMethod yX10_day ∈ gwd ∧ Cond.selects yX10_day.cls yX10_day yX10_day ∈ gwd := ⟨inT7 132 (by rfl) rfl, inT7 133 (by rfl) rfl⟩
theorem cl_L_159 : CL RL 159 yX9_undo cX9_undo 2 (some .int) 0 := ⟨inT4 131 (by rfl) rfl, inT1 1 (by rfl) rfl, cd_X9_undo, by decide +kernel, by decide +kernel, by decide +kernel⟩
theorem lv_X9_undo : Cond.instanceMethod yX9_undo ∈ gwd ∧ Cond.selects yX9_undo.cls yX9_undo yX9_undo ∈ gwd := ⟨inT4 132 (by rfl) rfl, inT4 133 (by rfl) rfl⟩
theorem cl_L_162 : CL RL 162 yX10_undo cX10_undo 1 (some .int) 0 := ⟨inT5 163 (by rfl) rfl, inT1 10 (by rfl) rfl, cd_X10_undo, by decide +kernel, by decide +kernel, by decide +kernel⟩
theorem lv_X10_undo : Cond.instanceMethod yX10_undo ∈ gwd ∧ Cond.selects yX10_undo.cls yX10_undo yX10_undo ∈ gwd := ⟨inT5 164 (by rfl) rfl, inT5 165 (by rfl) rfl⟩
theorem cl_L_163 : CL RL 163 yX9_years cX9_years 6 (some .int) 2 := ⟨inT4 135 (by rfl) rfl, inT1 1 (by rfl) rfl, cd_X9_years, by decide +kernel, by decide +kernel, by decide +kernel⟩
theorem lv_X9_years : Cond.instanceMethod yX9_years ∈ gwd ∧ Cond.selects yX9_years.cls yX9_years yX9_years ∈ gwd := ⟨inT4 136 (by rfl) rfl, inT4 137 (by rfl) rfl⟩
theorem cl_L_166 : CL RL 166 yX10_years cX10_years 6 (some .int) 2 := ⟨inT7 145 (by rfl) rfl, inT1 10 (by rfl) rfl, cd_X10_years, by decide +kernel, by decide +kernel, by decide +kernel⟩
theorem lv_X10_years : Cond.instanceMethod yX10_years ∈ gwd ∧ Cond.selects yX10_years.cls yX10_years yX10_years ∈ gwd := ⟨inT7 146 (by rfl) rfl, inT7 147 (by rfl) rfl⟩
theorem cl_L_167 : CL RL 167 yX9_keep cX9_keep 3 (some .boolean) 1 := ⟨inT4 144 (by rfl) rfl, inT1 1 (by rfl) rfl, cd_X9_keep, by decide +kernel, by decide +kernel, by decide +kernel⟩
theorem lv_X9_keep : Cond.instanceMethod yX9_keep ∈ gwd ∧ Cond.selects yX9_keep.cls yX9_keep yX9_keep ∈ gwd := ⟨inT4 145 (by rfl) rfl, inT4 146 (by rfl) rfl⟩
theorem cl_L_170 : CL RL 170 yX10_keep cX10_keep 2 (some .boolean) 1 := ⟨inT7 155 (by rfl) rfl, inT1 10 (by rfl) rfl, cd_X10_keep, by decide +kernel, by decide +kernel, by decide +kernel⟩
theorem lv_X10_keep : Cond.instanceMethod yX10_keep ∈ gwd ∧ Cond.selects yX10_keep.cls yX10_keep yX10_keep ∈ gwd := ⟨inT7 156 (by rfl) rfl, inT7 157 (by rfl) rfl⟩
theorem cl_L_171 : CL RL 171 yX9_again cX9_again 3 (some .boolean) 1 := ⟨inT4 148 (by rfl) rfl, inT1 1 (by rfl) rfl, cd_X9_again, by decide +kernel, by decide +kernel, by decide +kernel⟩
theorem lv_X9_again : Cond.instanceMethod yX9_again ∈ gwd ∧ Cond.selects yX9_again.cls yX9_again yX9_again ∈ gwd := ⟨inT4 149 (by rfl) rfl, inT4 150 (by rfl) rfl⟩
theorem cl_L_174 : CL RL 174 yX10_again cX10_again 2 (some .boolean) 1 := ⟨inT7 159 (by rfl) rfl, inT1 10 (by rfl) rfl, cd_X10_again, by decide +kernel, by decide +kernel, by decide +kernel⟩
theorem lv_X10_again : Cond.instanceMethod yX10_again ∈ gwd ∧ Cond.selects yX10_again.cls yX10_again yX10_again ∈ gwd := ⟨inT7 160 (by rfl) rfl, inT7 161 (by rfl) rfl⟩
theorem cl_L_175 : CL RL 175 yX9_count cX9_count 2 (some .int) 1 := ⟨inT4 152 (by rfl) rfl, inT1 1 (by rfl) rfl, cd_X9_count, by decide +kernel, by decide +kernel, by decide +kernel⟩
theorem lv_X9_count : Cond.instanceMethod yX9_count ∈ gwd ∧ Cond.selects yX9_count.cls yX9_count yX9_count ∈ gwd := ⟨inT4 153 (by rfl) rfl, inT4 154 (by rfl) rfl⟩
theorem cl_L_178 : CL RL 178 yX10_count cX10_count 2 (some .int) 1 := ⟨inT7 163 (by rfl) rfl, inT1 10 (by rfl) rfl, cd_X10_count, by decide +kernel, by decide +kernel, by decide +kernel⟩
theorem lv_X10_count : Cond.instanceMethod yX10_count ∈ gwd ∧ Cond.selects yX10_count.cls yX10_count yX10_count ∈ gwd := ⟨inT7 164 (by rfl) rfl, inT7 165 (by rfl) rfl⟩
theorem cl_L_181 : CL RL 181 yX10_row cX10_row 2 (some .long) 1 := ⟨inT7 167 (by rfl) rfl, inT1 10 (by rfl) rfl, cd_X10_row, by decide +kernel, by decide +kernel, by decide +kernel⟩
theorem lv_X10_row : Cond.instanceMethod yX10_row ∈ gwd ∧ Cond.selects yX10_row.cls yX10_row yX10_row ∈ gwd := ⟨inT7 168 (by rfl) rfl, inT7 169 (by rfl) rfl⟩
theorem cl_X10_14 : CL RX10 14 yX10_common cX10_common 10 (some .long) 2 := ⟨inT6 184 (by rfl) rfl, inT1 10 (by rfl) rfl, cd_X10_common, by decide +kernel, by decide +kernel, by decide +kernel⟩
theorem ls_X10_common : Cond.static yX10_common ∈ gwd := inT6 185 (by rfl) rfl
theorem cl_X10_18 : CL RX10 18 yX10_enters cX10_enters 3 none 1 := ⟨inT6 45 (by rfl) rfl, inT1 10 (by rfl) rfl, cd_X10_enters, by decide +kernel, by decide +kernel, by decide +kernel⟩
theorem lv_X10_enters : Cond.instanceMethod yX10_enters ∈ gwd ∧ Cond.selects yX10_enters.cls yX10_enters yX10_enters ∈ gwd := ⟨inT6 47 (by rfl) rfl, inG 39 (by decide +kernel) rfl⟩
theorem cl_X10_29 : CL RX10 29 yX10_in cX10_in 6 (some .boolean) 3 := ⟨inT5 19 (by rfl) rfl, inT1 10 (by rfl) rfl, cd_X10_in, by decide +kernel, by decide +kernel, by decide +kernel⟩
theorem ls_X10_in : Cond.static yX10_in ∈ gwd := inT5 20 (by rfl) rfl
theorem cl_X10_39 : CL RX10 39 yX10_flag cX10_flag 1 (some .int) 1 := ⟨inT6 10 (by rfl) rfl, inT1 10 (by rfl) rfl, cd_X10_flag, by decide +kernel, by decide +kernel, by decide +kernel⟩
theorem ls_X10_flag : Cond.static yX10_flag ∈ gwd := inT6 11 (by rfl) rfl
theorem cl_X10_55 : CL RX10 55 yX10_takesOf cX10_takesOf 3 (some .int) 1 := ⟨inT5 192 (by rfl) rfl, inT1 10 (by rfl) rfl, cd_X10_takesOf, by decide +kernel, by decide +kernel, by decide +kernel⟩
theorem lv_X10_takesOf : Cond.instanceMethod yX10_takesOf ∈ gwd ∧ Cond.selects yX10_takesOf.cls yX10_takesOf yX10_takesOf ∈ gwd := ⟨inT5 194 (by rfl) rfl, inG 33 (by decide +kernel) rfl⟩
theorem cl_X10_59 : CL RX10 59 yX10_digit cX10_digit 1 (some .int) 0 := ⟨inT5 187 (by rfl) rfl, inT1 10 (by rfl) rfl, cd_X10_digit, by decide +kernel, by decide +kernel, by decide +kernel⟩
theorem lv_X10_digit : Cond.instanceMethod yX10_digit ∈ gwd ∧ Cond.selects yX10_digit.cls yX10_digit yX10_digit ∈ gwd := ⟨inT5 189 (by rfl) rfl, inG 32 (by decide +kernel) rfl⟩
theorem oi_X10_62 : Cond.methodLink RX10 62 Lib.objectInit ∈ gwd := inT5 27 (by rfl) rfl
theorem cl_X10_111 : CL RX10 111 yX10_begins cX10_begins 2 none 1 := ⟨inT5 28 (by rfl) rfl, inT1 10 (by rfl) rfl, cd_X10_begins, by decide +kernel, by decide +kernel, by decide +kernel⟩
theorem lv_X10_begins : Cond.instanceMethod yX10_begins ∈ gwd ∧ Cond.selects yX10_begins.cls yX10_begins yX10_begins ∈ gwd := ⟨inT5 30 (by rfl) rfl, inG 27 (by decide +kernel) rfl⟩
theorem cl_X10_118 : CL RX10 118 yX10_copies cX10_copies 4 none 2 := ⟨inT5 167 (by rfl) rfl, inT1 10 (by rfl) rfl, cd_X10_copies, by decide +kernel, by decide +kernel, by decide +kernel⟩
theorem lv_X10_copies : Cond.instanceMethod yX10_copies ∈ gwd ∧ Cond.selects yX10_copies.cls yX10_copies yX10_copies ∈ gwd := ⟨inT5 169 (by rfl) rfl, inG 28 (by decide +kernel) rfl⟩
theorem cl_X10_122 : CL RX10 122 yX10_two cX10_two 3 (some .int) 0 := ⟨inT5 183 (by rfl) rfl, inT1 10 (by rfl) rfl, cd_X10_two, by decide +kernel, by decide +kernel, by decide +kernel⟩
theorem lv_X10_two : Cond.instanceMethod yX10_two ∈ gwd ∧ Cond.selects yX10_two.cls yX10_two yX10_two ∈ gwd := ⟨inT5 185 (by rfl) rfl, inG 31 (by decide +kernel) rfl⟩
theorem cl_X10_129 : CL RX10 129 yX10_takes cX10_takes 3 (some .boolean) 1 := ⟨inT6 6 (by rfl) rfl, inT1 10 (by rfl) rfl, cd_X10_takes, by decide +kernel, by decide +kernel, by decide +kernel⟩
theorem lv_X10_takes : Cond.instanceMethod yX10_takes ∈ gwd ∧ Cond.selects yX10_takes.cls yX10_takes yX10_takes ∈ gwd := ⟨inT6 8 (by rfl) rfl, inG 34 (by decide +kernel) rfl⟩
theorem cl_X10_133 : CL RX10 133 yX10_reads cX10_reads 1 none 0 := ⟨inT5 175 (by rfl) rfl, inT1 10 (by rfl) rfl, cd_X10_reads, by decide +kernel, by decide +kernel, by decide +kernel⟩
theorem lv_X10_reads : Cond.instanceMethod yX10_reads ∈ gwd ∧ Cond.selects yX10_reads.cls yX10_reads yX10_reads ∈ gwd := ⟨inT5 177 (by rfl) rfl, inG 29 (by decide +kernel) rfl⟩
theorem cl_X10_136 : CL RX10 136 yX10_readsPlate cX10_readsPlate 5 (some .boolean) 1 := ⟨inT5 179 (by rfl) rfl, inT1 10 (by rfl) rfl, cd_X10_readsPlate, by decide +kernel, by decide +kernel, by decide +kernel⟩
theorem lv_X10_readsPlate : Cond.instanceMethod yX10_readsPlate ∈ gwd ∧ Cond.selects yX10_readsPlate.cls yX10_readsPlate yX10_readsPlate ∈ gwd := ⟨inT5 181 (by rfl) rfl, inG 30 (by decide +kernel) rfl⟩
theorem cl_X10_140 : CL RX10 140 yX10_circlesOf cX10_circlesOf 2 (some .int) 1 := ⟨inT6 13 (by rfl) rfl, inT1 10 (by rfl) rfl, cd_X10_circlesOf, by decide +kernel, by decide +kernel, by decide +kernel⟩
theorem lv_X10_circlesOf : Cond.instanceMethod yX10_circlesOf ∈ gwd ∧ Cond.selects yX10_circlesOf.cls yX10_circlesOf yX10_circlesOf ∈ gwd := ⟨inT6 15 (by rfl) rfl, inG 35 (by decide +kernel) rfl⟩
theorem cl_X10_144 : CL RX10 144 yX10_putsRead cX10_putsRead 2 (some .int) 1 := ⟨inT6 17 (by rfl) rfl, inT1 10 (by rfl) rfl, cd_X10_putsRead, by decide +kernel, by decide +kernel, by decide +kernel⟩
theorem lv_X10_putsRead : Cond.instanceMethod yX10_putsRead ∈ gwd ∧ Cond.selects yX10_putsRead.cls yX10_putsRead yX10_putsRead ∈ gwd := ⟨inT6 19 (by rfl) rfl, inG 36 (by decide +kernel) rfl⟩
theorem cl_X10_147 : CL RX10 147 yX10_done cX10_done 3 (some .int) 1 := ⟨inT6 21 (by rfl) rfl, inT1 10 (by rfl) rfl, cd_X10_done, by decide +kernel, by decide +kernel, by decide +kernel⟩
theorem lv_X10_done : Cond.instanceMethod yX10_done ∈ gwd ∧ Cond.selects yX10_done.cls yX10_done yX10_done ∈ gwd := ⟨inT6 23 (by rfl) rfl, inG 37 (by decide +kernel) rfl⟩
theorem cl_X10_156 : CL RX10 156 yX10_circles cX10_circles 1 (some .int) 0 := ⟨inT6 41 (by rfl) rfl, inT1 10 (by rfl) rfl, cd_X10_circles, by decide +kernel, by decide +kernel, by decide +kernel⟩
theorem lv_X10_circles : Cond.instanceMethod yX10_circles ∈ gwd ∧ Cond.selects yX10_circles.cls yX10_circles yX10_circles ∈ gwd := ⟨inT6 43 (by rfl) rfl, inG 38 (by decide +kernel) rfl⟩
theorem cl_X10_159 : CL RX10 159 yX10_holes cX10_holes 2 (some .int) 1 := ⟨inT6 49 (by rfl) rfl, inT1 10 (by rfl) rfl, cd_X10_holes, by decide +kernel, by decide +kernel, by decide +kernel⟩
theorem lv_X10_holes : Cond.instanceMethod yX10_holes ∈ gwd ∧ Cond.selects yX10_holes.cls yX10_holes yX10_holes ∈ gwd := ⟨inT6 51 (by rfl) rfl, inG 40 (by decide +kernel) rfl⟩
theorem cl_X10_162 : CL RX10 162 yX10_gearMany cX10_gearMany 1 (some .int) 0 := ⟨inT6 57 (by rfl) rfl, inT1 10 (by rfl) rfl, cd_X10_gearMany, by decide +kernel, by decide +kernel, by decide +kernel⟩
theorem lv_X10_gearMany : Cond.instanceMethod yX10_gearMany ∈ gwd ∧ Cond.selects yX10_gearMany.cls yX10_gearMany yX10_gearMany ∈ gwd := ⟨inT6 59 (by rfl) rfl, inG 41 (by decide +kernel) rfl⟩
theorem cl_X10_165 : CL RX10 165 yX10_teeth cX10_teeth 2 (some .int) 1 := ⟨inT6 61 (by rfl) rfl, inT1 10 (by rfl) rfl, cd_X10_teeth, by decide +kernel, by decide +kernel, by decide +kernel⟩
theorem lv_X10_teeth : Cond.instanceMethod yX10_teeth ∈ gwd ∧ Cond.selects yX10_teeth.cls yX10_teeth yX10_teeth ∈ gwd := ⟨inT6 63 (by rfl) rfl, inG 42 (by decide +kernel) rfl⟩
theorem cl_X10_168 : CL RX10 168 yX10_worm cX10_worm 1 (some .int) 0 := ⟨inT6 78 (by rfl) rfl, inT1 10 (by rfl) rfl, cd_X10_worm, by decide +kernel, by decide +kernel, by decide +kernel⟩
theorem lv_X10_worm : Cond.instanceMethod yX10_worm ∈ gwd ∧ Cond.selects yX10_worm.cls yX10_worm yX10_worm ∈ gwd := ⟨inT6 80 (by rfl) rfl, inG 44 (by decide +kernel) rfl⟩
theorem cl_X10_171 : CL RX10 171 yX10_hasSimple cX10_hasSimple 3 (some .boolean) 2 := ⟨inT6 74 (by rfl) rfl, inT1 10 (by rfl) rfl, cd_X10_hasSimple, by decide +kernel, by decide +kernel, by decide +kernel⟩
theorem lv_X10_hasSimple : Cond.instanceMethod yX10_hasSimple ∈ gwd ∧ Cond.selects yX10_hasSimple.cls yX10_hasSimple yX10_hasSimple ∈ gwd := ⟨inT6 76 (by rfl) rfl, inG 43 (by decide +kernel) rfl⟩
theorem cl_X10_179 : CL RX10 179 yX10_isNumber cX10_isNumber 1 (some .boolean) 1 := ⟨inT6 69 (by rfl) rfl, inT1 10 (by rfl) rfl, cd_X10_isNumber, by decide +kernel, by decide +kernel, by decide +kernel⟩
theorem ls_X10_isNumber : Cond.static yX10_isNumber ∈ gwd := inT6 70 (by rfl) rfl
theorem cl_X10_182 : CL RX10 182 yX10_firstSimple cX10_firstSimple 3 (some .int) 1 := ⟨inT6 82 (by rfl) rfl, inT1 10 (by rfl) rfl, cd_X10_firstSimple, by decide +kernel, by decide +kernel, by decide +kernel⟩
theorem lv_X10_firstSimple : Cond.instanceMethod yX10_firstSimple ∈ gwd ∧ Cond.selects yX10_firstSimple.cls yX10_firstSimple yX10_firstSimple ∈ gwd := ⟨inT6 84 (by rfl) rfl, inG 45 (by decide +kernel) rfl⟩
theorem cl_X10_185 : CL RX10 185 yX10_allHoles cX10_allHoles 3 (some .int) 2 := ⟨inT6 86 (by rfl) rfl, inT1 10 (by rfl) rfl, cd_X10_allHoles, by decide +kernel, by decide +kernel, by decide +kernel⟩
theorem lv_X10_allHoles : Cond.instanceMethod yX10_allHoles ∈ gwd ∧ Cond.selects yX10_allHoles.cls yX10_allHoles yX10_allHoles ∈ gwd := ⟨inT6 88 (by rfl) rfl, inG 46 (by decide +kernel) rfl⟩
theorem cl_X10_189 : CL RX10 189 yX10_size cX10_size 1 (some .int) 1 := ⟨inT6 102 (by rfl) rfl, inT1 10 (by rfl) rfl, cd_X10_size, by decide +kernel, by decide +kernel, by decide +kernel⟩
theorem ls_X10_size : Cond.static yX10_size ∈ gwd := inT6 103 (by rfl) rfl
theorem cl_X10_207 : CL RX10 207 yX10_looksAt cX10_looksAt 12 (some .int) 4 := ⟨inT6 98 (by rfl) rfl, inT1 10 (by rfl) rfl, cd_X10_looksAt, by decide +kernel, by decide +kernel, by decide +kernel⟩
theorem lv_X10_looksAt : Cond.instanceMethod yX10_looksAt ∈ gwd ∧ Cond.selects yX10_looksAt.cls yX10_looksAt yX10_looksAt ∈ gwd := ⟨inT6 100 (by rfl) rfl, inG 48 (by decide +kernel) rfl⟩
theorem cl_X10_211 : CL RX10 211 yX10_findsCompound cX10_findsCompound 6 (some .int) 1 := ⟨inT6 94 (by rfl) rfl, inT1 10 (by rfl) rfl, cd_X10_findsCompound, by decide +kernel, by decide +kernel, by decide +kernel⟩
theorem lv_X10_findsCompound : Cond.instanceMethod yX10_findsCompound ∈ gwd ∧ Cond.selects yX10_findsCompound.cls yX10_findsCompound yX10_findsCompound ∈ gwd := ⟨inT6 96 (by rfl) rfl, inG 47 (by decide +kernel) rfl⟩
theorem cl_X10_214 : CL RX10 214 yX10_isUnlike cX10_isUnlike 3 (some .boolean) 1 := ⟨inT6 133 (by rfl) rfl, inT1 10 (by rfl) rfl, cd_X10_isUnlike, by decide +kernel, by decide +kernel, by decide +kernel⟩
theorem lv_X10_isUnlike : Cond.instanceMethod yX10_isUnlike ∈ gwd ∧ Cond.selects yX10_isUnlike.cls yX10_isUnlike yX10_isUnlike ∈ gwd := ⟨inT6 135 (by rfl) rfl, inG 55 (by decide +kernel) rfl⟩
theorem cl_X10_220 : CL RX10 220 yX10_startsTrains cX10_startsTrains 3 none 1 := ⟨inT6 125 (by rfl) rfl, inT1 10 (by rfl) rfl, cd_X10_startsTrains, by decide +kernel, by decide +kernel, by decide +kernel⟩
theorem lv_X10_startsTrains : Cond.instanceMethod yX10_startsTrains ∈ gwd ∧ Cond.selects yX10_startsTrains.cls yX10_startsTrains yX10_startsTrains ∈ gwd := ⟨inT6 127 (by rfl) rfl, inG 53 (by decide +kernel) rfl⟩
theorem cl_X10_223 : CL RX10 223 yX10_goesOn cX10_goesOn 3 (some .boolean) 1 := ⟨inT6 129 (by rfl) rfl, inT1 10 (by rfl) rfl, cd_X10_goesOn, by decide +kernel, by decide +kernel, by decide +kernel⟩
theorem lv_X10_goesOn : Cond.instanceMethod yX10_goesOn ∈ gwd ∧ Cond.selects yX10_goesOn.cls yX10_goesOn yX10_goesOn ∈ gwd := ⟨inT6 131 (by rfl) rfl, inG 54 (by decide +kernel) rfl⟩
theorem cl_X10_226 : CL RX10 226 yX10_beginsFour cX10_beginsFour 2 (some .boolean) 0 := ⟨inT6 137 (by rfl) rfl, inT1 10 (by rfl) rfl, cd_X10_beginsFour, by decide +kernel, by decide +kernel, by decide +kernel⟩
theorem lv_X10_beginsFour : Cond.instanceMethod yX10_beginsFour ∈ gwd ∧ Cond.selects yX10_beginsFour.cls yX10_beginsFour yX10_beginsFour ∈ gwd := ⟨inT6 139 (by rfl) rfl, inG 56 (by decide +kernel) rfl⟩
theorem cl_X10_233 : CL RX10 233 yX10_nextTrain cX10_nextTrain 1 (some .boolean) 0 := ⟨inT6 121 (by rfl) rfl, inT1 10 (by rfl) rfl, cd_X10_nextTrain, by decide +kernel, by decide +kernel, by decide +kernel⟩
theorem lv_X10_nextTrain : Cond.instanceMethod yX10_nextTrain ∈ gwd ∧ Cond.selects yX10_nextTrain.cls yX10_nextTrain yX10_nextTrain ∈ gwd := ⟨inT6 123 (by rfl) rfl, inG 52 (by decide +kernel) rfl⟩
theorem cl_X10_236 : CL RX10 236 yX10_upper cX10_upper 1 (some .long) 0 := ⟨inT6 141 (by rfl) rfl, inT1 10 (by rfl) rfl, cd_X10_upper, by decide +kernel, by decide +kernel, by decide +kernel⟩
theorem lv_X10_upper : Cond.instanceMethod yX10_upper ∈ gwd ∧ Cond.selects yX10_upper.cls yX10_upper yX10_upper ∈ gwd := ⟨inT6 143 (by rfl) rfl, inG 57 (by decide +kernel) rfl⟩
theorem cl_X10_240 : CL RX10 240 yX10_lower cX10_lower 1 (some .long) 0 := ⟨inT6 145 (by rfl) rfl, inT1 10 (by rfl) rfl, cd_X10_lower, by decide +kernel, by decide +kernel, by decide +kernel⟩
theorem lv_X10_lower : Cond.instanceMethod yX10_lower ∈ gwd ∧ Cond.selects yX10_lower.cls yX10_lower yX10_lower ∈ gwd := ⟨inT6 147 (by rfl) rfl, inG 58 (by decide +kernel) rfl⟩
theorem cl_X10_243 : CL RX10 243 yX10_finds cX10_finds 2 none 0 := ⟨inT6 149 (by rfl) rfl, inT1 10 (by rfl) rfl, cd_X10_finds, by decide +kernel, by decide +kernel, by decide +kernel⟩
theorem lv_X10_finds : Cond.instanceMethod yX10_finds ∈ gwd ∧ Cond.selects yX10_finds.cls yX10_finds yX10_finds ∈ gwd := ⟨inT6 151 (by rfl) rfl, inG 59 (by decide +kernel) rfl⟩
theorem cl_X10_246 : CL RX10 246 yX10_findsTrain cX10_findsTrain 5 (some .boolean) 2 := ⟨inT6 117 (by rfl) rfl, inT1 10 (by rfl) rfl, cd_X10_findsTrain, by decide +kernel, by decide +kernel, by decide +kernel⟩
theorem lv_X10_findsTrain : Cond.instanceMethod yX10_findsTrain ∈ gwd ∧ Cond.selects yX10_findsTrain.cls yX10_findsTrain yX10_findsTrain ∈ gwd := ⟨inT6 119 (by rfl) rfl, inG 51 (by decide +kernel) rfl⟩
theorem cl_X10_250 : CL RX10 250 yX10_isDifferential cX10_isDifferential 3 (some .boolean) 2 := ⟨inT6 113 (by rfl) rfl, inT1 10 (by rfl) rfl, cd_X10_isDifferential, by decide +kernel, by decide +kernel, by decide +kernel⟩
theorem lv_X10_isDifferential : Cond.instanceMethod yX10_isDifferential ∈ gwd ∧ Cond.selects yX10_isDifferential.cls yX10_isDifferential yX10_isDifferential ∈ gwd := ⟨inT6 115 (by rfl) rfl, inG 50 (by decide +kernel) rfl⟩
theorem cl_X10_259 : CL RX10 259 yX10_findsDifferential cX10_findsDifferential 5 (some .boolean) 1 := ⟨inT6 109 (by rfl) rfl, inT1 10 (by rfl) rfl, cd_X10_findsDifferential, by decide +kernel, by decide +kernel, by decide +kernel⟩
theorem lv_X10_findsDifferential : Cond.instanceMethod yX10_findsDifferential ∈ gwd ∧ Cond.selects yX10_findsDifferential.cls yX10_findsDifferential yX10_findsDifferential ∈ gwd := ⟨inT6 111 (by rfl) rfl, inG 49 (by decide +kernel) rfl⟩
theorem cl_X10_262 : CL RX10 262 yX10_waysOf cX10_waysOf 2 (some .int) 1 := ⟨inT6 157 (by rfl) rfl, inT1 10 (by rfl) rfl, cd_X10_waysOf, by decide +kernel, by decide +kernel, by decide +kernel⟩
theorem lv_X10_waysOf : Cond.instanceMethod yX10_waysOf ∈ gwd ∧ Cond.selects yX10_waysOf.cls yX10_waysOf yX10_waysOf ∈ gwd := ⟨inT6 159 (by rfl) rfl, inG 60 (by decide +kernel) rfl⟩
theorem cl_X10_265 : CL RX10 265 yX10_isRatio cX10_isRatio 2 (some .boolean) 2 := ⟨inT6 169 (by rfl) rfl, inT1 10 (by rfl) rfl, cd_X10_isRatio, by decide +kernel, by decide +kernel, by decide +kernel⟩
theorem ls_X10_isRatio : Cond.static yX10_isRatio ∈ gwd := inT6 170 (by rfl) rfl
theorem cl_X10_268 : CL RX10 268 yX10_entersFound cX10_entersFound 2 none 0 := ⟨inT6 172 (by rfl) rfl, inT1 10 (by rfl) rfl, cd_X10_entersFound, by decide +kernel, by decide +kernel, by decide +kernel⟩
theorem lv_X10_entersFound : Cond.instanceMethod yX10_entersFound ∈ gwd ∧ Cond.selects yX10_entersFound.cls yX10_entersFound yX10_entersFound ∈ gwd := ⟨inT6 174 (by rfl) rfl, inG 61 (by decide +kernel) rfl⟩
theorem cl_X10_284 : CL RX10 284 yX10_entersPart cX10_entersPart 7 none 2 := ⟨inT6 195 (by rfl) rfl, inT1 10 (by rfl) rfl, cd_X10_entersPart, by decide +kernel, by decide +kernel, by decide +kernel⟩
theorem lv_X10_entersPart : Cond.instanceMethod yX10_entersPart ∈ gwd ∧ Cond.selects yX10_entersPart.cls yX10_entersPart yX10_entersPart ∈ gwd := ⟨inT6 197 (by rfl) rfl, inG 65 (by decide +kernel) rfl⟩
theorem cl_X10_288 : CL RX10 288 yX10_isNearer cX10_isNearer 22 (some .boolean) 4 := ⟨inT6 187 (by rfl) rfl, inT1 10 (by rfl) rfl, cd_X10_isNearer, by decide +kernel, by decide +kernel, by decide +kernel⟩
theorem lv_X10_isNearer : Cond.instanceMethod yX10_isNearer ∈ gwd ∧ Cond.selects yX10_isNearer.cls yX10_isNearer yX10_isNearer ∈ gwd := ⟨inT6 189 (by rfl) rfl, inG 63 (by decide +kernel) rfl⟩
theorem cl_X10_292 : CL RX10 292 yX10_findsNearest cX10_findsNearest 13 (some .boolean) 3 := ⟨inT6 180 (by rfl) rfl, inT1 10 (by rfl) rfl, cd_X10_findsNearest, by decide +kernel, by decide +kernel, by decide +kernel⟩
theorem lv_X10_findsNearest : Cond.instanceMethod yX10_findsNearest ∈ gwd ∧ Cond.selects yX10_findsNearest.cls yX10_findsNearest yX10_findsNearest ∈ gwd := ⟨inT6 182 (by rfl) rfl, inG 62 (by decide +kernel) rfl⟩
theorem cl_X10_295 : CL RX10 295 yX10_entersNear cX10_entersNear 1 none 0 := ⟨inT6 191 (by rfl) rfl, inT1 10 (by rfl) rfl, cd_X10_entersNear, by decide +kernel, by decide +kernel, by decide +kernel⟩
theorem lv_X10_entersNear : Cond.instanceMethod yX10_entersNear ∈ gwd ∧ Cond.selects yX10_entersNear.cls yX10_entersNear yX10_entersNear ∈ gwd := ⟨inT6 193 (by rfl) rfl, inG 64 (by decide +kernel) rfl⟩
theorem cl_X10_303 : CL RX10 303 yX10_sinks cX10_sinks 7 none 2 := ⟨inT6 213 (by rfl) rfl, inT1 10 (by rfl) rfl, cd_X10_sinks, by decide +kernel, by decide +kernel, by decide +kernel⟩
theorem lv_X10_sinks : Cond.instanceMethod yX10_sinks ∈ gwd ∧ Cond.selects yX10_sinks.cls yX10_sinks yX10_sinks ∈ gwd := ⟨inT6 215 (by rfl) rfl, inG 67 (by decide +kernel) rfl⟩
theorem cl_X10_308 : CL RX10 308 yX10_sorts cX10_sorts 4 none 0 := ⟨inT6 209 (by rfl) rfl, inT1 10 (by rfl) rfl, cd_X10_sorts, by decide +kernel, by decide +kernel, by decide +kernel⟩
theorem lv_X10_sorts : Cond.instanceMethod yX10_sorts ∈ gwd ∧ Cond.selects yX10_sorts.cls yX10_sorts yX10_sorts ∈ gwd := ⟨inT6 211 (by rfl) rfl, inG 66 (by decide +kernel) rfl⟩
theorem cl_X10_311 : CL RX10 311 yX10_isLess cX10_isLess 4 (some .boolean) 2 := ⟨inT6 217 (by rfl) rfl, inT1 10 (by rfl) rfl, cd_X10_isLess, by decide +kernel, by decide +kernel, by decide +kernel⟩
theorem ls_X10_isLess : Cond.static yX10_isLess ∈ gwd := inT6 218 (by rfl) rfl
theorem cl_X10_318 : CL RX10 318 yX10_stepsTo cX10_stepsTo 20 (some .int) 3 := ⟨inT6 226 (by rfl) rfl, inT1 10 (by rfl) rfl, cd_X10_stepsTo, by decide +kernel, by decide +kernel, by decide +kernel⟩
theorem lv_X10_stepsTo : Cond.instanceMethod yX10_stepsTo ∈ gwd ∧ Cond.selects yX10_stepsTo.cls yX10_stepsTo yX10_stepsTo ∈ gwd := ⟨inT6 228 (by rfl) rfl, inG 68 (by decide +kernel) rfl⟩
theorem cl_X10_326 : CL RX10 326 yX10_usesOne cX10_usesOne 3 (some .int) 1 := ⟨inT7 4 (by rfl) rfl, inT1 10 (by rfl) rfl, cd_X10_usesOne, by decide +kernel, by decide +kernel, by decide +kernel⟩
theorem lv_X10_usesOne : Cond.instanceMethod yX10_usesOne ∈ gwd ∧ Cond.selects yX10_usesOne.cls yX10_usesOne yX10_usesOne ∈ gwd := ⟨inT7 6 (by rfl) rfl, inG 69 (by decide +kernel) rfl⟩
theorem cl_X10_329 : CL RX10 329 yX10_isGear cX10_isGear 2 (some .boolean) 1 := ⟨inT7 16 (by rfl) rfl, inT1 10 (by rfl) rfl, cd_X10_isGear, by decide +kernel, by decide +kernel, by decide +kernel⟩
theorem lv_X10_isGear : Cond.instanceMethod yX10_isGear ∈ gwd ∧ Cond.selects yX10_isGear.cls yX10_isGear yX10_isGear ∈ gwd := ⟨inT7 18 (by rfl) rfl, inG 71 (by decide +kernel) rfl⟩
theorem cl_X10_332 : CL RX10 332 yX10_gearedOne cX10_gearedOne 9 (some .int) 5 := ⟨inT7 12 (by rfl) rfl, inT1 10 (by rfl) rfl, cd_X10_gearedOne, by decide +kernel, by decide +kernel, by decide +kernel⟩
theorem lv_X10_gearedOne : Cond.instanceMethod yX10_gearedOne ∈ gwd ∧ Cond.selects yX10_gearedOne.cls yX10_gearedOne yX10_gearedOne ∈ gwd := ⟨inT7 14 (by rfl) rfl, inG 70 (by decide +kernel) rfl⟩
theorem cl_X10_336 : CL RX10 336 yX10_ungearedOne cX10_ungearedOne 2 (some .int) 0 := ⟨inT7 24 (by rfl) rfl, inT1 10 (by rfl) rfl, cd_X10_ungearedOne, by decide +kernel, by decide +kernel, by decide +kernel⟩
theorem lv_X10_ungearedOne : Cond.instanceMethod yX10_ungearedOne ∈ gwd ∧ Cond.selects yX10_ungearedOne.cls yX10_ungearedOne yX10_ungearedOne ∈ gwd := ⟨inT7 26 (by rfl) rfl, inG 72 (by decide +kernel) rfl⟩
theorem cl_X10_339 : CL RX10 339 yX10_trainLower cX10_trainLower 1 (some .long) 0 := ⟨inT7 49 (by rfl) rfl, inT1 10 (by rfl) rfl, cd_X10_trainLower, by decide +kernel, by decide +kernel, by decide +kernel⟩
theorem lv_X10_trainLower : Cond.instanceMethod yX10_trainLower ∈ gwd ∧ Cond.selects yX10_trainLower.cls yX10_trainLower yX10_trainLower ∈ gwd := ⟨inT7 51 (by rfl) rfl, inG 77 (by decide +kernel) rfl⟩
theorem cl_X10_342 : CL RX10 342 yX10_trainUpper cX10_trainUpper 1 (some .long) 0 := ⟨inT7 53 (by rfl) rfl, inT1 10 (by rfl) rfl, cd_X10_trainUpper, by decide +kernel, by decide +kernel, by decide +kernel⟩
theorem lv_X10_trainUpper : Cond.instanceMethod yX10_trainUpper ∈ gwd ∧ Cond.selects yX10_trainUpper.cls yX10_trainUpper yX10_trainUpper ∈ gwd := ⟨inT7 55 (by rfl) rfl, inG 78 (by decide +kernel) rfl⟩
theorem cl_X10_353 : CL RX10 353 yX10_laysStep cX10_laysStep 10 none 1 := ⟨inT7 45 (by rfl) rfl, inT1 10 (by rfl) rfl, cd_X10_laysStep, by decide +kernel, by decide +kernel, by decide +kernel⟩
theorem lv_X10_laysStep : Cond.instanceMethod yX10_laysStep ∈ gwd ∧ Cond.selects yX10_laysStep.cls yX10_laysStep yX10_laysStep ∈ gwd := ⟨inT7 47 (by rfl) rfl, inG 76 (by decide +kernel) rfl⟩
theorem cl_X10_364 : CL RX10 364 yX10_laysNext cX10_laysNext 18 (some .boolean) 2 := ⟨inT7 41 (by rfl) rfl, inT1 10 (by rfl) rfl, cd_X10_laysNext, by decide +kernel, by decide +kernel, by decide +kernel⟩
theorem lv_X10_laysNext : Cond.instanceMethod yX10_laysNext ∈ gwd ∧ Cond.selects yX10_laysNext.cls yX10_laysNext yX10_laysNext ∈ gwd := ⟨inT7 43 (by rfl) rfl, inG 75 (by decide +kernel) rfl⟩
theorem cl_X10_370 : CL RX10 370 yX10_goesBy cX10_goesBy 4 (some .int) 2 := ⟨inT7 37 (by rfl) rfl, inT1 10 (by rfl) rfl, cd_X10_goesBy, by decide +kernel, by decide +kernel, by decide +kernel⟩
theorem lv_X10_goesBy : Cond.instanceMethod yX10_goesBy ∈ gwd ∧ Cond.selects yX10_goesBy.cls yX10_goesBy yX10_goesBy ∈ gwd := ⟨inT7 39 (by rfl) rfl, inG 74 (by decide +kernel) rfl⟩
theorem cl_X10_374 : CL RX10 374 yX10_turnsOne cX10_turnsOne 7 (some .int) 3 := ⟨inT7 32 (by rfl) rfl, inT1 10 (by rfl) rfl, cd_X10_turnsOne, by decide +kernel, by decide +kernel, by decide +kernel⟩
theorem lv_X10_turnsOne : Cond.instanceMethod yX10_turnsOne ∈ gwd ∧ Cond.selects yX10_turnsOne.cls yX10_turnsOne yX10_turnsOne ∈ gwd := ⟨inT7 34 (by rfl) rfl, inG 73 (by decide +kernel) rfl⟩
theorem cl_X10_378 : CL RX10 378 yX10_marks cX10_marks 1 (some .int) 0 := ⟨inT7 71 (by rfl) rfl, inT1 10 (by rfl) rfl, cd_X10_marks, by decide +kernel, by decide +kernel, by decide +kernel⟩
theorem lv_X10_marks : Cond.instanceMethod yX10_marks ∈ gwd ∧ Cond.selects yX10_marks.cls yX10_marks yX10_marks ∈ gwd := ⟨inT7 73 (by rfl) rfl, inG 81 (by decide +kernel) rfl⟩
theorem cl_X10_381 : CL RX10 381 yX10_markUp cX10_markUp 2 (some .long) 1 := ⟨inT7 75 (by rfl) rfl, inT1 10 (by rfl) rfl, cd_X10_markUp, by decide +kernel, by decide +kernel, by decide +kernel⟩
theorem lv_X10_markUp : Cond.instanceMethod yX10_markUp ∈ gwd ∧ Cond.selects yX10_markUp.cls yX10_markUp yX10_markUp ∈ gwd := ⟨inT7 77 (by rfl) rfl, inG 82 (by decide +kernel) rfl⟩
theorem cl_X10_385 : CL RX10 385 yX10_markLow cX10_markLow 2 (some .long) 1 := ⟨inT7 79 (by rfl) rfl, inT1 10 (by rfl) rfl, cd_X10_markLow, by decide +kernel, by decide +kernel, by decide +kernel⟩
theorem lv_X10_markLow : Cond.instanceMethod yX10_markLow ∈ gwd ∧ Cond.selects yX10_markLow.cls yX10_markLow yX10_markLow ∈ gwd := ⟨inT7 81 (by rfl) rfl, inG 83 (by decide +kernel) rfl⟩
theorem cl_X10_388 : CL RX10 388 yX10_markAt cX10_markAt 6 (some .int) 2 := ⟨inT7 67 (by rfl) rfl, inT1 10 (by rfl) rfl, cd_X10_markAt, by decide +kernel, by decide +kernel, by decide +kernel⟩
theorem lv_X10_markAt : Cond.instanceMethod yX10_markAt ∈ gwd ∧ Cond.selects yX10_markAt.cls yX10_markAt yX10_markAt ∈ gwd := ⟨inT7 69 (by rfl) rfl, inG 80 (by decide +kernel) rfl⟩
theorem cl_X10_392 : CL RX10 392 yX10_cutsOne cX10_cutsOne 2 (some .int) 0 := ⟨inT7 63 (by rfl) rfl, inT1 10 (by rfl) rfl, cd_X10_cutsOne, by decide +kernel, by decide +kernel, by decide +kernel⟩
theorem lv_X10_cutsOne : Cond.instanceMethod yX10_cutsOne ∈ gwd ∧ Cond.selects yX10_cutsOne.cls yX10_cutsOne yX10_cutsOne ∈ gwd := ⟨inT7 65 (by rfl) rfl, inG 79 (by decide +kernel) rfl⟩
theorem cl_X10_395 : CL RX10 395 yX10_wipesOne cX10_wipesOne 2 (some .int) 0 := ⟨inT7 87 (by rfl) rfl, inT1 10 (by rfl) rfl, cd_X10_wipesOne, by decide +kernel, by decide +kernel, by decide +kernel⟩
theorem lv_X10_wipesOne : Cond.instanceMethod yX10_wipesOne ∈ gwd ∧ Cond.selects yX10_wipesOne.cls yX10_wipesOne yX10_wipesOne ∈ gwd := ⟨inT7 89 (by rfl) rfl, inG 84 (by decide +kernel) rfl⟩
theorem cl_X10_400 : CL RX10 400 yX10_hasWay cX10_hasWay 3 (some .boolean) 2 := ⟨inT7 96 (by rfl) rfl, inT1 10 (by rfl) rfl, cd_X10_hasWay, by decide +kernel, by decide +kernel, by decide +kernel⟩
theorem lv_X10_hasWay : Cond.instanceMethod yX10_hasWay ∈ gwd ∧ Cond.selects yX10_hasWay.cls yX10_hasWay yX10_hasWay ∈ gwd := ⟨inT7 98 (by rfl) rfl, inG 85 (by decide +kernel) rfl⟩
theorem cl_X10_403 : CL RX10 403 yX10_stepsBy cX10_stepsBy 5 none 2 := ⟨inT7 100 (by rfl) rfl, inT1 10 (by rfl) rfl, cd_X10_stepsBy, by decide +kernel, by decide +kernel, by decide +kernel⟩
theorem lv_X10_stepsBy : Cond.instanceMethod yX10_stepsBy ∈ gwd ∧ Cond.selects yX10_stepsBy.cls yX10_stepsBy yX10_stepsBy ∈ gwd := ⟨inT7 102 (by rfl) rfl, inG 86 (by decide +kernel) rfl⟩
theorem cl_X10_406 : CL RX10 406 yX10_laysGaps cX10_laysGaps 7 (some .int) 0 := ⟨inT7 104 (by rfl) rfl, inT1 10 (by rfl) rfl, cd_X10_laysGaps, by decide +kernel, by decide +kernel, by decide +kernel⟩
theorem lv_X10_laysGaps : Cond.instanceMethod yX10_laysGaps ∈ gwd ∧ Cond.selects yX10_laysGaps.cls yX10_laysGaps yX10_laysGaps ∈ gwd := ⟨inT7 106 (by rfl) rfl, inG 87 (by decide +kernel) rfl⟩
theorem cl_X10_415 : CL RX10 415 yX10_laysGap cX10_laysGap 9 none 1 := ⟨inT7 108 (by rfl) rfl, inT1 10 (by rfl) rfl, cd_X10_laysGap, by decide +kernel, by decide +kernel, by decide +kernel⟩
theorem lv_X10_laysGap : Cond.instanceMethod yX10_laysGap ∈ gwd ∧ Cond.selects yX10_laysGap.cls yX10_laysGap yX10_laysGap ∈ gwd := ⟨inT7 110 (by rfl) rfl, inG 88 (by decide +kernel) rfl⟩
theorem cl_X10_418 : CL RX10 418 yX10_isBelow cX10_isBelow 23 (some .boolean) 4 := ⟨inT7 112 (by rfl) rfl, inT1 10 (by rfl) rfl, cd_X10_isBelow, by decide +kernel, by decide +kernel, by decide +kernel⟩
theorem ls_X10_isBelow : Cond.static yX10_isBelow ∈ gwd := inT7 113 (by rfl) rfl
theorem cl_X10_425 : CL RX10 425 yX10_readsAct cX10_readsAct 3 (some .boolean) 1 := ⟨inT7 135 (by rfl) rfl, inT1 10 (by rfl) rfl, cd_X10_readsAct, by decide +kernel, by decide +kernel, by decide +kernel⟩
theorem lv_X10_readsAct : Cond.instanceMethod yX10_readsAct ∈ gwd ∧ Cond.selects yX10_readsAct.cls yX10_readsAct yX10_readsAct ∈ gwd := ⟨inT7 137 (by rfl) rfl, inG 89 (by decide +kernel) rfl⟩
theorem cl_X10_428 : CL RX10 428 yX10_doesAct cX10_doesAct 2 (some .int) 1 := ⟨inT7 141 (by rfl) rfl, inT1 10 (by rfl) rfl, cd_X10_doesAct, by decide +kernel, by decide +kernel, by decide +kernel⟩
theorem lv_X10_doesAct : Cond.instanceMethod yX10_doesAct ∈ gwd ∧ Cond.selects yX10_doesAct.cls yX10_doesAct yX10_doesAct ∈ gwd := ⟨inT7 143 (by rfl) rfl, inG 90 (by decide +kernel) rfl⟩
theorem cl_X10_437 : CL RX10 437 yX10_draws cX10_draws 2 (some .int) 1 := ⟨inT7 150 (by rfl) rfl, inT1 10 (by rfl) rfl, cd_X10_draws, by decide +kernel, by decide +kernel, by decide +kernel⟩
theorem lv_X10_draws : Cond.instanceMethod yX10_draws ∈ gwd ∧ Cond.selects yX10_draws.cls yX10_draws yX10_draws ∈ gwd := ⟨inT7 152 (by rfl) rfl, inG 91 (by decide +kernel) rfl⟩
theorem ow_1 : Cond.instanceMethod Lib.objectInit ∈ gwd := inT1 31 (by rfl) rfl
theorem ow_2 : Cond.code Lib.objectInit ⟨#[0xb1]⟩ 1 none ∈ gwd := inT1 32 (by rfl) rfl
theorem aw_1 : Cond.native arraycopyName ∈ gwd := inT2 117 (by rfl) rfl
theorem aw_2 : Cond.static arraycopyName ∈ gwd := inT2 116 (by rfl) rfl
theorem aw_3 : Cond.initialized "java/lang/System" ∈ gwd := inT1 11 (by rfl) rfl
abbrev C_X0_init (X : Ctx) : Prop := Cx X RX0 cX0_init 1 none "<init>" 1 20
abbrev S_X0_init (l : Launch) (D : Dt) (mc ms : Nat) (av : List Value) (h : Hp) (Q : Pq) : Prop := Sp l D yX0_init cX0_init 1 none 1 20 mc ms av h Q
abbrev C_X0_look (X : Ctx) : Prop := Cx X RX0 cX0_look 6 none "look" 4 101
abbrev S_X0_look (l : Launch) (D : Dt) (mc ms : Nat) (av : List Value) (h : Hp) (Q : Pq) : Prop := Sp l D yX0_look cX0_look 6 none 4 101 mc ms av h Q
abbrev C_X0_tryPair (X : Ctx) : Prop := Cx X RX0 cX0_tryPair 11 none "tryPair" 3 71
abbrev S_X0_tryPair (l : Launch) (D : Dt) (mc ms : Nat) (av : List Value) (h : Hp) (Q : Pq) : Prop := Sp l D yX0_tryPair cX0_tryPair 11 none 3 71 mc ms av h Q
abbrev C_X0_offer (X : Ctx) : Prop := Cx X RX0 cX0_offer 8 (some .boolean) "offer" 2 44
abbrev S_X0_offer (l : Launch) (D : Dt) (mc ms : Nat) (av : List Value) (h : Hp) (Q : Pq) : Prop := Sp l D yX0_offer cX0_offer 8 (some .boolean) 2 44 mc ms av h Q
abbrev C_X0_take (X : Ctx) : Prop := Cx X RX0 cX0_take 5 (some .boolean) "take" 1 20
abbrev S_X0_take (l : Launch) (D : Dt) (mc ms : Nat) (av : List Value) (h : Hp) (Q : Pq) : Prop := Sp l D yX0_take cX0_take 5 (some .boolean) 1 20 mc ms av h Q
abbrev C_X1_init (X : Ctx) : Prop := Cx X RX1 cX1_init 1 none "<init>" 2 40
abbrev S_X1_init (l : Launch) (D : Dt) (mc ms : Nat) (av : List Value) (h : Hp) (Q : Pq) : Prop := Sp l D yX1_init cX1_init 1 none 2 40 mc ms av h Q
abbrev C_X1_look (X : Ctx) : Prop := Cx X RX1 cX1_look 5 none "look" 4 91
abbrev S_X1_look (l : Launch) (D : Dt) (mc ms : Nat) (av : List Value) (h : Hp) (Q : Pq) : Prop := Sp l D yX1_look cX1_look 5 none 4 91 mc ms av h Q
abbrev C_X1_tryNumber (X : Ctx) : Prop := Cx X RX1 cX1_tryNumber 6 none "tryNumber" 3 66
abbrev S_X1_tryNumber (l : Launch) (D : Dt) (mc ms : Nat) (av : List Value) (h : Hp) (Q : Pq) : Prop := Sp l D yX1_tryNumber cX1_tryNumber 6 none 3 66 mc ms av h Q
abbrev C_X2_init (X : Ctx) : Prop := Cx X RX2 cX2_init 1 none "<init>" 1 20
abbrev S_X2_init (l : Launch) (D : Dt) (mc ms : Nat) (av : List Value) (h : Hp) (Q : Pq) : Prop := Sp l D yX2_init cX2_init 1 none 1 20 mc ms av h Q
abbrev C_X2_put (X : Ctx) : Prop := Cx X RX2 cX2_put 7 none "put" 1 30
abbrev S_X2_put (l : Launch) (D : Dt) (mc ms : Nat) (av : List Value) (h : Hp) (Q : Pq) : Prop := Sp l D yX2_put cX2_put 7 none 1 30 mc ms av h Q
abbrev C_X2_copyFrom (X : Ctx) : Prop := Cx X RX2 cX2_copyFrom 2 none "copyFrom" 0 0
abbrev S_X2_copyFrom (l : Launch) (D : Dt) (mc ms : Nat) (av : List Value) (h : Hp) (Q : Pq) : Prop := Sp l D yX2_copyFrom cX2_copyFrom 2 none 0 0 mc ms av h Q
abbrev C_X3_init (X : Ctx) : Prop := Cx X RX3 cX3_init 1 none "<init>" 2 40
abbrev S_X3_init (l : Launch) (D : Dt) (mc ms : Nat) (av : List Value) (h : Hp) (Q : Pq) : Prop := Sp l D yX3_init cX3_init 1 none 2 40 mc ms av h Q
abbrev C_X3_look (X : Ctx) : Prop := Cx X RX3 cX3_look 3 none "look" 3 83
abbrev S_X3_look (l : Launch) (D : Dt) (mc ms : Nat) (av : List Value) (h : Hp) (Q : Pq) : Prop := Sp l D yX3_look cX3_look 3 none 3 83 mc ms av h Q
abbrev C_X3_holdsGap (X : Ctx) : Prop := Cx X RX3 cX3_holdsGap 2 (some .boolean) "holdsGap" 0 0
abbrev S_X3_holdsGap (l : Launch) (D : Dt) (mc ms : Nat) (av : List Value) (h : Hp) (Q : Pq) : Prop := Sp l D yX3_holdsGap cX3_holdsGap 2 (some .boolean) 0 0 mc ms av h Q
abbrev C_X3_tellExtreme (X : Ctx) : Prop := Cx X RX3 cX3_tellExtreme 5 none "tellExtreme" 2 64
abbrev S_X3_tellExtreme (l : Launch) (D : Dt) (mc ms : Nat) (av : List Value) (h : Hp) (Q : Pq) : Prop := Sp l D yX3_tellExtreme cX3_tellExtreme 5 none 2 64 mc ms av h Q
abbrev C_X4_init (X : Ctx) : Prop := Cx X RX4 cX4_init 1 none "<init>" 2 40
abbrev S_X4_init (l : Launch) (D : Dt) (mc ms : Nat) (av : List Value) (h : Hp) (Q : Pq) : Prop := Sp l D yX4_init cX4_init 1 none 2 40 mc ms av h Q
abbrev C_X4_fillAtFirst (X : Ctx) : Prop := Cx X RX4 cX4_fillAtFirst 2 none "fillAtFirst" 1 21
abbrev S_X4_fillAtFirst (l : Launch) (D : Dt) (mc ms : Nat) (av : List Value) (h : Hp) (Q : Pq) : Prop := Sp l D yX4_fillAtFirst cX4_fillAtFirst 2 none 1 21 mc ms av h Q
abbrev C_X4_copyFrom (X : Ctx) : Prop := Cx X RX4 cX4_copyFrom 2 none "copyFrom" 1 38
abbrev S_X4_copyFrom (l : Launch) (D : Dt) (mc ms : Nat) (av : List Value) (h : Hp) (Q : Pq) : Prop := Sp l D yX4_copyFrom cX4_copyFrom 2 none 1 38 mc ms av h Q
abbrev C_X4_dropPlates (X : Ctx) : Prop := Cx X RX4 cX4_dropPlates 1 none "dropPlates" 0 0
abbrev S_X4_dropPlates (l : Launch) (D : Dt) (mc ms : Nat) (av : List Value) (h : Hp) (Q : Pq) : Prop := Sp l D yX4_dropPlates cX4_dropPlates 1 none 0 0 mc ms av h Q
abbrev C_X4_addCircle (X : Ctx) : Prop := Cx X RX4 cX4_addCircle 2 none "addCircle" 0 0
abbrev S_X4_addCircle (l : Launch) (D : Dt) (mc ms : Nat) (av : List Value) (h : Hp) (Q : Pq) : Prop := Sp l D yX4_addCircle cX4_addCircle 2 none 0 0 mc ms av h Q
abbrev C_X4_addGear (X : Ctx) : Prop := Cx X RX4 cX4_addGear 2 none "addGear" 0 0
abbrev S_X4_addGear (l : Launch) (D : Dt) (mc ms : Nat) (av : List Value) (h : Hp) (Q : Pq) : Prop := Sp l D yX4_addGear cX4_addGear 2 none 0 0 mc ms av h Q
abbrev C_X4_atFirst (X : Ctx) : Prop := Cx X RX4 cX4_atFirst 1 none "atFirst" 3 77
abbrev S_X4_atFirst (l : Launch) (D : Dt) (mc ms : Nat) (av : List Value) (h : Hp) (Q : Pq) : Prop := Sp l D yX4_atFirst cX4_atFirst 1 none 3 77 mc ms av h Q
abbrev C_X4_isCircle (X : Ctx) : Prop := Cx X RX4 cX4_isCircle 2 (some .boolean) "isCircle" 0 0
abbrev S_X4_isCircle (l : Launch) (D : Dt) (mc ms : Nat) (av : List Value) (h : Hp) (Q : Pq) : Prop := Sp l D yX4_isCircle cX4_isCircle 2 (some .boolean) 0 0 mc ms av h Q
abbrev C_X4_isGear (X : Ctx) : Prop := Cx X RX4 cX4_isGear 2 (some .boolean) "isGear" 0 0
abbrev S_X4_isGear (l : Launch) (D : Dt) (mc ms : Nat) (av : List Value) (h : Hp) (Q : Pq) : Prop := Sp l D yX4_isGear cX4_isGear 2 (some .boolean) 0 0 mc ms av h Q
abbrev C_X4_isMark (X : Ctx) : Prop := Cx X RX4 cX4_isMark 2 (some .boolean) "isMark" 0 0
abbrev S_X4_isMark (l : Launch) (D : Dt) (mc ms : Nat) (av : List Value) (h : Hp) (Q : Pq) : Prop := Sp l D yX4_isMark cX4_isMark 2 (some .boolean) 0 0 mc ms av h Q
abbrev C_X4_holesOf (X : Ctx) : Prop := Cx X RX4 cX4_holesOf 2 (some .int) "holesOf" 1 21
abbrev S_X4_holesOf (l : Launch) (D : Dt) (mc ms : Nat) (av : List Value) (h : Hp) (Q : Pq) : Prop := Sp l D yX4_holesOf cX4_holesOf 2 (some .int) 1 21 mc ms av h Q
abbrev C_X4_plateOf (X : Ctx) : Prop := Cx X RX4 cX4_plateOf 2 (some .int) "plateOf" 1 21
abbrev S_X4_plateOf (l : Launch) (D : Dt) (mc ms : Nat) (av : List Value) (h : Hp) (Q : Pq) : Prop := Sp l D yX4_plateOf cX4_plateOf 2 (some .int) 1 21 mc ms av h Q
abbrev C_X4_teethOf (X : Ctx) : Prop := Cx X RX4 cX4_teethOf 2 (some .int) "teethOf" 1 21
abbrev S_X4_teethOf (l : Launch) (D : Dt) (mc ms : Nat) (av : List Value) (h : Hp) (Q : Pq) : Prop := Sp l D yX4_teethOf cX4_teethOf 2 (some .int) 1 21 mc ms av h Q
abbrev C_X4_markUp (X : Ctx) : Prop := Cx X RX4 cX4_markUp 2 (some .long) "markUp" 1 21
abbrev S_X4_markUp (l : Launch) (D : Dt) (mc ms : Nat) (av : List Value) (h : Hp) (Q : Pq) : Prop := Sp l D yX4_markUp cX4_markUp 2 (some .long) 1 21 mc ms av h Q
abbrev C_X4_markLow (X : Ctx) : Prop := Cx X RX4 cX4_markLow 2 (some .long) "markLow" 1 21
abbrev S_X4_markLow (l : Launch) (D : Dt) (mc ms : Nat) (av : List Value) (h : Hp) (Q : Pq) : Prop := Sp l D yX4_markLow cX4_markLow 2 (some .long) 1 21 mc ms av h Q
abbrev C_X4_setTo (X : Ctx) : Prop := Cx X RX4 cX4_setTo 5 (some .int) "setTo" 4 97
abbrev S_X4_setTo (l : Launch) (D : Dt) (mc ms : Nat) (av : List Value) (h : Hp) (Q : Pq) : Prop := Sp l D yX4_setTo cX4_setTo 5 (some .int) 4 97 mc ms av h Q
abbrev C_X4_choose (X : Ctx) : Prop := Cx X RX4 cX4_choose 3 (some .int) "choose" 1 21
abbrev S_X4_choose (l : Launch) (D : Dt) (mc ms : Nat) (av : List Value) (h : Hp) (Q : Pq) : Prop := Sp l D yX4_choose cX4_choose 3 (some .int) 1 21 mc ms av h Q
abbrev C_X4_putIn (X : Ctx) : Prop := Cx X RX4 cX4_putIn 7 (some .int) "putIn" 2 56
abbrev S_X4_putIn (l : Launch) (D : Dt) (mc ms : Nat) (av : List Value) (h : Hp) (Q : Pq) : Prop := Sp l D yX4_putIn cX4_putIn 7 (some .int) 2 56 mc ms av h Q
abbrev C_X4_isPair (X : Ctx) : Prop := Cx X RX4 cX4_isPair 3 (some .boolean) "isPair" 1 21
abbrev S_X4_isPair (l : Launch) (D : Dt) (mc ms : Nat) (av : List Value) (h : Hp) (Q : Pq) : Prop := Sp l D yX4_isPair cX4_isPair 3 (some .boolean) 1 21 mc ms av h Q
abbrev C_X4_takeOut (X : Ctx) : Prop := Cx X RX4 cX4_takeOut 2 (some .int) "takeOut" 2 56
abbrev S_X4_takeOut (l : Launch) (D : Dt) (mc ms : Nat) (av : List Value) (h : Hp) (Q : Pq) : Prop := Sp l D yX4_takeOut cX4_takeOut 2 (some .int) 2 56 mc ms av h Q
abbrev C_X4_wind (X : Ctx) : Prop := Cx X RX4 cX4_wind 11 (some .int) "wind" 3 81
abbrev S_X4_wind (l : Launch) (D : Dt) (mc ms : Nat) (av : List Value) (h : Hp) (Q : Pq) : Prop := Sp l D yX4_wind cX4_wind 11 (some .int) 3 81 mc ms av h Q
abbrev C_X4_stepOfHole (X : Ctx) : Prop := Cx X RX4 cX4_stepOfHole 6 none "stepOfHole" 2 56
abbrev S_X4_stepOfHole (l : Launch) (D : Dt) (mc ms : Nat) (av : List Value) (h : Hp) (Q : Pq) : Prop := Sp l D yX4_stepOfHole cX4_stepOfHole 6 none 2 56 mc ms av h Q
abbrev C_X4_scribe (X : Ctx) : Prop := Cx X RX4 cX4_scribe 3 (some .int) "scribe" 3 63
abbrev S_X4_scribe (l : Launch) (D : Dt) (mc ms : Nat) (av : List Value) (h : Hp) (Q : Pq) : Prop := Sp l D yX4_scribe cX4_scribe 3 (some .int) 3 63 mc ms av h Q
abbrev C_X4_compareMark (X : Ctx) : Prop := Cx X RX4 cX4_compareMark 2 (some .int) "compareMark" 2 42
abbrev S_X4_compareMark (l : Launch) (D : Dt) (mc ms : Nat) (av : List Value) (h : Hp) (Q : Pq) : Prop := Sp l D yX4_compareMark cX4_compareMark 2 (some .int) 2 42 mc ms av h Q
abbrev C_X4_wipeAll (X : Ctx) : Prop := Cx X RX4 cX4_wipeAll 2 (some .int) "wipeAll" 2 56
abbrev S_X4_wipeAll (l : Launch) (D : Dt) (mc ms : Nat) (av : List Value) (h : Hp) (Q : Pq) : Prop := Sp l D yX4_wipeAll cX4_wipeAll 2 (some .int) 2 56 mc ms av h Q
abbrev C_X4_gapBehind (X : Ctx) : Prop := Cx X RX4 cX4_gapBehind 8 none "gapBehind" 2 56
abbrev S_X4_gapBehind (l : Launch) (D : Dt) (mc ms : Nat) (av : List Value) (h : Hp) (Q : Pq) : Prop := Sp l D yX4_gapBehind cX4_gapBehind 8 none 2 56 mc ms av h Q
abbrev C_X4_wayToMark (X : Ctx) : Prop := Cx X RX4 cX4_wayToMark 7 none "wayToMark" 2 56
abbrev S_X4_wayToMark (l : Launch) (D : Dt) (mc ms : Nat) (av : List Value) (h : Hp) (Q : Pq) : Prop := Sp l D yX4_wayToMark cX4_wayToMark 7 none 2 56 mc ms av h Q
abbrev C_X5_init (X : Ctx) : Prop := Cx X RX5 cX5_init 1 none "<init>" 1 20
abbrev S_X5_init (l : Launch) (D : Dt) (mc ms : Nat) (av : List Value) (h : Hp) (Q : Pq) : Prop := Sp l D yX5_init cX5_init 1 none 1 20 mc ms av h Q
abbrev C_X5_fit (X : Ctx) : Prop := Cx X RX5 cX5_fit 4 none "fit" 3 79
abbrev S_X5_fit (l : Launch) (D : Dt) (mc ms : Nat) (av : List Value) (h : Hp) (Q : Pq) : Prop := Sp l D yX5_fit cX5_fit 4 none 3 79 mc ms av h Q
abbrev C_X5_tooth (X : Ctx) : Prop := Cx X RX5 cX5_tooth 2 (some .int) "tooth" 0 0
abbrev S_X5_tooth (l : Launch) (D : Dt) (mc ms : Nat) (av : List Value) (h : Hp) (Q : Pq) : Prop := Sp l D yX5_tooth cX5_tooth 2 (some .int) 0 0 mc ms av h Q
abbrev C_X5_addTwos (X : Ctx) : Prop := Cx X RX5 cX5_addTwos 3 none "addTwos" 2 55
abbrev S_X5_addTwos (l : Launch) (D : Dt) (mc ms : Nat) (av : List Value) (h : Hp) (Q : Pq) : Prop := Sp l D yX5_addTwos cX5_addTwos 3 none 2 55 mc ms av h Q
abbrev C_X5_addFours (X : Ctx) : Prop := Cx X RX5 cX5_addFours 5 none "addFours" 2 55
abbrev S_X5_addFours (l : Launch) (D : Dt) (mc ms : Nat) (av : List Value) (h : Hp) (Q : Pq) : Prop := Sp l D yX5_addFours cX5_addFours 5 none 2 55 mc ms av h Q
abbrev C_X5_pack (X : Ctx) : Prop := Cx X RX5 cX5_pack 4 (some .int) "pack" 0 0
abbrev S_X5_pack (l : Launch) (D : Dt) (mc ms : Nat) (av : List Value) (h : Hp) (Q : Pq) : Prop := Sp l D yX5_pack cX5_pack 4 (some .int) 0 0 mc ms av h Q
abbrev C_X5_add (X : Ctx) : Prop := Cx X RX5 cX5_add 6 none "add" 1 30
abbrev S_X5_add (l : Launch) (D : Dt) (mc ms : Nat) (av : List Value) (h : Hp) (Q : Pq) : Prop := Sp l D yX5_add cX5_add 6 none 1 30 mc ms av h Q
abbrev C_X5_slotOf (X : Ctx) : Prop := Cx X RX5 cX5_slotOf 6 (some .int) "slotOf" 0 0
abbrev S_X5_slotOf (l : Launch) (D : Dt) (mc ms : Nat) (av : List Value) (h : Hp) (Q : Pq) : Prop := Sp l D yX5_slotOf cX5_slotOf 6 (some .int) 0 0 mc ms av h Q
abbrev C_X5_find (X : Ctx) : Prop := Cx X RX5 cX5_find 8 (some .int) "find" 1 30
abbrev S_X5_find (l : Launch) (D : Dt) (mc ms : Nat) (av : List Value) (h : Hp) (Q : Pq) : Prop := Sp l D yX5_find cX5_find 8 (some .int) 1 30 mc ms av h Q
abbrev C_X5_up (X : Ctx) : Prop := Cx X RX5 cX5_up 2 (some .int) "up" 0 0
abbrev S_X5_up (l : Launch) (D : Dt) (mc ms : Nat) (av : List Value) (h : Hp) (Q : Pq) : Prop := Sp l D yX5_up cX5_up 2 (some .int) 0 0 mc ms av h Q
abbrev C_X5_low (X : Ctx) : Prop := Cx X RX5 cX5_low 2 (some .int) "low" 0 0
abbrev S_X5_low (l : Launch) (D : Dt) (mc ms : Nat) (av : List Value) (h : Hp) (Q : Pq) : Prop := Sp l D yX5_low cX5_low 2 (some .int) 0 0 mc ms av h Q
abbrev C_X5_wheel (X : Ctx) : Prop := Cx X RX5 cX5_wheel 4 (some .int) "wheel" 0 0
abbrev S_X5_wheel (l : Launch) (D : Dt) (mc ms : Nat) (av : List Value) (h : Hp) (Q : Pq) : Prop := Sp l D yX5_wheel cX5_wheel 4 (some .int) 0 0 mc ms av h Q
abbrev C_X5_wheelTotal (X : Ctx) : Prop := Cx X RX5 cX5_wheelTotal 2 (some .int) "wheelTotal" 1 23
abbrev S_X5_wheelTotal (l : Launch) (D : Dt) (mc ms : Nat) (av : List Value) (h : Hp) (Q : Pq) : Prop := Sp l D yX5_wheelTotal cX5_wheelTotal 2 (some .int) 1 23 mc ms av h Q
abbrev C_X5_upper (X : Ctx) : Prop := Cx X RX5 cX5_upper 4 (some .long) "upper" 1 21
abbrev S_X5_upper (l : Launch) (D : Dt) (mc ms : Nat) (av : List Value) (h : Hp) (Q : Pq) : Prop := Sp l D yX5_upper cX5_upper 4 (some .long) 1 21 mc ms av h Q
abbrev C_X5_lower (X : Ctx) : Prop := Cx X RX5 cX5_lower 4 (some .long) "lower" 1 21
abbrev S_X5_lower (l : Launch) (D : Dt) (mc ms : Nat) (av : List Value) (h : Hp) (Q : Pq) : Prop := Sp l D yX5_lower cX5_lower 4 (some .long) 1 21 mc ms av h Q
abbrev C_X5_closest (X : Ctx) : Prop := Cx X RX5 cX5_closest 23 (some .int) "closest" 2 44
abbrev S_X5_closest (l : Launch) (D : Dt) (mc ms : Nat) (av : List Value) (h : Hp) (Q : Pq) : Prop := Sp l D yX5_closest cX5_closest 23 (some .int) 2 44 mc ms av h Q
abbrev C_X5_extreme (X : Ctx) : Prop := Cx X RX5 cX5_extreme 5 (some .int) "extreme" 1 21
abbrev S_X5_extreme (l : Launch) (D : Dt) (mc ms : Nat) (av : List Value) (h : Hp) (Q : Pq) : Prop := Sp l D yX5_extreme cX5_extreme 5 (some .int) 1 21 mc ms av h Q
abbrev C_X6_init (X : Ctx) : Prop := Cx X RX6 cX6_init 1 none "<init>" 1 20
abbrev S_X6_init (l : Launch) (D : Dt) (mc ms : Nat) (av : List Value) (h : Hp) (Q : Pq) : Prop := Sp l D yX6_init cX6_init 1 none 1 20 mc ms av h Q
abbrev C_X6_look (X : Ctx) : Prop := Cx X RX6 cX6_look 5 none "look" 2 42
abbrev S_X6_look (l : Launch) (D : Dt) (mc ms : Nat) (av : List Value) (h : Hp) (Q : Pq) : Prop := Sp l D yX6_look cX6_look 5 none 2 42 mc ms av h Q
abbrev C_X7_init (X : Ctx) : Prop := Cx X RX7 cX7_init 1 none "<init>" 1 20
abbrev S_X7_init (l : Launch) (D : Dt) (mc ms : Nat) (av : List Value) (h : Hp) (Q : Pq) : Prop := Sp l D yX7_init cX7_init 1 none 1 20 mc ms av h Q
abbrev C_X7_addFour (X : Ctx) : Prop := Cx X RX7 cX7_addFour 3 (some .boolean) "addFour" 0 0
abbrev S_X7_addFour (l : Launch) (D : Dt) (mc ms : Nat) (av : List Value) (h : Hp) (Q : Pq) : Prop := Sp l D yX7_addFour cX7_addFour 3 (some .boolean) 0 0 mc ms av h Q
abbrev C_X7_at (X : Ctx) : Prop := Cx X RX7 cX7_at 2 (some .int) "at" 0 0
abbrev S_X7_at (l : Launch) (D : Dt) (mc ms : Nat) (av : List Value) (h : Hp) (Q : Pq) : Prop := Sp l D yX7_at cX7_at 2 (some .int) 0 0 mc ms av h Q
abbrev C_X7_isDigit (X : Ctx) : Prop := Cx X RX7 cX7_isDigit 2 (some .boolean) "isDigit" 1 21
abbrev S_X7_isDigit (l : Launch) (D : Dt) (mc ms : Nat) (av : List Value) (h : Hp) (Q : Pq) : Prop := Sp l D yX7_isDigit cX7_isDigit 2 (some .boolean) 1 21 mc ms av h Q
abbrev C_X7_firstNoDigit (X : Ctx) : Prop := Cx X RX7 cX7_firstNoDigit 4 (some .int) "firstNoDigit" 2 42
abbrev S_X7_firstNoDigit (l : Launch) (D : Dt) (mc ms : Nat) (av : List Value) (h : Hp) (Q : Pq) : Prop := Sp l D yX7_firstNoDigit cX7_firstNoDigit 4 (some .int) 2 42 mc ms av h Q
abbrev C_X7_number (X : Ctx) : Prop := Cx X RX7 cX7_number 5 (some .int) "number" 1 21
abbrev S_X7_number (l : Launch) (D : Dt) (mc ms : Nat) (av : List Value) (h : Hp) (Q : Pq) : Prop := Sp l D yX7_number cX7_number 5 (some .int) 1 21 mc ms av h Q
abbrev C_X8_init (X : Ctx) : Prop := Cx X RX8 cX8_init 1 none "<init>" 1 20
abbrev S_X8_init (l : Launch) (D : Dt) (mc ms : Nat) (av : List Value) (h : Hp) (Q : Pq) : Prop := Sp l D yX8_init cX8_init 1 none 1 20 mc ms av h Q
abbrev C_X8_clear (X : Ctx) : Prop := Cx X RX8 cX8_clear 1 none "clear" 0 0
abbrev S_X8_clear (l : Launch) (D : Dt) (mc ms : Nat) (av : List Value) (h : Hp) (Q : Pq) : Prop := Sp l D yX8_clear cX8_clear 1 none 0 0 mc ms av h Q
abbrev C_X8_add (X : Ctx) : Prop := Cx X RX8 cX8_add 3 none "add" 0 0
abbrev S_X8_add (l : Launch) (D : Dt) (mc ms : Nat) (av : List Value) (h : Hp) (Q : Pq) : Prop := Sp l D yX8_add cX8_add 3 none 0 0 mc ms av h Q
abbrev C_X8_addFraction (X : Ctx) : Prop := Cx X RX8 cX8_addFraction 2 none "addFraction" 1 22
abbrev S_X8_addFraction (l : Launch) (D : Dt) (mc ms : Nat) (av : List Value) (h : Hp) (Q : Pq) : Prop := Sp l D yX8_addFraction cX8_addFraction 2 none 1 22 mc ms av h Q
abbrev C_X8_number (X : Ctx) : Prop := Cx X RX8 cX8_number 2 (some .long) "number" 0 0
abbrev S_X8_number (l : Launch) (D : Dt) (mc ms : Nat) (av : List Value) (h : Hp) (Q : Pq) : Prop := Sp l D yX8_number cX8_number 2 (some .long) 0 0 mc ms av h Q
abbrev C_X9_init (X : Ctx) : Prop := Cx X RX9 cX9_init 1 none "<init>" 3 60
abbrev S_X9_init (l : Launch) (D : Dt) (mc ms : Nat) (av : List Value) (h : Hp) (Q : Pq) : Prop := Sp l D yX9_init cX9_init 1 none 3 60 mc ms av h Q
abbrev C_X9_sign (X : Ctx) : Prop := Cx X RX9 cX9_sign 2 (some .int) "sign" 1 22
abbrev S_X9_sign (l : Launch) (D : Dt) (mc ms : Nat) (av : List Value) (h : Hp) (Q : Pq) : Prop := Sp l D yX9_sign cX9_sign 2 (some .int) 1 22 mc ms av h Q
abbrev C_X9_end (X : Ctx) : Prop := Cx X RX9 cX9_end 2 (some .boolean) "end" 0 0
abbrev S_X9_end (l : Launch) (D : Dt) (mc ms : Nat) (av : List Value) (h : Hp) (Q : Pq) : Prop := Sp l D yX9_end cX9_end 2 (some .boolean) 0 0 mc ms av h Q
abbrev C_X9_plates (X : Ctx) : Prop := Cx X RX9 cX9_plates 2 (some .int) "plates" 5 123
abbrev S_X9_plates (l : Launch) (D : Dt) (mc ms : Nat) (av : List Value) (h : Hp) (Q : Pq) : Prop := Sp l D yX9_plates cX9_plates 2 (some .int) 5 123 mc ms av h Q
abbrev C_X9_gears (X : Ctx) : Prop := Cx X RX9 cX9_gears 2 (some .int) "gears" 5 122
abbrev S_X9_gears (l : Launch) (D : Dt) (mc ms : Nat) (av : List Value) (h : Hp) (Q : Pq) : Prop := Sp l D yX9_gears cX9_gears 2 (some .int) 5 122 mc ms av h Q
abbrev C_X9_readPlates (X : Ctx) : Prop := Cx X RX9 cX9_readPlates 7 (some .int) "readPlates" 4 97
abbrev S_X9_readPlates (l : Launch) (D : Dt) (mc ms : Nat) (av : List Value) (h : Hp) (Q : Pq) : Prop := Sp l D yX9_readPlates cX9_readPlates 7 (some .int) 4 97 mc ms av h Q
abbrev C_X9_readGears (X : Ctx) : Prop := Cx X RX9 cX9_readGears 6 (some .int) "readGears" 4 97
abbrev S_X9_readGears (l : Launch) (D : Dt) (mc ms : Nat) (av : List Value) (h : Hp) (Q : Pq) : Prop := Sp l D yX9_readGears cX9_readGears 6 (some .int) 4 97 mc ms av h Q
abbrev C_X9_sets (X : Ctx) : Prop := Cx X RX9 cX9_sets 3 (some .int) "sets" 5 121
abbrev S_X9_sets (l : Launch) (D : Dt) (mc ms : Nat) (av : List Value) (h : Hp) (Q : Pq) : Prop := Sp l D yX9_sets cX9_sets 3 (some .int) 5 121 mc ms av h Q
abbrev C_X9_circle (X : Ctx) : Prop := Cx X RX9 cX9_circle 2 (some .int) "circle" 2 42
abbrev S_X9_circle (l : Launch) (D : Dt) (mc ms : Nat) (av : List Value) (h : Hp) (Q : Pq) : Prop := Sp l D yX9_circle cX9_circle 2 (some .int) 2 42 mc ms av h Q
abbrev C_X9_gear (X : Ctx) : Prop := Cx X RX9 cX9_gear 2 (some .int) "gear" 2 42
abbrev S_X9_gear (l : Launch) (D : Dt) (mc ms : Nat) (av : List Value) (h : Hp) (Q : Pq) : Prop := Sp l D yX9_gear cX9_gear 2 (some .int) 2 42 mc ms av h Q
abbrev C_X9_simple (X : Ctx) : Prop := Cx X RX9 cX9_simple 2 (some .int) "simple" 3 66
abbrev S_X9_simple (l : Launch) (D : Dt) (mc ms : Nat) (av : List Value) (h : Hp) (Q : Pq) : Prop := Sp l D yX9_simple cX9_simple 2 (some .int) 3 66 mc ms av h Q
abbrev C_X9_compound (X : Ctx) : Prop := Cx X RX9 cX9_compound 2 (some .int) "compound" 5 126
abbrev S_X9_compound (l : Launch) (D : Dt) (mc ms : Nat) (av : List Value) (h : Hp) (Q : Pq) : Prop := Sp l D yX9_compound cX9_compound 2 (some .int) 5 126 mc ms av h Q
abbrev C_X9_differential (X : Ctx) : Prop := Cx X RX9 cX9_differential 4 (some .int) "differential" 5 122
abbrev S_X9_differential (l : Launch) (D : Dt) (mc ms : Nat) (av : List Value) (h : Hp) (Q : Pq) : Prop := Sp l D yX9_differential cX9_differential 4 (some .int) 5 122 mc ms av h Q
abbrev C_X9_ways (X : Ctx) : Prop := Cx X RX9 cX9_ways 4 (some .int) "ways" 6 148
abbrev S_X9_ways (l : Launch) (D : Dt) (mc ms : Nat) (av : List Value) (h : Hp) (Q : Pq) : Prop := Sp l D yX9_ways cX9_ways 4 (some .int) 6 148 mc ms av h Q
abbrev C_X9_hard (X : Ctx) : Prop := Cx X RX9 cX9_hard 11 (some .int) "hard" 6 148
abbrev S_X9_hard (l : Launch) (D : Dt) (mc ms : Nat) (av : List Value) (h : Hp) (Q : Pq) : Prop := Sp l D yX9_hard cX9_hard 11 (some .int) 6 148 mc ms av h Q
abbrev C_X9_isParts (X : Ctx) : Prop := Cx X RX9 cX9_isParts 1 (some .boolean) "isParts" 0 0
abbrev S_X9_isParts (l : Launch) (D : Dt) (mc ms : Nat) (av : List Value) (h : Hp) (Q : Pq) : Prop := Sp l D yX9_isParts cX9_isParts 1 (some .boolean) 0 0 mc ms av h Q
abbrev C_X9_hasWay (X : Ctx) : Prop := Cx X RX9 cX9_hasWay 3 (some .boolean) "hasWay" 5 126
abbrev S_X9_hasWay (l : Launch) (D : Dt) (mc ms : Nat) (av : List Value) (h : Hp) (Q : Pq) : Prop := Sp l D yX9_hasWay cX9_hasWay 3 (some .boolean) 5 126 mc ms av h Q
abbrev C_X9_fittedShelf (X : Ctx) : Prop := Cx X RX9 cX9_fittedShelf 1 (some (.object "DividingHead$Shelf")) "fittedShelf" 4 102
abbrev S_X9_fittedShelf (l : Launch) (D : Dt) (mc ms : Nat) (av : List Value) (h : Hp) (Q : Pq) : Prop := Sp l D yX9_fittedShelf cX9_fittedShelf 1 (some (.object "DividingHead$Shelf")) 4 102 mc ms av h Q
abbrev C_X9_train (X : Ctx) : Prop := Cx X RX9 cX9_train 5 (some .int) "train" 5 122
abbrev S_X9_train (l : Launch) (D : Dt) (mc ms : Nat) (av : List Value) (h : Hp) (Q : Pq) : Prop := Sp l D yX9_train cX9_train 5 (some .int) 5 122 mc ms av h Q
abbrev C_X9_nearest (X : Ctx) : Prop := Cx X RX9 cX9_nearest 3 (some .int) "nearest" 6 151
abbrev S_X9_nearest (l : Launch) (D : Dt) (mc ms : Nat) (av : List Value) (h : Hp) (Q : Pq) : Prop := Sp l D yX9_nearest cX9_nearest 3 (some .int) 6 151 mc ms av h Q
abbrev C_X9_ratios (X : Ctx) : Prop := Cx X RX9 cX9_ratios 4 (some .int) "ratios" 5 122
abbrev S_X9_ratios (l : Launch) (D : Dt) (mc ms : Nat) (av : List Value) (h : Hp) (Q : Pq) : Prop := Sp l D yX9_ratios cX9_ratios 4 (some .int) 5 122 mc ms av h Q
abbrev C_X9_lead (X : Ctx) : Prop := Cx X RX9 cX9_lead 2 (some .int) "lead" 6 151
abbrev S_X9_lead (l : Launch) (D : Dt) (mc ms : Nat) (av : List Value) (h : Hp) (Q : Pq) : Prop := Sp l D yX9_lead cX9_lead 2 (some .int) 6 151 mc ms av h Q
abbrev C_X9_tellClosest (X : Ctx) : Prop := Cx X RX9 cX9_tellClosest 10 (some .int) "tellClosest" 5 122
abbrev S_X9_tellClosest (l : Launch) (D : Dt) (mc ms : Nat) (av : List Value) (h : Hp) (Q : Pq) : Prop := Sp l D yX9_tellClosest cX9_tellClosest 10 (some .int) 5 122 mc ms av h Q
abbrev C_X9_tellWheels (X : Ctx) : Prop := Cx X RX9 cX9_tellWheels 5 (some .int) "tellWheels" 2 44
abbrev S_X9_tellWheels (l : Launch) (D : Dt) (mc ms : Nat) (av : List Value) (h : Hp) (Q : Pq) : Prop := Sp l D yX9_tellWheels cX9_tellWheels 5 (some .int) 2 44 mc ms av h Q
abbrev C_X9_near (X : Ctx) : Prop := Cx X RX9 cX9_near 4 (some .int) "near" 3 97
abbrev S_X9_near (l : Launch) (D : Dt) (mc ms : Nat) (av : List Value) (h : Hp) (Q : Pq) : Prop := Sp l D yX9_near cX9_near 4 (some .int) 3 97 mc ms av h Q
abbrev C_X9_findNear (X : Ctx) : Prop := Cx X RX9 cX9_findNear 22 none "findNear" 2 56
abbrev S_X9_findNear (l : Launch) (D : Dt) (mc ms : Nat) (av : List Value) (h : Hp) (Q : Pq) : Prop := Sp l D yX9_findNear cX9_findNear 22 none 2 56 mc ms av h Q
abbrev C_X9_treeSteps (X : Ctx) : Prop := Cx X RX9 cX9_treeSteps 13 (some .int) "treeSteps" 0 0
abbrev S_X9_treeSteps (l : Launch) (D : Dt) (mc ms : Nat) (av : List Value) (h : Hp) (Q : Pq) : Prop := Sp l D yX9_treeSteps cX9_treeSteps 13 (some .int) 0 0 mc ms av h Q
abbrev C_X9_tree (X : Ctx) : Prop := Cx X RX9 cX9_tree 9 (some .int) "tree" 2 56
abbrev S_X9_tree (l : Launch) (D : Dt) (mc ms : Nat) (av : List Value) (h : Hp) (Q : Pq) : Prop := Sp l D yX9_tree cX9_tree 9 (some .int) 2 56 mc ms av h Q
abbrev C_X9_angle (X : Ctx) : Prop := Cx X RX9 cX9_angle 20 (some .int) "angle" 3 66
abbrev S_X9_angle (l : Launch) (D : Dt) (mc ms : Nat) (av : List Value) (h : Hp) (Q : Pq) : Prop := Sp l D yX9_angle cX9_angle 20 (some .int) 3 66 mc ms av h Q
abbrev C_X9_tellAngle (X : Ctx) : Prop := Cx X RX9 cX9_tellAngle 5 none "tellAngle" 2 42
abbrev S_X9_tellAngle (l : Launch) (D : Dt) (mc ms : Nat) (av : List Value) (h : Hp) (Q : Pq) : Prop := Sp l D yX9_tellAngle cX9_tellAngle 5 none 2 42 mc ms av h Q
abbrev C_X9_uses (X : Ctx) : Prop := Cx X RX9 cX9_uses 2 (some .int) "uses" 4 83
abbrev S_X9_uses (l : Launch) (D : Dt) (mc ms : Nat) (av : List Value) (h : Hp) (Q : Pq) : Prop := Sp l D yX9_uses cX9_uses 2 (some .int) 4 83 mc ms av h Q
abbrev C_X9_geared (X : Ctx) : Prop := Cx X RX9 cX9_geared 7 (some .int) "geared" 4 83
abbrev S_X9_geared (l : Launch) (D : Dt) (mc ms : Nat) (av : List Value) (h : Hp) (Q : Pq) : Prop := Sp l D yX9_geared cX9_geared 7 (some .int) 4 83 mc ms av h Q
abbrev C_X9_ungeared (X : Ctx) : Prop := Cx X RX9 cX9_ungeared 1 (some .int) "ungeared" 4 83
abbrev S_X9_ungeared (l : Launch) (D : Dt) (mc ms : Nat) (av : List Value) (h : Hp) (Q : Pq) : Prop := Sp l D yX9_ungeared cX9_ungeared 1 (some .int) 4 83 mc ms av h Q
abbrev C_X9_cranks (X : Ctx) : Prop := Cx X RX9 cX9_cranks 5 (some .int) "cranks" 4 111
abbrev S_X9_cranks (l : Launch) (D : Dt) (mc ms : Nat) (av : List Value) (h : Hp) (Q : Pq) : Prop := Sp l D yX9_cranks cX9_cranks 5 (some .int) 4 111 mc ms av h Q
abbrev C_X9_cuts (X : Ctx) : Prop := Cx X RX9 cX9_cuts 1 (some .int) "cuts" 4 85
abbrev S_X9_cuts (l : Launch) (D : Dt) (mc ms : Nat) (av : List Value) (h : Hp) (Q : Pq) : Prop := Sp l D yX9_cuts cX9_cuts 1 (some .int) 4 85 mc ms av h Q
abbrev C_X9_wipes (X : Ctx) : Prop := Cx X RX9 cX9_wipes 1 (some .int) "wipes" 4 83
abbrev S_X9_wipes (l : Launch) (D : Dt) (mc ms : Nat) (av : List Value) (h : Hp) (Q : Pq) : Prop := Sp l D yX9_wipes cX9_wipes 1 (some .int) 4 83 mc ms av h Q
abbrev C_X9_divides (X : Ctx) : Prop := Cx X RX9 cX9_divides 4 (some .int) "divides" 6 148
abbrev S_X9_divides (l : Launch) (D : Dt) (mc ms : Nat) (av : List Value) (h : Hp) (Q : Pq) : Prop := Sp l D yX9_divides cX9_divides 4 (some .int) 6 148 mc ms av h Q
abbrev C_X9_putInDifferential (X : Ctx) : Prop := Cx X RX9 cX9_putInDifferential 3 none "putInDifferential" 5 122
abbrev S_X9_putInDifferential (l : Launch) (D : Dt) (mc ms : Nat) (av : List Value) (h : Hp) (Q : Pq) : Prop := Sp l D yX9_putInDifferential cX9_putInDifferential 3 none 5 122 mc ms av h Q
abbrev C_X9_windWay (X : Ctx) : Prop := Cx X RX9 cX9_windWay 3 none "windWay" 4 111
abbrev S_X9_windWay (l : Launch) (D : Dt) (mc ms : Nat) (av : List Value) (h : Hp) (Q : Pq) : Prop := Sp l D yX9_windWay cX9_windWay 3 none 4 111 mc ms av h Q
abbrev C_X9_mark (X : Ctx) : Prop := Cx X RX9 cX9_mark 2 (some .int) "mark" 3 83
abbrev S_X9_mark (l : Launch) (D : Dt) (mc ms : Nat) (av : List Value) (h : Hp) (Q : Pq) : Prop := Sp l D yX9_mark cX9_mark 2 (some .int) 3 83 mc ms av h Q
abbrev C_X9_gaps (X : Ctx) : Prop := Cx X RX9 cX9_gaps 1 (some .int) "gaps" 4 105
abbrev S_X9_gaps (l : Launch) (D : Dt) (mc ms : Nat) (av : List Value) (h : Hp) (Q : Pq) : Prop := Sp l D yX9_gaps cX9_gaps 1 (some .int) 4 105 mc ms av h Q
abbrev C_X9_missing (X : Ctx) : Prop := Cx X RX9 cX9_missing 7 (some .int) "missing" 2 42
abbrev S_X9_missing (l : Launch) (D : Dt) (mc ms : Nat) (av : List Value) (h : Hp) (Q : Pq) : Prop := Sp l D yX9_missing cX9_missing 7 (some .int) 2 42 mc ms av h Q
abbrev C_X9_reaches (X : Ctx) : Prop := Cx X RX9 cX9_reaches 11 (some .int) "reaches" 3 82
abbrev S_X9_reaches (l : Launch) (D : Dt) (mc ms : Nat) (av : List Value) (h : Hp) (Q : Pq) : Prop := Sp l D yX9_reaches cX9_reaches 11 (some .int) 3 82 mc ms av h Q
abbrev C_X9_day (X : Ctx) : Prop := Cx X RX9 cX9_day 6 (some .int) "day" 5 132
abbrev S_X9_day (l : Launch) (D : Dt) (mc ms : Nat) (av : List Value) (h : Hp) (Q : Pq) : Prop := Sp l D yX9_day cX9_day 6 (some .int) 5 132 mc ms av h Q
abbrev C_X9_firstWrongOfDay (X : Ctx) : Prop := Cx X RX9 cX9_firstWrongOfDay 7 (some .int) "firstWrongOfDay" 3 65
abbrev S_X9_firstWrongOfDay (l : Launch) (D : Dt) (mc ms : Nat) (av : List Value) (h : Hp) (Q : Pq) : Prop := Sp l D yX9_firstWrongOfDay cX9_firstWrongOfDay 7 (some .int) 3 65 mc ms av h Q
abbrev C_X9_lengthOfAct (X : Ctx) : Prop := Cx X RX9 cX9_lengthOfAct 1 (some .int) "lengthOfAct" 0 0
abbrev S_X9_lengthOfAct (l : Launch) (D : Dt) (mc ms : Nat) (av : List Value) (h : Hp) (Q : Pq) : Prop := Sp l D yX9_lengthOfAct cX9_lengthOfAct 1 (some .int) 0 0 mc ms av h Q
abbrev C_X9_doAct (X : Ctx) : Prop := Cx X RX9 cX9_doAct 2 (some .int) "doAct" 4 111
abbrev S_X9_doAct (l : Launch) (D : Dt) (mc ms : Nat) (av : List Value) (h : Hp) (Q : Pq) : Prop := Sp l D yX9_doAct cX9_doAct 2 (some .int) 4 111 mc ms av h Q
abbrev C_X9_undo (X : Ctx) : Prop := Cx X RX9 cX9_undo 2 (some .int) "undo" 0 0
abbrev S_X9_undo (l : Launch) (D : Dt) (mc ms : Nat) (av : List Value) (h : Hp) (Q : Pq) : Prop := Sp l D yX9_undo cX9_undo 2 (some .int) 0 0 mc ms av h Q
abbrev C_X9_adopt (X : Ctx) : Prop := Cx X RX9 cX9_adopt 4 (some .int) "adopt" 3 60
abbrev S_X9_adopt (l : Launch) (D : Dt) (mc ms : Nat) (av : List Value) (h : Hp) (Q : Pq) : Prop := Sp l D yX9_adopt cX9_adopt 4 (some .int) 3 60 mc ms av h Q
abbrev C_X9_years (X : Ctx) : Prop := Cx X RX9 cX9_years 6 (some .int) "years" 4 111
abbrev S_X9_years (l : Launch) (D : Dt) (mc ms : Nat) (av : List Value) (h : Hp) (Q : Pq) : Prop := Sp l D yX9_years cX9_years 6 (some .int) 4 111 mc ms av h Q
abbrev C_X9_draw (X : Ctx) : Prop := Cx X RX9 cX9_draw 2 (some .int) "draw" 0 0
abbrev S_X9_draw (l : Launch) (D : Dt) (mc ms : Nat) (av : List Value) (h : Hp) (Q : Pq) : Prop := Sp l D yX9_draw cX9_draw 2 (some .int) 0 0 mc ms av h Q
abbrev C_X9_keep (X : Ctx) : Prop := Cx X RX9 cX9_keep 3 (some .boolean) "keep" 3 60
abbrev S_X9_keep (l : Launch) (D : Dt) (mc ms : Nat) (av : List Value) (h : Hp) (Q : Pq) : Prop := Sp l D yX9_keep cX9_keep 3 (some .boolean) 3 60 mc ms av h Q
abbrev C_X9_again (X : Ctx) : Prop := Cx X RX9 cX9_again 3 (some .boolean) "again" 2 59
abbrev S_X9_again (l : Launch) (D : Dt) (mc ms : Nat) (av : List Value) (h : Hp) (Q : Pq) : Prop := Sp l D yX9_again cX9_again 3 (some .boolean) 2 59 mc ms av h Q
abbrev C_X9_count (X : Ctx) : Prop := Cx X RX9 cX9_count 2 (some .int) "count" 0 0
abbrev S_X9_count (l : Launch) (D : Dt) (mc ms : Nat) (av : List Value) (h : Hp) (Q : Pq) : Prop := Sp l D yX9_count cX9_count 2 (some .int) 0 0 mc ms av h Q
abbrev C_X9_row (X : Ctx) : Prop := Cx X RX9 cX9_row 2 (some .long) "row" 1 21
abbrev S_X9_row (l : Launch) (D : Dt) (mc ms : Nat) (av : List Value) (h : Hp) (Q : Pq) : Prop := Sp l D yX9_row cX9_row 2 (some .long) 1 21 mc ms av h Q
abbrev C_X9_isBetween (X : Ctx) : Prop := Cx X RX9 cX9_isBetween 3 (some .boolean) "isBetween" 0 0
abbrev S_X9_isBetween (l : Launch) (D : Dt) (mc ms : Nat) (av : List Value) (h : Hp) (Q : Pq) : Prop := Sp l D yX9_isBetween cX9_isBetween 3 (some .boolean) 0 0 mc ms av h Q
abbrev C_X9_common (X : Ctx) : Prop := Cx X RX9 cX9_common 11 (some .long) "common" 0 0
abbrev S_X9_common (l : Launch) (D : Dt) (mc ms : Nat) (av : List Value) (h : Hp) (Q : Pq) : Prop := Sp l D yX9_common cX9_common 11 (some .long) 0 0 mc ms av h Q
abbrev C_X9_compareFractions (X : Ctx) : Prop := Cx X RX9 cX9_compareFractions 22 (some .int) "compareFractions" 1 23
abbrev S_X9_compareFractions (l : Launch) (D : Dt) (mc ms : Nat) (av : List Value) (h : Hp) (Q : Pq) : Prop := Sp l D yX9_compareFractions cX9_compareFractions 22 (some .int) 1 23 mc ms av h Q
abbrev C_X9_inverse (X : Ctx) : Prop := Cx X RX9 cX9_inverse 19 (some .long) "inverse" 1 25
abbrev S_X9_inverse (l : Launch) (D : Dt) (mc ms : Nat) (av : List Value) (h : Hp) (Q : Pq) : Prop := Sp l D yX9_inverse cX9_inverse 19 (some .long) 1 25 mc ms av h Q
abbrev C_X10_thrown (X : Ctx) : Prop := Cx X RX10 cX10_thrown 1 (some .int) "thrown" 0 0
abbrev S_X10_thrown (l : Launch) (D : Dt) (mc ms : Nat) (av : List Value) (h : Hp) (Q : Pq) : Prop := Sp l D yX10_thrown cX10_thrown 1 (some .int) 0 0 mc ms av h Q
abbrev C_X10_in (X : Ctx) : Prop := Cx X RX10 cX10_in 6 (some .boolean) "in" 0 0
abbrev S_X10_in (l : Launch) (D : Dt) (mc ms : Nat) (av : List Value) (h : Hp) (Q : Pq) : Prop := Sp l D yX10_in cX10_in 6 (some .boolean) 0 0 mc ms av h Q
abbrev C_X10_flag (X : Ctx) : Prop := Cx X RX10 cX10_flag 1 (some .int) "flag" 0 0
abbrev S_X10_flag (l : Launch) (D : Dt) (mc ms : Nat) (av : List Value) (h : Hp) (Q : Pq) : Prop := Sp l D yX10_flag cX10_flag 1 (some .int) 0 0 mc ms av h Q
abbrev C_X10_common (X : Ctx) : Prop := Cx X RX10 cX10_common 10 (some .long) "common" 0 0
abbrev S_X10_common (l : Launch) (D : Dt) (mc ms : Nat) (av : List Value) (h : Hp) (Q : Pq) : Prop := Sp l D yX10_common cX10_common 10 (some .long) 0 0 mc ms av h Q
abbrev C_X10_enters (X : Ctx) : Prop := Cx X RX10 cX10_enters 3 none "enters" 0 0
abbrev S_X10_enters (l : Launch) (D : Dt) (mc ms : Nat) (av : List Value) (h : Hp) (Q : Pq) : Prop := Sp l D yX10_enters cX10_enters 3 none 0 0 mc ms av h Q
abbrev C_X10_entersPart (X : Ctx) : Prop := Cx X RX10 cX10_entersPart 7 none "entersPart" 1 29
abbrev S_X10_entersPart (l : Launch) (D : Dt) (mc ms : Nat) (av : List Value) (h : Hp) (Q : Pq) : Prop := Sp l D yX10_entersPart cX10_entersPart 7 none 1 29 mc ms av h Q
abbrev C_X10_sign (X : Ctx) : Prop := Cx X RX10 cX10_sign 3 (some .int) "sign" 0 0
abbrev S_X10_sign (l : Launch) (D : Dt) (mc ms : Nat) (av : List Value) (h : Hp) (Q : Pq) : Prop := Sp l D yX10_sign cX10_sign 3 (some .int) 0 0 mc ms av h Q
abbrev C_X10_end (X : Ctx) : Prop := Cx X RX10 cX10_end 2 (some .boolean) "end" 1 25
abbrev S_X10_end (l : Launch) (D : Dt) (mc ms : Nat) (av : List Value) (h : Hp) (Q : Pq) : Prop := Sp l D yX10_end cX10_end 2 (some .boolean) 1 25 mc ms av h Q
abbrev C_X10_reads (X : Ctx) : Prop := Cx X RX10 cX10_reads 1 none "reads" 0 0
abbrev S_X10_reads (l : Launch) (D : Dt) (mc ms : Nat) (av : List Value) (h : Hp) (Q : Pq) : Prop := Sp l D yX10_reads cX10_reads 1 none 0 0 mc ms av h Q
abbrev C_X10_takes (X : Ctx) : Prop := Cx X RX10 cX10_takes 3 (some .boolean) "takes" 1 20
abbrev S_X10_takes (l : Launch) (D : Dt) (mc ms : Nat) (av : List Value) (h : Hp) (Q : Pq) : Prop := Sp l D yX10_takes cX10_takes 3 (some .boolean) 1 20 mc ms av h Q
abbrev C_X10_takesOf (X : Ctx) : Prop := Cx X RX10 cX10_takesOf 3 (some .int) "takesOf" 5 106
abbrev S_X10_takesOf (l : Launch) (D : Dt) (mc ms : Nat) (av : List Value) (h : Hp) (Q : Pq) : Prop := Sp l D yX10_takesOf cX10_takesOf 3 (some .int) 5 106 mc ms av h Q
abbrev C_X10_digit (X : Ctx) : Prop := Cx X RX10 cX10_digit 1 (some .int) "digit" 6 128
abbrev S_X10_digit (l : Launch) (D : Dt) (mc ms : Nat) (av : List Value) (h : Hp) (Q : Pq) : Prop := Sp l D yX10_digit cX10_digit 1 (some .int) 6 128 mc ms av h Q
abbrev C_X10_two (X : Ctx) : Prop := Cx X RX10 cX10_two 3 (some .int) "two" 7 148
abbrev S_X10_two (l : Launch) (D : Dt) (mc ms : Nat) (av : List Value) (h : Hp) (Q : Pq) : Prop := Sp l D yX10_two cX10_two 3 (some .int) 7 148 mc ms av h Q
abbrev C_X10_init (X : Ctx) : Prop := Cx X RX10 cX10_init 2 none "<init>" 1 21
abbrev S_X10_init (l : Launch) (D : Dt) (mc ms : Nat) (av : List Value) (h : Hp) (Q : Pq) : Prop := Sp l D yX10_init cX10_init 2 none 1 21 mc ms av h Q
abbrev C_X10_begins (X : Ctx) : Prop := Cx X RX10 cX10_begins 2 none "begins" 0 0
abbrev S_X10_begins (l : Launch) (D : Dt) (mc ms : Nat) (av : List Value) (h : Hp) (Q : Pq) : Prop := Sp l D yX10_begins cX10_begins 2 none 0 0 mc ms av h Q
abbrev C_X10_copies (X : Ctx) : Prop := Cx X RX10 cX10_copies 4 none "copies" 0 0
abbrev S_X10_copies (l : Launch) (D : Dt) (mc ms : Nat) (av : List Value) (h : Hp) (Q : Pq) : Prop := Sp l D yX10_copies cX10_copies 4 none 0 0 mc ms av h Q
abbrev C_X10_done (X : Ctx) : Prop := Cx X RX10 cX10_done 3 (some .int) "done" 1 23
abbrev S_X10_done (l : Launch) (D : Dt) (mc ms : Nat) (av : List Value) (h : Hp) (Q : Pq) : Prop := Sp l D yX10_done cX10_done 3 (some .int) 1 23 mc ms av h Q
abbrev C_X10_undo (X : Ctx) : Prop := Cx X RX10 cX10_undo 1 (some .int) "undo" 1 23
abbrev S_X10_undo (l : Launch) (D : Dt) (mc ms : Nat) (av : List Value) (h : Hp) (Q : Pq) : Prop := Sp l D yX10_undo cX10_undo 1 (some .int) 1 23 mc ms av h Q
abbrev C_X10_worm (X : Ctx) : Prop := Cx X RX10 cX10_worm 1 (some .int) "worm" 0 0
abbrev S_X10_worm (l : Launch) (D : Dt) (mc ms : Nat) (av : List Value) (h : Hp) (Q : Pq) : Prop := Sp l D yX10_worm cX10_worm 1 (some .int) 0 0 mc ms av h Q
abbrev C_X10_circles (X : Ctx) : Prop := Cx X RX10 cX10_circles 1 (some .int) "circles" 0 0
abbrev S_X10_circles (l : Launch) (D : Dt) (mc ms : Nat) (av : List Value) (h : Hp) (Q : Pq) : Prop := Sp l D yX10_circles cX10_circles 1 (some .int) 0 0 mc ms av h Q
abbrev C_X10_holes (X : Ctx) : Prop := Cx X RX10 cX10_holes 2 (some .int) "holes" 0 0
abbrev S_X10_holes (l : Launch) (D : Dt) (mc ms : Nat) (av : List Value) (h : Hp) (Q : Pq) : Prop := Sp l D yX10_holes cX10_holes 2 (some .int) 0 0 mc ms av h Q
abbrev C_X10_gearMany (X : Ctx) : Prop := Cx X RX10 cX10_gearMany 1 (some .int) "gearMany" 0 0
abbrev S_X10_gearMany (l : Launch) (D : Dt) (mc ms : Nat) (av : List Value) (h : Hp) (Q : Pq) : Prop := Sp l D yX10_gearMany cX10_gearMany 1 (some .int) 0 0 mc ms av h Q
abbrev C_X10_teeth (X : Ctx) : Prop := Cx X RX10 cX10_teeth 2 (some .int) "teeth" 0 0
abbrev S_X10_teeth (l : Launch) (D : Dt) (mc ms : Nat) (av : List Value) (h : Hp) (Q : Pq) : Prop := Sp l D yX10_teeth cX10_teeth 2 (some .int) 0 0 mc ms av h Q
abbrev C_X10_readsPlate (X : Ctx) : Prop := Cx X RX10 cX10_readsPlate 5 (some .boolean) "readsPlate" 8 170
abbrev S_X10_readsPlate (l : Launch) (D : Dt) (mc ms : Nat) (av : List Value) (h : Hp) (Q : Pq) : Prop := Sp l D yX10_readsPlate cX10_readsPlate 5 (some .boolean) 8 170 mc ms av h Q
abbrev C_X10_plates (X : Ctx) : Prop := Cx X RX10 cX10_plates 2 (some .int) "plates" 9 194
abbrev S_X10_plates (l : Launch) (D : Dt) (mc ms : Nat) (av : List Value) (h : Hp) (Q : Pq) : Prop := Sp l D yX10_plates cX10_plates 2 (some .int) 9 194 mc ms av h Q
abbrev C_X10_circlesOf (X : Ctx) : Prop := Cx X RX10 cX10_circlesOf 2 (some .int) "circlesOf" 0 0
abbrev S_X10_circlesOf (l : Launch) (D : Dt) (mc ms : Nat) (av : List Value) (h : Hp) (Q : Pq) : Prop := Sp l D yX10_circlesOf cX10_circlesOf 2 (some .int) 0 0 mc ms av h Q
abbrev C_X10_putsRead (X : Ctx) : Prop := Cx X RX10 cX10_putsRead 2 (some .int) "putsRead" 2 45
abbrev S_X10_putsRead (l : Launch) (D : Dt) (mc ms : Nat) (av : List Value) (h : Hp) (Q : Pq) : Prop := Sp l D yX10_putsRead cX10_putsRead 2 (some .int) 2 45 mc ms av h Q
abbrev C_X10_gears (X : Ctx) : Prop := Cx X RX10 cX10_gears 5 (some .int) "gears" 8 170
abbrev S_X10_gears (l : Launch) (D : Dt) (mc ms : Nat) (av : List Value) (h : Hp) (Q : Pq) : Prop := Sp l D yX10_gears cX10_gears 5 (some .int) 8 170 mc ms av h Q
abbrev C_X10_sets (X : Ctx) : Prop := Cx X RX10 cX10_sets 4 (some .int) "sets" 3 66
abbrev S_X10_sets (l : Launch) (D : Dt) (mc ms : Nat) (av : List Value) (h : Hp) (Q : Pq) : Prop := Sp l D yX10_sets cX10_sets 4 (some .int) 3 66 mc ms av h Q
abbrev C_X10_circle (X : Ctx) : Prop := Cx X RX10 cX10_circle 2 (some .int) "circle" 1 25
abbrev S_X10_circle (l : Launch) (D : Dt) (mc ms : Nat) (av : List Value) (h : Hp) (Q : Pq) : Prop := Sp l D yX10_circle cX10_circle 2 (some .int) 1 25 mc ms av h Q
abbrev C_X10_gear (X : Ctx) : Prop := Cx X RX10 cX10_gear 2 (some .int) "gear" 1 25
abbrev S_X10_gear (l : Launch) (D : Dt) (mc ms : Nat) (av : List Value) (h : Hp) (Q : Pq) : Prop := Sp l D yX10_gear cX10_gear 2 (some .int) 1 25 mc ms av h Q
abbrev C_X10_hasSimple (X : Ctx) : Prop := Cx X RX10 cX10_hasSimple 3 (some .boolean) "hasSimple" 1 21
abbrev S_X10_hasSimple (l : Launch) (D : Dt) (mc ms : Nat) (av : List Value) (h : Hp) (Q : Pq) : Prop := Sp l D yX10_hasSimple cX10_hasSimple 3 (some .boolean) 1 21 mc ms av h Q
abbrev C_X10_firstSimple (X : Ctx) : Prop := Cx X RX10 cX10_firstSimple 3 (some .int) "firstSimple" 2 43
abbrev S_X10_firstSimple (l : Launch) (D : Dt) (mc ms : Nat) (av : List Value) (h : Hp) (Q : Pq) : Prop := Sp l D yX10_firstSimple cX10_firstSimple 3 (some .int) 2 43 mc ms av h Q
abbrev C_X10_isNumber (X : Ctx) : Prop := Cx X RX10 cX10_isNumber 1 (some .boolean) "isNumber" 1 25
abbrev S_X10_isNumber (l : Launch) (D : Dt) (mc ms : Nat) (av : List Value) (h : Hp) (Q : Pq) : Prop := Sp l D yX10_isNumber cX10_isNumber 1 (some .boolean) 1 25 mc ms av h Q
abbrev C_X10_allHoles (X : Ctx) : Prop := Cx X RX10 cX10_allHoles 3 (some .int) "allHoles" 1 21
abbrev S_X10_allHoles (l : Launch) (D : Dt) (mc ms : Nat) (av : List Value) (h : Hp) (Q : Pq) : Prop := Sp l D yX10_allHoles cX10_allHoles 3 (some .int) 1 21 mc ms av h Q
abbrev C_X10_simple (X : Ctx) : Prop := Cx X RX10 cX10_simple 4 (some .int) "simple" 3 65
abbrev S_X10_simple (l : Launch) (D : Dt) (mc ms : Nat) (av : List Value) (h : Hp) (Q : Pq) : Prop := Sp l D yX10_simple cX10_simple 4 (some .int) 3 65 mc ms av h Q
abbrev C_X10_size (X : Ctx) : Prop := Cx X RX10 cX10_size 1 (some .int) "size" 0 0
abbrev S_X10_size (l : Launch) (D : Dt) (mc ms : Nat) (av : List Value) (h : Hp) (Q : Pq) : Prop := Sp l D yX10_size cX10_size 1 (some .int) 0 0 mc ms av h Q
abbrev C_X10_looksAt (X : Ctx) : Prop := Cx X RX10 cX10_looksAt 12 (some .int) "looksAt" 1 21
abbrev S_X10_looksAt (l : Launch) (D : Dt) (mc ms : Nat) (av : List Value) (h : Hp) (Q : Pq) : Prop := Sp l D yX10_looksAt cX10_looksAt 12 (some .int) 1 21 mc ms av h Q
abbrev C_X10_findsCompound (X : Ctx) : Prop := Cx X RX10 cX10_findsCompound 6 (some .int) "findsCompound" 2 52
abbrev S_X10_findsCompound (l : Launch) (D : Dt) (mc ms : Nat) (av : List Value) (h : Hp) (Q : Pq) : Prop := Sp l D yX10_findsCompound cX10_findsCompound 6 (some .int) 2 52 mc ms av h Q
abbrev C_X10_compound (X : Ctx) : Prop := Cx X RX10 cX10_compound 3 (some .int) "compound" 3 77
abbrev S_X10_compound (l : Launch) (D : Dt) (mc ms : Nat) (av : List Value) (h : Hp) (Q : Pq) : Prop := Sp l D yX10_compound cX10_compound 3 (some .int) 3 77 mc ms av h Q
abbrev C_X10_isUnlike (X : Ctx) : Prop := Cx X RX10 cX10_isUnlike 3 (some .boolean) "isUnlike" 0 0
abbrev S_X10_isUnlike (l : Launch) (D : Dt) (mc ms : Nat) (av : List Value) (h : Hp) (Q : Pq) : Prop := Sp l D yX10_isUnlike cX10_isUnlike 3 (some .boolean) 0 0 mc ms av h Q
abbrev C_X10_goesOn (X : Ctx) : Prop := Cx X RX10 cX10_goesOn 3 (some .boolean) "goesOn" 1 22
abbrev S_X10_goesOn (l : Launch) (D : Dt) (mc ms : Nat) (av : List Value) (h : Hp) (Q : Pq) : Prop := Sp l D yX10_goesOn cX10_goesOn 3 (some .boolean) 1 22 mc ms av h Q
abbrev C_X10_startsTrains (X : Ctx) : Prop := Cx X RX10 cX10_startsTrains 3 none "startsTrains" 0 0
abbrev S_X10_startsTrains (l : Launch) (D : Dt) (mc ms : Nat) (av : List Value) (h : Hp) (Q : Pq) : Prop := Sp l D yX10_startsTrains cX10_startsTrains 3 none 0 0 mc ms av h Q
abbrev C_X10_nextTrain (X : Ctx) : Prop := Cx X RX10 cX10_nextTrain 1 (some .boolean) "nextTrain" 2 44
abbrev S_X10_nextTrain (l : Launch) (D : Dt) (mc ms : Nat) (av : List Value) (h : Hp) (Q : Pq) : Prop := Sp l D yX10_nextTrain cX10_nextTrain 1 (some .boolean) 2 44 mc ms av h Q
abbrev C_X10_beginsFour (X : Ctx) : Prop := Cx X RX10 cX10_beginsFour 2 (some .boolean) "beginsFour" 1 20
abbrev S_X10_beginsFour (l : Launch) (D : Dt) (mc ms : Nat) (av : List Value) (h : Hp) (Q : Pq) : Prop := Sp l D yX10_beginsFour cX10_beginsFour 2 (some .boolean) 1 20 mc ms av h Q
abbrev C_X10_upper (X : Ctx) : Prop := Cx X RX10 cX10_upper 1 (some .long) "upper" 1 21
abbrev S_X10_upper (l : Launch) (D : Dt) (mc ms : Nat) (av : List Value) (h : Hp) (Q : Pq) : Prop := Sp l D yX10_upper cX10_upper 1 (some .long) 1 21 mc ms av h Q
abbrev C_X10_lower (X : Ctx) : Prop := Cx X RX10 cX10_lower 1 (some .long) "lower" 1 21
abbrev S_X10_lower (l : Launch) (D : Dt) (mc ms : Nat) (av : List Value) (h : Hp) (Q : Pq) : Prop := Sp l D yX10_lower cX10_lower 1 (some .long) 1 21 mc ms av h Q
abbrev C_X10_finds (X : Ctx) : Prop := Cx X RX10 cX10_finds 2 none "finds" 0 0
abbrev S_X10_finds (l : Launch) (D : Dt) (mc ms : Nat) (av : List Value) (h : Hp) (Q : Pq) : Prop := Sp l D yX10_finds cX10_finds 2 none 0 0 mc ms av h Q
abbrev C_X10_findsTrain (X : Ctx) : Prop := Cx X RX10 cX10_findsTrain 5 (some .boolean) "findsTrain" 3 64
abbrev S_X10_findsTrain (l : Launch) (D : Dt) (mc ms : Nat) (av : List Value) (h : Hp) (Q : Pq) : Prop := Sp l D yX10_findsTrain cX10_findsTrain 5 (some .boolean) 3 64 mc ms av h Q
abbrev C_X10_isDifferential (X : Ctx) : Prop := Cx X RX10 cX10_isDifferential 3 (some .boolean) "isDifferential" 4 88
abbrev S_X10_isDifferential (l : Launch) (D : Dt) (mc ms : Nat) (av : List Value) (h : Hp) (Q : Pq) : Prop := Sp l D yX10_isDifferential cX10_isDifferential 3 (some .boolean) 4 88 mc ms av h Q
abbrev C_X10_findsDifferential (X : Ctx) : Prop := Cx X RX10 cX10_findsDifferential 5 (some .boolean) "findsDifferential" 5 110
abbrev S_X10_findsDifferential (l : Launch) (D : Dt) (mc ms : Nat) (av : List Value) (h : Hp) (Q : Pq) : Prop := Sp l D yX10_findsDifferential cX10_findsDifferential 5 (some .boolean) 5 110 mc ms av h Q
abbrev C_X10_differential (X : Ctx) : Prop := Cx X RX10 cX10_differential 4 (some .int) "differential" 6 134
abbrev S_X10_differential (l : Launch) (D : Dt) (mc ms : Nat) (av : List Value) (h : Hp) (Q : Pq) : Prop := Sp l D yX10_differential cX10_differential 4 (some .int) 6 134 mc ms av h Q
abbrev C_X10_waysOf (X : Ctx) : Prop := Cx X RX10 cX10_waysOf 2 (some .int) "waysOf" 6 134
abbrev S_X10_waysOf (l : Launch) (D : Dt) (mc ms : Nat) (av : List Value) (h : Hp) (Q : Pq) : Prop := Sp l D yX10_waysOf cX10_waysOf 2 (some .int) 6 134 mc ms av h Q
abbrev C_X10_ways (X : Ctx) : Prop := Cx X RX10 cX10_ways 3 (some .int) "ways" 7 155
abbrev S_X10_ways (l : Launch) (D : Dt) (mc ms : Nat) (av : List Value) (h : Hp) (Q : Pq) : Prop := Sp l D yX10_ways cX10_ways 3 (some .int) 7 155 mc ms av h Q
abbrev C_X10_hard (X : Ctx) : Prop := Cx X RX10 cX10_hard 10 (some .int) "hard" 7 155
abbrev S_X10_hard (l : Launch) (D : Dt) (mc ms : Nat) (av : List Value) (h : Hp) (Q : Pq) : Prop := Sp l D yX10_hard cX10_hard 10 (some .int) 7 155 mc ms av h Q
abbrev C_X10_isRatio (X : Ctx) : Prop := Cx X RX10 cX10_isRatio 2 (some .boolean) "isRatio" 1 25
abbrev S_X10_isRatio (l : Launch) (D : Dt) (mc ms : Nat) (av : List Value) (h : Hp) (Q : Pq) : Prop := Sp l D yX10_isRatio cX10_isRatio 2 (some .boolean) 1 25 mc ms av h Q
abbrev C_X10_entersFound (X : Ctx) : Prop := Cx X RX10 cX10_entersFound 2 none "entersFound" 1 22
abbrev S_X10_entersFound (l : Launch) (D : Dt) (mc ms : Nat) (av : List Value) (h : Hp) (Q : Pq) : Prop := Sp l D yX10_entersFound cX10_entersFound 2 none 1 22 mc ms av h Q
abbrev C_X10_train (X : Ctx) : Prop := Cx X RX10 cX10_train 3 (some .int) "train" 4 88
abbrev S_X10_train (l : Launch) (D : Dt) (mc ms : Nat) (av : List Value) (h : Hp) (Q : Pq) : Prop := Sp l D yX10_train cX10_train 3 (some .int) 4 88 mc ms av h Q
abbrev C_X10_isNearer (X : Ctx) : Prop := Cx X RX10 cX10_isNearer 22 (some .boolean) "isNearer" 1 29
abbrev S_X10_isNearer (l : Launch) (D : Dt) (mc ms : Nat) (av : List Value) (h : Hp) (Q : Pq) : Prop := Sp l D yX10_isNearer cX10_isNearer 22 (some .boolean) 1 29 mc ms av h Q
abbrev C_X10_entersNear (X : Ctx) : Prop := Cx X RX10 cX10_entersNear 1 none "entersNear" 2 55
abbrev S_X10_entersNear (l : Launch) (D : Dt) (mc ms : Nat) (av : List Value) (h : Hp) (Q : Pq) : Prop := Sp l D yX10_entersNear cX10_entersNear 1 none 2 55 mc ms av h Q
abbrev C_X10_findsNearest (X : Ctx) : Prop := Cx X RX10 cX10_findsNearest 13 (some .boolean) "findsNearest" 3 70
abbrev S_X10_findsNearest (l : Launch) (D : Dt) (mc ms : Nat) (av : List Value) (h : Hp) (Q : Pq) : Prop := Sp l D yX10_findsNearest cX10_findsNearest 13 (some .boolean) 3 70 mc ms av h Q
abbrev C_X10_nearest (X : Ctx) : Prop := Cx X RX10 cX10_nearest 3 (some .int) "nearest" 4 102
abbrev S_X10_nearest (l : Launch) (D : Dt) (mc ms : Nat) (av : List Value) (h : Hp) (Q : Pq) : Prop := Sp l D yX10_nearest cX10_nearest 3 (some .int) 4 102 mc ms av h Q
abbrev C_X10_lead (X : Ctx) : Prop := Cx X RX10 cX10_lead 2 (some .int) "lead" 4 102
abbrev S_X10_lead (l : Launch) (D : Dt) (mc ms : Nat) (av : List Value) (h : Hp) (Q : Pq) : Prop := Sp l D yX10_lead cX10_lead 2 (some .int) 4 102 mc ms av h Q
abbrev C_X10_sinks (X : Ctx) : Prop := Cx X RX10 cX10_sinks 7 none "sinks" 0 0
abbrev S_X10_sinks (l : Launch) (D : Dt) (mc ms : Nat) (av : List Value) (h : Hp) (Q : Pq) : Prop := Sp l D yX10_sinks cX10_sinks 7 none 0 0 mc ms av h Q
abbrev C_X10_sorts (X : Ctx) : Prop := Cx X RX10 cX10_sorts 4 none "sorts" 1 26
abbrev S_X10_sorts (l : Launch) (D : Dt) (mc ms : Nat) (av : List Value) (h : Hp) (Q : Pq) : Prop := Sp l D yX10_sorts cX10_sorts 4 none 1 26 mc ms av h Q
abbrev C_X10_ratios (X : Ctx) : Prop := Cx X RX10 cX10_ratios 7 (some .int) "ratios" 3 64
abbrev S_X10_ratios (l : Launch) (D : Dt) (mc ms : Nat) (av : List Value) (h : Hp) (Q : Pq) : Prop := Sp l D yX10_ratios cX10_ratios 7 (some .int) 3 64 mc ms av h Q
abbrev C_X10_isLess (X : Ctx) : Prop := Cx X RX10 cX10_isLess 4 (some .boolean) "isLess" 0 0
abbrev S_X10_isLess (l : Launch) (D : Dt) (mc ms : Nat) (av : List Value) (h : Hp) (Q : Pq) : Prop := Sp l D yX10_isLess cX10_isLess 4 (some .boolean) 0 0 mc ms av h Q
abbrev C_X10_stepsTo (X : Ctx) : Prop := Cx X RX10 cX10_stepsTo 20 (some .int) "stepsTo" 1 22
abbrev S_X10_stepsTo (l : Launch) (D : Dt) (mc ms : Nat) (av : List Value) (h : Hp) (Q : Pq) : Prop := Sp l D yX10_stepsTo cX10_stepsTo 20 (some .int) 1 22 mc ms av h Q
abbrev C_X10_near (X : Ctx) : Prop := Cx X RX10 cX10_near 8 (some .int) "near" 3 75
abbrev S_X10_near (l : Launch) (D : Dt) (mc ms : Nat) (av : List Value) (h : Hp) (Q : Pq) : Prop := Sp l D yX10_near cX10_near 8 (some .int) 3 75 mc ms av h Q
abbrev C_X10_tree (X : Ctx) : Prop := Cx X RX10 cX10_tree 3 (some .int) "tree" 2 61
abbrev S_X10_tree (l : Launch) (D : Dt) (mc ms : Nat) (av : List Value) (h : Hp) (Q : Pq) : Prop := Sp l D yX10_tree cX10_tree 3 (some .int) 2 61 mc ms av h Q
abbrev C_X10_angle (X : Ctx) : Prop := Cx X RX10 cX10_angle 13 (some .int) "angle" 2 70
abbrev S_X10_angle (l : Launch) (D : Dt) (mc ms : Nat) (av : List Value) (h : Hp) (Q : Pq) : Prop := Sp l D yX10_angle cX10_angle 13 (some .int) 2 70 mc ms av h Q
abbrev C_X10_usesOne (X : Ctx) : Prop := Cx X RX10 cX10_usesOne 3 (some .int) "usesOne" 1 25
abbrev S_X10_usesOne (l : Launch) (D : Dt) (mc ms : Nat) (av : List Value) (h : Hp) (Q : Pq) : Prop := Sp l D yX10_usesOne cX10_usesOne 3 (some .int) 1 25 mc ms av h Q
abbrev C_X10_uses (X : Ctx) : Prop := Cx X RX10 cX10_uses 2 (some .int) "uses" 2 47
abbrev S_X10_uses (l : Launch) (D : Dt) (mc ms : Nat) (av : List Value) (h : Hp) (Q : Pq) : Prop := Sp l D yX10_uses cX10_uses 2 (some .int) 2 47 mc ms av h Q
abbrev C_X10_isGear (X : Ctx) : Prop := Cx X RX10 cX10_isGear 2 (some .boolean) "isGear" 1 25
abbrev S_X10_isGear (l : Launch) (D : Dt) (mc ms : Nat) (av : List Value) (h : Hp) (Q : Pq) : Prop := Sp l D yX10_isGear cX10_isGear 2 (some .boolean) 1 25 mc ms av h Q
abbrev C_X10_trainUpper (X : Ctx) : Prop := Cx X RX10 cX10_trainUpper 1 (some .long) "trainUpper" 1 21
abbrev S_X10_trainUpper (l : Launch) (D : Dt) (mc ms : Nat) (av : List Value) (h : Hp) (Q : Pq) : Prop := Sp l D yX10_trainUpper cX10_trainUpper 1 (some .long) 1 21 mc ms av h Q
abbrev C_X10_trainLower (X : Ctx) : Prop := Cx X RX10 cX10_trainLower 1 (some .long) "trainLower" 1 21
abbrev S_X10_trainLower (l : Launch) (D : Dt) (mc ms : Nat) (av : List Value) (h : Hp) (Q : Pq) : Prop := Sp l D yX10_trainLower cX10_trainLower 1 (some .long) 1 21 mc ms av h Q
abbrev C_X10_gearedOne (X : Ctx) : Prop := Cx X RX10 cX10_gearedOne 9 (some .int) "gearedOne" 2 46
abbrev S_X10_gearedOne (l : Launch) (D : Dt) (mc ms : Nat) (av : List Value) (h : Hp) (Q : Pq) : Prop := Sp l D yX10_gearedOne cX10_gearedOne 9 (some .int) 2 46 mc ms av h Q
abbrev C_X10_geared (X : Ctx) : Prop := Cx X RX10 cX10_geared 7 (some .int) "geared" 3 74
abbrev S_X10_geared (l : Launch) (D : Dt) (mc ms : Nat) (av : List Value) (h : Hp) (Q : Pq) : Prop := Sp l D yX10_geared cX10_geared 7 (some .int) 3 74 mc ms av h Q
abbrev C_X10_ungearedOne (X : Ctx) : Prop := Cx X RX10 cX10_ungearedOne 2 (some .int) "ungearedOne" 0 0
abbrev S_X10_ungearedOne (l : Launch) (D : Dt) (mc ms : Nat) (av : List Value) (h : Hp) (Q : Pq) : Prop := Sp l D yX10_ungearedOne cX10_ungearedOne 2 (some .int) 0 0 mc ms av h Q
abbrev C_X10_ungeared (X : Ctx) : Prop := Cx X RX10 cX10_ungeared 1 (some .int) "ungeared" 2 45
abbrev S_X10_ungeared (l : Launch) (D : Dt) (mc ms : Nat) (av : List Value) (h : Hp) (Q : Pq) : Prop := Sp l D yX10_ungeared cX10_ungeared 1 (some .int) 2 45 mc ms av h Q
abbrev C_X10_laysStep (X : Ctx) : Prop := Cx X RX10 cX10_laysStep 10 none "laysStep" 2 41
abbrev S_X10_laysStep (l : Launch) (D : Dt) (mc ms : Nat) (av : List Value) (h : Hp) (Q : Pq) : Prop := Sp l D yX10_laysStep cX10_laysStep 10 none 2 41 mc ms av h Q
abbrev C_X10_laysNext (X : Ctx) : Prop := Cx X RX10 cX10_laysNext 18 (some .boolean) "laysNext" 3 70
abbrev S_X10_laysNext (l : Launch) (D : Dt) (mc ms : Nat) (av : List Value) (h : Hp) (Q : Pq) : Prop := Sp l D yX10_laysNext cX10_laysNext 18 (some .boolean) 3 70 mc ms av h Q
abbrev C_X10_goesBy (X : Ctx) : Prop := Cx X RX10 cX10_goesBy 4 (some .int) "goesBy" 4 107
abbrev S_X10_goesBy (l : Launch) (D : Dt) (mc ms : Nat) (av : List Value) (h : Hp) (Q : Pq) : Prop := Sp l D yX10_goesBy cX10_goesBy 4 (some .int) 4 107 mc ms av h Q
abbrev C_X10_turnsOne (X : Ctx) : Prop := Cx X RX10 cX10_turnsOne 7 (some .int) "turnsOne" 5 130
abbrev S_X10_turnsOne (l : Launch) (D : Dt) (mc ms : Nat) (av : List Value) (h : Hp) (Q : Pq) : Prop := Sp l D yX10_turnsOne cX10_turnsOne 7 (some .int) 5 130 mc ms av h Q
abbrev C_X10_cranks (X : Ctx) : Prop := Cx X RX10 cX10_cranks 5 (some .int) "cranks" 6 156
abbrev S_X10_cranks (l : Launch) (D : Dt) (mc ms : Nat) (av : List Value) (h : Hp) (Q : Pq) : Prop := Sp l D yX10_cranks cX10_cranks 5 (some .int) 6 156 mc ms av h Q
abbrev C_X10_marks (X : Ctx) : Prop := Cx X RX10 cX10_marks 1 (some .int) "marks" 0 0
abbrev S_X10_marks (l : Launch) (D : Dt) (mc ms : Nat) (av : List Value) (h : Hp) (Q : Pq) : Prop := Sp l D yX10_marks cX10_marks 1 (some .int) 0 0 mc ms av h Q
abbrev C_X10_markUp (X : Ctx) : Prop := Cx X RX10 cX10_markUp 2 (some .long) "markUp" 0 0
abbrev S_X10_markUp (l : Launch) (D : Dt) (mc ms : Nat) (av : List Value) (h : Hp) (Q : Pq) : Prop := Sp l D yX10_markUp cX10_markUp 2 (some .long) 0 0 mc ms av h Q
abbrev C_X10_markLow (X : Ctx) : Prop := Cx X RX10 cX10_markLow 2 (some .long) "markLow" 0 0
abbrev S_X10_markLow (l : Launch) (D : Dt) (mc ms : Nat) (av : List Value) (h : Hp) (Q : Pq) : Prop := Sp l D yX10_markLow cX10_markLow 2 (some .long) 0 0 mc ms av h Q
abbrev C_X10_markAt (X : Ctx) : Prop := Cx X RX10 cX10_markAt 6 (some .int) "markAt" 1 21
abbrev S_X10_markAt (l : Launch) (D : Dt) (mc ms : Nat) (av : List Value) (h : Hp) (Q : Pq) : Prop := Sp l D yX10_markAt cX10_markAt 6 (some .int) 1 21 mc ms av h Q
abbrev C_X10_cutsOne (X : Ctx) : Prop := Cx X RX10 cX10_cutsOne 2 (some .int) "cutsOne" 2 46
abbrev S_X10_cutsOne (l : Launch) (D : Dt) (mc ms : Nat) (av : List Value) (h : Hp) (Q : Pq) : Prop := Sp l D yX10_cutsOne cX10_cutsOne 2 (some .int) 2 46 mc ms av h Q
abbrev C_X10_cuts (X : Ctx) : Prop := Cx X RX10 cX10_cuts 1 (some .int) "cuts" 3 67
abbrev S_X10_cuts (l : Launch) (D : Dt) (mc ms : Nat) (av : List Value) (h : Hp) (Q : Pq) : Prop := Sp l D yX10_cuts cX10_cuts 1 (some .int) 3 67 mc ms av h Q
abbrev C_X10_wipesOne (X : Ctx) : Prop := Cx X RX10 cX10_wipesOne 2 (some .int) "wipesOne" 1 20
abbrev S_X10_wipesOne (l : Launch) (D : Dt) (mc ms : Nat) (av : List Value) (h : Hp) (Q : Pq) : Prop := Sp l D yX10_wipesOne cX10_wipesOne 2 (some .int) 1 20 mc ms av h Q
abbrev C_X10_wipes (X : Ctx) : Prop := Cx X RX10 cX10_wipes 1 (some .int) "wipes" 2 45
abbrev S_X10_wipes (l : Launch) (D : Dt) (mc ms : Nat) (av : List Value) (h : Hp) (Q : Pq) : Prop := Sp l D yX10_wipes cX10_wipes 1 (some .int) 2 45 mc ms av h Q
abbrev C_X10_hasWay (X : Ctx) : Prop := Cx X RX10 cX10_hasWay 3 (some .boolean) "hasWay" 6 134
abbrev S_X10_hasWay (l : Launch) (D : Dt) (mc ms : Nat) (av : List Value) (h : Hp) (Q : Pq) : Prop := Sp l D yX10_hasWay cX10_hasWay 3 (some .boolean) 6 134 mc ms av h Q
abbrev C_X10_stepsBy (X : Ctx) : Prop := Cx X RX10 cX10_stepsBy 5 none "stepsBy" 5 130
abbrev S_X10_stepsBy (l : Launch) (D : Dt) (mc ms : Nat) (av : List Value) (h : Hp) (Q : Pq) : Prop := Sp l D yX10_stepsBy cX10_stepsBy 5 none 5 130 mc ms av h Q
abbrev C_X10_divides (X : Ctx) : Prop := Cx X RX10 cX10_divides 4 (some .int) "divides" 7 156
abbrev S_X10_divides (l : Launch) (D : Dt) (mc ms : Nat) (av : List Value) (h : Hp) (Q : Pq) : Prop := Sp l D yX10_divides cX10_divides 4 (some .int) 7 156 mc ms av h Q
abbrev C_X10_laysGap (X : Ctx) : Prop := Cx X RX10 cX10_laysGap 9 none "laysGap" 1 29
abbrev S_X10_laysGap (l : Launch) (D : Dt) (mc ms : Nat) (av : List Value) (h : Hp) (Q : Pq) : Prop := Sp l D yX10_laysGap cX10_laysGap 9 none 1 29 mc ms av h Q
abbrev C_X10_mark (X : Ctx) : Prop := Cx X RX10 cX10_mark 2 (some .int) "mark" 2 57
abbrev S_X10_mark (l : Launch) (D : Dt) (mc ms : Nat) (av : List Value) (h : Hp) (Q : Pq) : Prop := Sp l D yX10_mark cX10_mark 2 (some .int) 2 57 mc ms av h Q
abbrev C_X10_isBelow (X : Ctx) : Prop := Cx X RX10 cX10_isBelow 23 (some .boolean) "isBelow" 0 0
abbrev S_X10_isBelow (l : Launch) (D : Dt) (mc ms : Nat) (av : List Value) (h : Hp) (Q : Pq) : Prop := Sp l D yX10_isBelow cX10_isBelow 23 (some .boolean) 0 0 mc ms av h Q
abbrev C_X10_laysGaps (X : Ctx) : Prop := Cx X RX10 cX10_laysGaps 7 (some .int) "laysGaps" 2 57
abbrev S_X10_laysGaps (l : Launch) (D : Dt) (mc ms : Nat) (av : List Value) (h : Hp) (Q : Pq) : Prop := Sp l D yX10_laysGaps cX10_laysGaps 7 (some .int) 2 57 mc ms av h Q
abbrev C_X10_gaps (X : Ctx) : Prop := Cx X RX10 cX10_gaps 1 (some .int) "gaps" 3 83
abbrev S_X10_gaps (l : Launch) (D : Dt) (mc ms : Nat) (av : List Value) (h : Hp) (Q : Pq) : Prop := Sp l D yX10_gaps cX10_gaps 1 (some .int) 3 83 mc ms av h Q
abbrev C_X10_missing (X : Ctx) : Prop := Cx X RX10 cX10_missing 7 (some .int) "missing" 2 46
abbrev S_X10_missing (l : Launch) (D : Dt) (mc ms : Nat) (av : List Value) (h : Hp) (Q : Pq) : Prop := Sp l D yX10_missing cX10_missing 7 (some .int) 2 46 mc ms av h Q
abbrev C_X10_reaches (X : Ctx) : Prop := Cx X RX10 cX10_reaches 11 (some .int) "reaches" 3 70
abbrev S_X10_reaches (l : Launch) (D : Dt) (mc ms : Nat) (av : List Value) (h : Hp) (Q : Pq) : Prop := Sp l D yX10_reaches cX10_reaches 11 (some .int) 3 70 mc ms av h Q
abbrev C_X10_readsAct (X : Ctx) : Prop := Cx X RX10 cX10_readsAct 3 (some .boolean) "readsAct" 8 170
abbrev S_X10_readsAct (l : Launch) (D : Dt) (mc ms : Nat) (av : List Value) (h : Hp) (Q : Pq) : Prop := Sp l D yX10_readsAct cX10_readsAct 3 (some .boolean) 8 170 mc ms av h Q
abbrev C_X10_doesAct (X : Ctx) : Prop := Cx X RX10 cX10_doesAct 2 (some .int) "doesAct" 6 156
abbrev S_X10_doesAct (l : Launch) (D : Dt) (mc ms : Nat) (av : List Value) (h : Hp) (Q : Pq) : Prop := Sp l D yX10_doesAct cX10_doesAct 2 (some .int) 6 156 mc ms av h Q
abbrev C_X10_day (X : Ctx) : Prop := Cx X RX10 cX10_day 3 (some .int) "day" 9 192
abbrev S_X10_day (l : Launch) (D : Dt) (mc ms : Nat) (av : List Value) (h : Hp) (Q : Pq) : Prop := Sp l D yX10_day cX10_day 3 (some .int) 9 192 mc ms av h Q
abbrev C_X10_draws (X : Ctx) : Prop := Cx X RX10 cX10_draws 2 (some .int) "draws" 0 0
abbrev S_X10_draws (l : Launch) (D : Dt) (mc ms : Nat) (av : List Value) (h : Hp) (Q : Pq) : Prop := Sp l D yX10_draws cX10_draws 2 (some .int) 0 0 mc ms av h Q
abbrev C_X10_years (X : Ctx) : Prop := Cx X RX10 cX10_years 6 (some .int) "years" 6 156
abbrev S_X10_years (l : Launch) (D : Dt) (mc ms : Nat) (av : List Value) (h : Hp) (Q : Pq) : Prop := Sp l D yX10_years cX10_years 6 (some .int) 6 156 mc ms av h Q
abbrev C_X10_keep (X : Ctx) : Prop := Cx X RX10 cX10_keep 2 (some .boolean) "keep" 1 25
abbrev S_X10_keep (l : Launch) (D : Dt) (mc ms : Nat) (av : List Value) (h : Hp) (Q : Pq) : Prop := Sp l D yX10_keep cX10_keep 2 (some .boolean) 1 25 mc ms av h Q
abbrev C_X10_again (X : Ctx) : Prop := Cx X RX10 cX10_again 2 (some .boolean) "again" 1 25
abbrev S_X10_again (l : Launch) (D : Dt) (mc ms : Nat) (av : List Value) (h : Hp) (Q : Pq) : Prop := Sp l D yX10_again cX10_again 2 (some .boolean) 1 25 mc ms av h Q
abbrev C_X10_count (X : Ctx) : Prop := Cx X RX10 cX10_count 2 (some .int) "count" 1 20
abbrev S_X10_count (l : Launch) (D : Dt) (mc ms : Nat) (av : List Value) (h : Hp) (Q : Pq) : Prop := Sp l D yX10_count cX10_count 2 (some .int) 1 20 mc ms av h Q
abbrev C_X10_row (X : Ctx) : Prop := Cx X RX10 cX10_row 2 (some .long) "row" 1 25
abbrev S_X10_row (l : Launch) (D : Dt) (mc ms : Nat) (av : List Value) (h : Hp) (Q : Pq) : Prop := Sp l D yX10_row cX10_row 2 (some .long) 1 25 mc ms av h Q
abbrev C_J6_bitCount_0f7a4 (X : Ctx) : Prop := Cx X RJ6 cJ6_bitCount_0f7a4 1 (some .int) "bitCount" 0 0
abbrev S_J6_bitCount_0f7a4 (l : Launch) (D : Dt) (mc ms : Nat) (av : List Value) (h : Hp) (Q : Pq) : Prop := Sp l D yJ6_bitCount_0f7a4 cJ6_bitCount_0f7a4 1 (some .int) 0 0 mc ms av h Q
abbrev C_J13_compare_74951 (X : Ctx) : Prop := Cx X RJ13 cJ13_compare_74951 4 (some .int) "compare" 0 0
abbrev S_J13_compare_74951 (l : Launch) (D : Dt) (mc ms : Nat) (av : List Value) (h : Hp) (Q : Pq) : Prop := Sp l D yJ13_compare_74951 cJ13_compare_74951 4 (some .int) 0 0 mc ms av h Q
abbrev C_J9_floorDiv_7cf53 (X : Ctx) : Prop := Cx X RJ9 cJ9_floorDiv_7cf53 3 (some .int) "floorDiv" 0 0
abbrev S_J9_floorDiv_7cf53 (l : Launch) (D : Dt) (mc ms : Nat) (av : List Value) (h : Hp) (Q : Pq) : Prop := Sp l D yJ9_floorDiv_7cf53 cJ9_floorDiv_7cf53 3 (some .int) 0 0 mc ms av h Q
abbrev C_J9_floorMod_7cf53 (X : Ctx) : Prop := Cx X RJ9 cJ9_floorMod_7cf53 3 (some .int) "floorMod" 0 0
abbrev S_J9_floorMod_7cf53 (l : Launch) (D : Dt) (mc ms : Nat) (av : List Value) (h : Hp) (Q : Pq) : Prop := Sp l D yJ9_floorMod_7cf53 cJ9_floorMod_7cf53 3 (some .int) 0 0 mc ms av h Q
abbrev C_J9_floorMod_f86c9 (X : Ctx) : Prop := Cx X RJ9 cJ9_floorMod_f86c9 6 (some .long) "floorMod" 0 0
abbrev S_J9_floorMod_f86c9 (l : Launch) (D : Dt) (mc ms : Nat) (av : List Value) (h : Hp) (Q : Pq) : Prop := Sp l D yJ9_floorMod_f86c9 cJ9_floorMod_f86c9 6 (some .long) 0 0 mc ms av h Q
abbrev C_J9_abs_0f7a4 (X : Ctx) : Prop := Cx X RJ9 cJ9_abs_0f7a4 1 (some .int) "abs" 0 0
abbrev S_J9_abs_0f7a4 (l : Launch) (D : Dt) (mc ms : Nat) (av : List Value) (h : Hp) (Q : Pq) : Prop := Sp l D yJ9_abs_0f7a4 cJ9_abs_0f7a4 1 (some .int) 0 0 mc ms av h Q
abbrev C_J9_abs_067f4 (X : Ctx) : Prop := Cx X RJ9 cJ9_abs_067f4 2 (some .long) "abs" 0 0
abbrev S_J9_abs_067f4 (l : Launch) (D : Dt) (mc ms : Nat) (av : List Value) (h : Hp) (Q : Pq) : Prop := Sp l D yJ9_abs_067f4 cJ9_abs_067f4 2 (some .long) 0 0 mc ms av h Q
abbrev C_J7_fill_53178 (X : Ctx) : Prop := Cx X RJ7 cJ7_fill_53178 4 none "fill" 0 0
abbrev S_J7_fill_53178 (l : Launch) (D : Dt) (mc ms : Nat) (av : List Value) (h : Hp) (Q : Pq) : Prop := Sp l D yJ7_fill_53178 cJ7_fill_53178 4 none 0 0 mc ms av h Q
end
section
-- words of the printed conditions
def iushr (x y : Int32) : Int32 := (x.toUInt32 >>> (y.toUInt32 &&& Int32.toUInt32 31)).toInt32
def i2c (x : Int32) : Int32 := (x.toUInt32 % 65536).toInt32
theorem le_ix {z0 z : Int32} {m N : Nat} (h0 : ix z0 = 0) (hz : ix z = m) (h : m ≤ N) : ix z0 + ix z ≤ N := by omega
theorem w_aaldR {X : Ctx} {k n : Nat} {Q : Pq} {pc : Nat} {lv : List (Nat × Value)} {st : List Value} {h : Hp} {own : String} {cc : ByteArray} {nL : Nat} {ret : Option FieldType} {nm : String} {fr lo a b : Nat} {i : Int32} (C : Cx X own cc nL ret nm fr lo) (d : decode cc pc = .ok (.aaload, 1)) (hk : kd h a = 24) (hi : inb i (ln h a)) (hb : gr h a (ix i) = some b) (K : Wj X k n Q (pc + 1) lv (.ref b :: st) h) : Wj X k n Q pc lv (.int i :: .ref a :: st) h :=
  w_aald C d hk hi ⟨fun e => (by rw [hb] at e; cases e), fun b2 e => (by rw [hb] at e; cases e; exact K)⟩
end
section
-- leaves (by program: gen_parts.py)
theorem dJ6_bitCount_0f7a4_0 : decode cJ6_bitCount_0f7a4 0 = .ok (.iload_n 0, 1) := by decide +kernel
theorem dJ6_bitCount_0f7a4_1 : decode cJ6_bitCount_0f7a4 1 = .ok (.iload_n 0, 1) := by decide +kernel
theorem dJ6_bitCount_0f7a4_2 : decode cJ6_bitCount_0f7a4 2 = .ok (.iconst 1, 1) := by decide +kernel
theorem dJ6_bitCount_0f7a4_3 : decode cJ6_bitCount_0f7a4 3 = .ok (.iushr, 1) := by decide +kernel
theorem dJ6_bitCount_0f7a4_4 : decode cJ6_bitCount_0f7a4 4 = .ok (.ldc_w 265, 3) := by decide +kernel
theorem dJ6_bitCount_0f7a4_7 : decode cJ6_bitCount_0f7a4 7 = .ok (.iand, 1) := by decide +kernel
theorem dJ6_bitCount_0f7a4_8 : decode cJ6_bitCount_0f7a4 8 = .ok (.isub, 1) := by decide +kernel
theorem dJ6_bitCount_0f7a4_9 : decode cJ6_bitCount_0f7a4 9 = .ok (.istore_n 0, 1) := by decide +kernel
theorem dJ6_bitCount_0f7a4_10 : decode cJ6_bitCount_0f7a4 10 = .ok (.iload_n 0, 1) := by decide +kernel
theorem dJ6_bitCount_0f7a4_11 : decode cJ6_bitCount_0f7a4 11 = .ok (.ldc_w 266, 3) := by decide +kernel
theorem dJ6_bitCount_0f7a4_14 : decode cJ6_bitCount_0f7a4 14 = .ok (.iand, 1) := by decide +kernel
theorem dJ6_bitCount_0f7a4_15 : decode cJ6_bitCount_0f7a4 15 = .ok (.iload_n 0, 1) := by decide +kernel
theorem dJ6_bitCount_0f7a4_16 : decode cJ6_bitCount_0f7a4 16 = .ok (.iconst 2, 1) := by decide +kernel
theorem dJ6_bitCount_0f7a4_17 : decode cJ6_bitCount_0f7a4 17 = .ok (.iushr, 1) := by decide +kernel
theorem dJ6_bitCount_0f7a4_18 : decode cJ6_bitCount_0f7a4 18 = .ok (.ldc_w 266, 3) := by decide +kernel
theorem dJ6_bitCount_0f7a4_21 : decode cJ6_bitCount_0f7a4 21 = .ok (.iand, 1) := by decide +kernel
theorem dJ6_bitCount_0f7a4_22 : decode cJ6_bitCount_0f7a4 22 = .ok (.iadd, 1) := by decide +kernel
theorem dJ6_bitCount_0f7a4_23 : decode cJ6_bitCount_0f7a4 23 = .ok (.istore_n 0, 1) := by decide +kernel
theorem dJ6_bitCount_0f7a4_24 : decode cJ6_bitCount_0f7a4 24 = .ok (.iload_n 0, 1) := by decide +kernel
theorem dJ6_bitCount_0f7a4_25 : decode cJ6_bitCount_0f7a4 25 = .ok (.iload_n 0, 1) := by decide +kernel
theorem dJ6_bitCount_0f7a4_26 : decode cJ6_bitCount_0f7a4 26 = .ok (.iconst 4, 1) := by decide +kernel
theorem dJ6_bitCount_0f7a4_27 : decode cJ6_bitCount_0f7a4 27 = .ok (.iushr, 1) := by decide +kernel
theorem dJ6_bitCount_0f7a4_28 : decode cJ6_bitCount_0f7a4 28 = .ok (.iadd, 1) := by decide +kernel
theorem dJ6_bitCount_0f7a4_29 : decode cJ6_bitCount_0f7a4 29 = .ok (.ldc_w 267, 3) := by decide +kernel
theorem dJ6_bitCount_0f7a4_32 : decode cJ6_bitCount_0f7a4 32 = .ok (.iand, 1) := by decide +kernel
theorem dJ6_bitCount_0f7a4_33 : decode cJ6_bitCount_0f7a4 33 = .ok (.istore_n 0, 1) := by decide +kernel
theorem dJ6_bitCount_0f7a4_34 : decode cJ6_bitCount_0f7a4 34 = .ok (.iload_n 0, 1) := by decide +kernel
theorem dJ6_bitCount_0f7a4_35 : decode cJ6_bitCount_0f7a4 35 = .ok (.iload_n 0, 1) := by decide +kernel
theorem dJ6_bitCount_0f7a4_36 : decode cJ6_bitCount_0f7a4 36 = .ok (.bipush 8, 2) := by decide +kernel
theorem dJ6_bitCount_0f7a4_38 : decode cJ6_bitCount_0f7a4 38 = .ok (.iushr, 1) := by decide +kernel
theorem dJ6_bitCount_0f7a4_39 : decode cJ6_bitCount_0f7a4 39 = .ok (.iadd, 1) := by decide +kernel
theorem dJ6_bitCount_0f7a4_40 : decode cJ6_bitCount_0f7a4 40 = .ok (.istore_n 0, 1) := by decide +kernel
theorem dJ6_bitCount_0f7a4_41 : decode cJ6_bitCount_0f7a4 41 = .ok (.iload_n 0, 1) := by decide +kernel
theorem dJ6_bitCount_0f7a4_42 : decode cJ6_bitCount_0f7a4 42 = .ok (.iload_n 0, 1) := by decide +kernel
theorem dJ6_bitCount_0f7a4_43 : decode cJ6_bitCount_0f7a4 43 = .ok (.bipush 16, 2) := by decide +kernel
theorem dJ6_bitCount_0f7a4_45 : decode cJ6_bitCount_0f7a4 45 = .ok (.iushr, 1) := by decide +kernel
theorem dJ6_bitCount_0f7a4_46 : decode cJ6_bitCount_0f7a4 46 = .ok (.iadd, 1) := by decide +kernel
theorem dJ6_bitCount_0f7a4_47 : decode cJ6_bitCount_0f7a4 47 = .ok (.istore_n 0, 1) := by decide +kernel
theorem dJ6_bitCount_0f7a4_48 : decode cJ6_bitCount_0f7a4 48 = .ok (.iload_n 0, 1) := by decide +kernel
theorem dJ6_bitCount_0f7a4_49 : decode cJ6_bitCount_0f7a4 49 = .ok (.bipush 63, 2) := by decide +kernel
theorem dJ6_bitCount_0f7a4_51 : decode cJ6_bitCount_0f7a4 51 = .ok (.iand, 1) := by decide +kernel
theorem dJ6_bitCount_0f7a4_52 : decode cJ6_bitCount_0f7a4 52 = .ok (.ireturn, 1) := by decide +kernel
set_option maxRecDepth 20000 in
set_option maxHeartbeats 2000000 in
theorem V_J6_bitCount_0f7a4_0 {X : Ctx} (C : C_J6_bitCount_0f7a4 X) {k n : Nat} {Q : Pq} {h : Hp} {v0 : Int32}
    (hv : Q (some (.int ((((((((v0 - ((iushr v0 1) &&& 1431655765)) &&& 858993459) + ((iushr (v0 - ((iushr v0 1) &&& 1431655765)) 2) &&& 858993459)) + (iushr (((v0 - ((iushr v0 1) &&& 1431655765)) &&& 858993459) + ((iushr (v0 - ((iushr v0 1) &&& 1431655765)) 2) &&& 858993459)) 4)) &&& 252645135) + (iushr (((((v0 - ((iushr v0 1) &&& 1431655765)) &&& 858993459) + ((iushr (v0 - ((iushr v0 1) &&& 1431655765)) 2) &&& 858993459)) + (iushr (((v0 - ((iushr v0 1) &&& 1431655765)) &&& 858993459) + ((iushr (v0 - ((iushr v0 1) &&& 1431655765)) 2) &&& 858993459)) 4)) &&& 252645135) 8)) + (iushr ((((((v0 - ((iushr v0 1) &&& 1431655765)) &&& 858993459) + ((iushr (v0 - ((iushr v0 1) &&& 1431655765)) 2) &&& 858993459)) + (iushr (((v0 - ((iushr v0 1) &&& 1431655765)) &&& 858993459) + ((iushr (v0 - ((iushr v0 1) &&& 1431655765)) 2) &&& 858993459)) 4)) &&& 252645135) + (iushr (((((v0 - ((iushr v0 1) &&& 1431655765)) &&& 858993459) + ((iushr (v0 - ((iushr v0 1) &&& 1431655765)) 2) &&& 858993459)) + (iushr (((v0 - ((iushr v0 1) &&& 1431655765)) &&& 858993459) + ((iushr (v0 - ((iushr v0 1) &&& 1431655765)) 2) &&& 858993459)) 4)) &&& 252645135) 8)) 16)) &&& 63))) h) :
    Wj X k n Q 0 [(0, .int v0)] [] h := by
  refine w_iload_n (pc := 0) C dJ6_bitCount_0f7a4_0 rfl ?_
  refine w_iload_n (pc := 1) C dJ6_bitCount_0f7a4_1 rfl ?_
  refine w_iconst (pc := 2) C (v := 1) dJ6_bitCount_0f7a4_2 (by decide) ?_
  refine w_iushr (pc := 3) C dJ6_bitCount_0f7a4_3 ?_
  refine w_ldcw (pc := 4) C ct_J6_265 dJ6_bitCount_0f7a4_4 ?_
  refine w_iand (pc := 7) C dJ6_bitCount_0f7a4_7 ?_
  refine w_isub (pc := 8) C dJ6_bitCount_0f7a4_8 ?_
  refine w_istore_n (pc := 9) C dJ6_bitCount_0f7a4_9 (by decide) ?_
  refine w_iload_n (pc := 10) C dJ6_bitCount_0f7a4_10 rfl ?_
  refine w_ldcw (pc := 11) C ct_J6_266 dJ6_bitCount_0f7a4_11 ?_
  refine w_iand (pc := 14) C dJ6_bitCount_0f7a4_14 ?_
  refine w_iload_n (pc := 15) C dJ6_bitCount_0f7a4_15 rfl ?_
  refine w_iconst (pc := 16) C (v := 2) dJ6_bitCount_0f7a4_16 (by decide) ?_
  refine w_iushr (pc := 17) C dJ6_bitCount_0f7a4_17 ?_
  refine w_ldcw (pc := 18) C ct_J6_266 dJ6_bitCount_0f7a4_18 ?_
  refine w_iand (pc := 21) C dJ6_bitCount_0f7a4_21 ?_
  refine w_iadd (pc := 22) C dJ6_bitCount_0f7a4_22 ?_
  refine w_istore_n (pc := 23) C dJ6_bitCount_0f7a4_23 (by decide) ?_
  refine w_iload_n (pc := 24) C dJ6_bitCount_0f7a4_24 rfl ?_
  refine w_iload_n (pc := 25) C dJ6_bitCount_0f7a4_25 rfl ?_
  refine w_iconst (pc := 26) C (v := 4) dJ6_bitCount_0f7a4_26 (by decide) ?_
  refine w_iushr (pc := 27) C dJ6_bitCount_0f7a4_27 ?_
  refine w_iadd (pc := 28) C dJ6_bitCount_0f7a4_28 ?_
  refine w_ldcw (pc := 29) C ct_J6_267 dJ6_bitCount_0f7a4_29 ?_
  refine w_iand (pc := 32) C dJ6_bitCount_0f7a4_32 ?_
  refine w_istore_n (pc := 33) C dJ6_bitCount_0f7a4_33 (by decide) ?_
  refine w_iload_n (pc := 34) C dJ6_bitCount_0f7a4_34 rfl ?_
  refine w_iload_n (pc := 35) C dJ6_bitCount_0f7a4_35 rfl ?_
  refine w_bipush (pc := 36) C (v := 8) dJ6_bitCount_0f7a4_36 (by decide) ?_
  refine w_iushr (pc := 38) C dJ6_bitCount_0f7a4_38 ?_
  refine w_iadd (pc := 39) C dJ6_bitCount_0f7a4_39 ?_
  refine w_istore_n (pc := 40) C dJ6_bitCount_0f7a4_40 (by decide) ?_
  refine w_iload_n (pc := 41) C dJ6_bitCount_0f7a4_41 rfl ?_
  refine w_iload_n (pc := 42) C dJ6_bitCount_0f7a4_42 rfl ?_
  refine w_bipush (pc := 43) C (v := 16) dJ6_bitCount_0f7a4_43 (by decide) ?_
  refine w_iushr (pc := 45) C dJ6_bitCount_0f7a4_45 ?_
  refine w_iadd (pc := 46) C dJ6_bitCount_0f7a4_46 ?_
  refine w_istore_n (pc := 47) C dJ6_bitCount_0f7a4_47 (by decide) ?_
  refine w_iload_n (pc := 48) C dJ6_bitCount_0f7a4_48 rfl ?_
  refine w_bipush (pc := 49) C (v := 63) dJ6_bitCount_0f7a4_49 (by decide) ?_
  refine w_iand (pc := 51) C dJ6_bitCount_0f7a4_51 ?_
  exact w_iret (pc := 52) C dJ6_bitCount_0f7a4_52 hv
theorem dJ13_compare_74951_0 : decode cJ13_compare_74951 0 = .ok (.lload_n 0, 1) := by decide +kernel
theorem dJ13_compare_74951_1 : decode cJ13_compare_74951 1 = .ok (.lload_n 2, 1) := by decide +kernel
theorem dJ13_compare_74951_2 : decode cJ13_compare_74951 2 = .ok (.lcmp, 1) := by decide +kernel
theorem dJ13_compare_74951_3 : decode cJ13_compare_74951 3 = .ok (.ifCond .ge 7, 3) := by decide +kernel
theorem dJ13_compare_74951_6 : decode cJ13_compare_74951 6 = .ok (.iconst (-1), 1) := by decide +kernel
theorem dJ13_compare_74951_7 : decode cJ13_compare_74951 7 = .ok (.goto 14, 3) := by decide +kernel
theorem dJ13_compare_74951_10 : decode cJ13_compare_74951 10 = .ok (.lload_n 0, 1) := by decide +kernel
theorem dJ13_compare_74951_11 : decode cJ13_compare_74951 11 = .ok (.lload_n 2, 1) := by decide +kernel
theorem dJ13_compare_74951_12 : decode cJ13_compare_74951 12 = .ok (.lcmp, 1) := by decide +kernel
theorem dJ13_compare_74951_13 : decode cJ13_compare_74951 13 = .ok (.ifCond .ne 7, 3) := by decide +kernel
theorem dJ13_compare_74951_16 : decode cJ13_compare_74951 16 = .ok (.iconst 0, 1) := by decide +kernel
theorem dJ13_compare_74951_17 : decode cJ13_compare_74951 17 = .ok (.goto 4, 3) := by decide +kernel
theorem dJ13_compare_74951_20 : decode cJ13_compare_74951 20 = .ok (.iconst 1, 1) := by decide +kernel
theorem dJ13_compare_74951_21 : decode cJ13_compare_74951 21 = .ok (.ireturn, 1) := by decide +kernel
set_option maxRecDepth 20000 in
set_option maxHeartbeats 2000000 in
theorem V_J13_compare_74951_0 {X : Ctx} (C : C_J13_compare_74951 X) {k n : Nat} {Q : Pq} {h : Hp} {v0 v2 : Int64}
    (hv : ((v2 ≤ v0 → ((¬ v0 = v2 → Q (some (.int 1)) h) ∧
    (v0 = v2 → Q (some (.int 0)) h))) ∧
    (¬ v2 ≤ v0 → Q (some (.int (-1))) h))) :
    Wj X k n Q 0 [(0, .long v0), (2, .long v2)] [] h := by
  refine w_lload_n (pc := 0) C dJ13_compare_74951_0 rfl ?_
  refine w_lload_n (pc := 1) C dJ13_compare_74951_1 rfl ?_
  refine w_lcmp_ge (pc := 2) C (tgt := 10) dJ13_compare_74951_2 dJ13_compare_74951_3 (by decide) ?_
  obtain ⟨hv1, hv2⟩ := hv
  refine ⟨fun c2 => ?_, fun c2 => ?_⟩
  · have hv := hv1 c2
    refine w_lload_n (pc := 10) C dJ13_compare_74951_10 rfl ?_
    refine w_lload_n (pc := 11) C dJ13_compare_74951_11 rfl ?_
    refine w_lcmp_ne (pc := 12) C (tgt := 20) dJ13_compare_74951_12 dJ13_compare_74951_13 (by decide) ?_
    obtain ⟨hv1, hv2⟩ := hv
    refine ⟨fun c1 => ?_, fun c1 => ?_⟩
    · have hv := hv1 c1
      refine w_iconst (pc := 20) C (v := 1) dJ13_compare_74951_20 (by decide) ?_
      exact w_iret (pc := 21) C dJ13_compare_74951_21 hv
    · have hv := hv2 c1
      refine w_iconst (pc := 16) C (v := 0) dJ13_compare_74951_16 (by decide) ?_
      refine w_goto (pc := 17) C (tgt := 21) dJ13_compare_74951_17 (by decide) ?_
      exact w_iret (pc := 21) C dJ13_compare_74951_21 hv
  · have hv := hv2 c2
    refine w_iconst (pc := 6) C (v := (-1)) dJ13_compare_74951_6 (by decide) ?_
    refine w_goto (pc := 7) C (tgt := 21) dJ13_compare_74951_7 (by decide) ?_
    exact w_iret (pc := 21) C dJ13_compare_74951_21 hv
theorem dJ9_floorDiv_7cf53_0 : decode cJ9_floorDiv_7cf53 0 = .ok (.iload_n 0, 1) := by decide +kernel
theorem dJ9_floorDiv_7cf53_1 : decode cJ9_floorDiv_7cf53 1 = .ok (.iload_n 1, 1) := by decide +kernel
theorem dJ9_floorDiv_7cf53_2 : decode cJ9_floorDiv_7cf53 2 = .ok (.idiv, 1) := by decide +kernel
theorem dJ9_floorDiv_7cf53_3 : decode cJ9_floorDiv_7cf53 3 = .ok (.istore_n 2, 1) := by decide +kernel
theorem dJ9_floorDiv_7cf53_4 : decode cJ9_floorDiv_7cf53 4 = .ok (.iload_n 0, 1) := by decide +kernel
theorem dJ9_floorDiv_7cf53_5 : decode cJ9_floorDiv_7cf53 5 = .ok (.iload_n 1, 1) := by decide +kernel
theorem dJ9_floorDiv_7cf53_6 : decode cJ9_floorDiv_7cf53 6 = .ok (.ixor, 1) := by decide +kernel
theorem dJ9_floorDiv_7cf53_7 : decode cJ9_floorDiv_7cf53 7 = .ok (.ifCond .ge 14, 3) := by decide +kernel
theorem dJ9_floorDiv_7cf53_10 : decode cJ9_floorDiv_7cf53 10 = .ok (.iload_n 2, 1) := by decide +kernel
theorem dJ9_floorDiv_7cf53_11 : decode cJ9_floorDiv_7cf53 11 = .ok (.iload_n 1, 1) := by decide +kernel
theorem dJ9_floorDiv_7cf53_12 : decode cJ9_floorDiv_7cf53 12 = .ok (.imul, 1) := by decide +kernel
theorem dJ9_floorDiv_7cf53_13 : decode cJ9_floorDiv_7cf53 13 = .ok (.iload_n 0, 1) := by decide +kernel
theorem dJ9_floorDiv_7cf53_14 : decode cJ9_floorDiv_7cf53 14 = .ok (.if_icmp .eq 7, 3) := by decide +kernel
theorem dJ9_floorDiv_7cf53_17 : decode cJ9_floorDiv_7cf53 17 = .ok (.iload_n 2, 1) := by decide +kernel
theorem dJ9_floorDiv_7cf53_18 : decode cJ9_floorDiv_7cf53 18 = .ok (.iconst 1, 1) := by decide +kernel
theorem dJ9_floorDiv_7cf53_19 : decode cJ9_floorDiv_7cf53 19 = .ok (.isub, 1) := by decide +kernel
theorem dJ9_floorDiv_7cf53_20 : decode cJ9_floorDiv_7cf53 20 = .ok (.ireturn, 1) := by decide +kernel
theorem dJ9_floorDiv_7cf53_21 : decode cJ9_floorDiv_7cf53 21 = .ok (.iload_n 2, 1) := by decide +kernel
theorem dJ9_floorDiv_7cf53_22 : decode cJ9_floorDiv_7cf53 22 = .ok (.ireturn, 1) := by decide +kernel
set_option maxRecDepth 20000 in
set_option maxHeartbeats 2000000 in
theorem V_J9_floorDiv_7cf53_0 {X : Ctx} (C : C_J9_floorDiv_7cf53 X) {k n : Nat} {Q : Pq} {h : Hp} {v0 v1 : Int32}
    (hv : ¬ v1 = 0 ∧ ((0 ≤ (v0 ^^^ v1) → Q (some (.int (v0 / v1))) h) ∧
    (¬ 0 ≤ (v0 ^^^ v1) → ((((v0 / v1) * v1) = v0 → Q (some (.int (v0 / v1))) h) ∧
    (¬ ((v0 / v1) * v1) = v0 → Q (some (.int ((v0 / v1) - 1))) h))))) :
    Wj X k n Q 0 [(0, .int v0), (1, .int v1)] [] h := by
  refine w_iload_n (pc := 0) C dJ9_floorDiv_7cf53_0 rfl ?_
  refine w_iload_n (pc := 1) C dJ9_floorDiv_7cf53_1 rfl ?_
  obtain ⟨f1, hv⟩ := hv
  refine w_idiv (pc := 2) C dJ9_floorDiv_7cf53_2 f1 ?_
  refine w_istore_n (pc := 3) C dJ9_floorDiv_7cf53_3 (by decide) ?_
  refine w_iload_n (pc := 4) C dJ9_floorDiv_7cf53_4 rfl ?_
  refine w_iload_n (pc := 5) C dJ9_floorDiv_7cf53_5 rfl ?_
  refine w_ixor (pc := 6) C dJ9_floorDiv_7cf53_6 ?_
  refine w_if_ge (pc := 7) C (tgt := 21) dJ9_floorDiv_7cf53_7 (by decide) ?_
  obtain ⟨hv1, hv2⟩ := hv
  refine ⟨fun c3 => ?_, fun c3 => ?_⟩
  · have hv := hv1 c3
    refine w_iload_n (pc := 21) C dJ9_floorDiv_7cf53_21 rfl ?_
    exact w_iret (pc := 22) C dJ9_floorDiv_7cf53_22 hv
  · have hv := hv2 c3
    refine w_iload_n (pc := 10) C dJ9_floorDiv_7cf53_10 rfl ?_
    refine w_iload_n (pc := 11) C dJ9_floorDiv_7cf53_11 rfl ?_
    refine w_imul (pc := 12) C dJ9_floorDiv_7cf53_12 ?_
    refine w_iload_n (pc := 13) C dJ9_floorDiv_7cf53_13 rfl ?_
    refine w_icmp_eq (pc := 14) C (tgt := 21) dJ9_floorDiv_7cf53_14 (by decide) ?_
    obtain ⟨hv1, hv2⟩ := hv
    refine ⟨fun c2 => ?_, fun c2 => ?_⟩
    · have hv := hv1 c2
      refine w_iload_n (pc := 21) C dJ9_floorDiv_7cf53_21 rfl ?_
      exact w_iret (pc := 22) C dJ9_floorDiv_7cf53_22 hv
    · have hv := hv2 c2
      refine w_iload_n (pc := 17) C dJ9_floorDiv_7cf53_17 rfl ?_
      refine w_iconst (pc := 18) C (v := 1) dJ9_floorDiv_7cf53_18 (by decide) ?_
      refine w_isub (pc := 19) C dJ9_floorDiv_7cf53_19 ?_
      exact w_iret (pc := 20) C dJ9_floorDiv_7cf53_20 hv
theorem dJ9_floorMod_7cf53_0 : decode cJ9_floorMod_7cf53 0 = .ok (.iload_n 0, 1) := by decide +kernel
theorem dJ9_floorMod_7cf53_1 : decode cJ9_floorMod_7cf53 1 = .ok (.iload_n 1, 1) := by decide +kernel
theorem dJ9_floorMod_7cf53_2 : decode cJ9_floorMod_7cf53 2 = .ok (.irem, 1) := by decide +kernel
theorem dJ9_floorMod_7cf53_3 : decode cJ9_floorMod_7cf53 3 = .ok (.istore_n 2, 1) := by decide +kernel
theorem dJ9_floorMod_7cf53_4 : decode cJ9_floorMod_7cf53 4 = .ok (.iload_n 0, 1) := by decide +kernel
theorem dJ9_floorMod_7cf53_5 : decode cJ9_floorMod_7cf53 5 = .ok (.iload_n 1, 1) := by decide +kernel
theorem dJ9_floorMod_7cf53_6 : decode cJ9_floorMod_7cf53 6 = .ok (.ixor, 1) := by decide +kernel
theorem dJ9_floorMod_7cf53_7 : decode cJ9_floorMod_7cf53 7 = .ok (.ifCond .ge 11, 3) := by decide +kernel
theorem dJ9_floorMod_7cf53_10 : decode cJ9_floorMod_7cf53 10 = .ok (.iload_n 2, 1) := by decide +kernel
theorem dJ9_floorMod_7cf53_11 : decode cJ9_floorMod_7cf53 11 = .ok (.ifCond .eq 7, 3) := by decide +kernel
theorem dJ9_floorMod_7cf53_14 : decode cJ9_floorMod_7cf53 14 = .ok (.iload_n 2, 1) := by decide +kernel
theorem dJ9_floorMod_7cf53_15 : decode cJ9_floorMod_7cf53 15 = .ok (.iload_n 1, 1) := by decide +kernel
theorem dJ9_floorMod_7cf53_16 : decode cJ9_floorMod_7cf53 16 = .ok (.iadd, 1) := by decide +kernel
theorem dJ9_floorMod_7cf53_17 : decode cJ9_floorMod_7cf53 17 = .ok (.ireturn, 1) := by decide +kernel
theorem dJ9_floorMod_7cf53_18 : decode cJ9_floorMod_7cf53 18 = .ok (.iload_n 2, 1) := by decide +kernel
theorem dJ9_floorMod_7cf53_19 : decode cJ9_floorMod_7cf53 19 = .ok (.ireturn, 1) := by decide +kernel
set_option maxRecDepth 20000 in
set_option maxHeartbeats 2000000 in
theorem V_J9_floorMod_7cf53_0 {X : Ctx} (C : C_J9_floorMod_7cf53 X) {k n : Nat} {Q : Pq} {h : Hp} {v0 v1 : Int32}
    (hv : ¬ v1 = 0 ∧ ((0 ≤ (v0 ^^^ v1) → Q (some (.int (v0 % v1))) h) ∧
    (¬ 0 ≤ (v0 ^^^ v1) → (((v0 % v1) = 0 → Q (some (.int (v0 % v1))) h) ∧
    (¬ (v0 % v1) = 0 → Q (some (.int ((v0 % v1) + v1))) h))))) :
    Wj X k n Q 0 [(0, .int v0), (1, .int v1)] [] h := by
  refine w_iload_n (pc := 0) C dJ9_floorMod_7cf53_0 rfl ?_
  refine w_iload_n (pc := 1) C dJ9_floorMod_7cf53_1 rfl ?_
  obtain ⟨f1, hv⟩ := hv
  refine w_irem (pc := 2) C dJ9_floorMod_7cf53_2 f1 ?_
  refine w_istore_n (pc := 3) C dJ9_floorMod_7cf53_3 (by decide) ?_
  refine w_iload_n (pc := 4) C dJ9_floorMod_7cf53_4 rfl ?_
  refine w_iload_n (pc := 5) C dJ9_floorMod_7cf53_5 rfl ?_
  refine w_ixor (pc := 6) C dJ9_floorMod_7cf53_6 ?_
  refine w_if_ge (pc := 7) C (tgt := 18) dJ9_floorMod_7cf53_7 (by decide) ?_
  obtain ⟨hv1, hv2⟩ := hv
  refine ⟨fun c3 => ?_, fun c3 => ?_⟩
  · have hv := hv1 c3
    refine w_iload_n (pc := 18) C dJ9_floorMod_7cf53_18 rfl ?_
    exact w_iret (pc := 19) C dJ9_floorMod_7cf53_19 hv
  · have hv := hv2 c3
    refine w_iload_n (pc := 10) C dJ9_floorMod_7cf53_10 rfl ?_
    refine w_if_eq (pc := 11) C (tgt := 18) dJ9_floorMod_7cf53_11 (by decide) ?_
    obtain ⟨hv1, hv2⟩ := hv
    refine ⟨fun c2 => ?_, fun c2 => ?_⟩
    · have hv := hv1 c2
      refine w_iload_n (pc := 18) C dJ9_floorMod_7cf53_18 rfl ?_
      exact w_iret (pc := 19) C dJ9_floorMod_7cf53_19 hv
    · have hv := hv2 c2
      refine w_iload_n (pc := 14) C dJ9_floorMod_7cf53_14 rfl ?_
      refine w_iload_n (pc := 15) C dJ9_floorMod_7cf53_15 rfl ?_
      refine w_iadd (pc := 16) C dJ9_floorMod_7cf53_16 ?_
      exact w_iret (pc := 17) C dJ9_floorMod_7cf53_17 hv
theorem dJ9_floorMod_f86c9_0 : decode cJ9_floorMod_f86c9 0 = .ok (.lload_n 0, 1) := by decide +kernel
theorem dJ9_floorMod_f86c9_1 : decode cJ9_floorMod_f86c9 1 = .ok (.lload_n 2, 1) := by decide +kernel
theorem dJ9_floorMod_f86c9_2 : decode cJ9_floorMod_f86c9 2 = .ok (.lrem, 1) := by decide +kernel
theorem dJ9_floorMod_f86c9_3 : decode cJ9_floorMod_f86c9 3 = .ok (.lstore 4, 2) := by decide +kernel
theorem dJ9_floorMod_f86c9_5 : decode cJ9_floorMod_f86c9 5 = .ok (.lload_n 0, 1) := by decide +kernel
theorem dJ9_floorMod_f86c9_6 : decode cJ9_floorMod_f86c9 6 = .ok (.lload_n 2, 1) := by decide +kernel
theorem dJ9_floorMod_f86c9_7 : decode cJ9_floorMod_f86c9 7 = .ok (.lxor, 1) := by decide +kernel
theorem dJ9_floorMod_f86c9_8 : decode cJ9_floorMod_f86c9 8 = .ok (.lconst 0, 1) := by decide +kernel
theorem dJ9_floorMod_f86c9_9 : decode cJ9_floorMod_f86c9 9 = .ok (.lcmp, 1) := by decide +kernel
theorem dJ9_floorMod_f86c9_10 : decode cJ9_floorMod_f86c9 10 = .ok (.ifCond .ge 15, 3) := by decide +kernel
theorem dJ9_floorMod_f86c9_13 : decode cJ9_floorMod_f86c9 13 = .ok (.lload 4, 2) := by decide +kernel
theorem dJ9_floorMod_f86c9_15 : decode cJ9_floorMod_f86c9 15 = .ok (.lconst 0, 1) := by decide +kernel
theorem dJ9_floorMod_f86c9_16 : decode cJ9_floorMod_f86c9 16 = .ok (.lcmp, 1) := by decide +kernel
theorem dJ9_floorMod_f86c9_17 : decode cJ9_floorMod_f86c9 17 = .ok (.ifCond .eq 8, 3) := by decide +kernel
theorem dJ9_floorMod_f86c9_20 : decode cJ9_floorMod_f86c9 20 = .ok (.lload 4, 2) := by decide +kernel
theorem dJ9_floorMod_f86c9_22 : decode cJ9_floorMod_f86c9 22 = .ok (.lload_n 2, 1) := by decide +kernel
theorem dJ9_floorMod_f86c9_23 : decode cJ9_floorMod_f86c9 23 = .ok (.ladd, 1) := by decide +kernel
theorem dJ9_floorMod_f86c9_24 : decode cJ9_floorMod_f86c9 24 = .ok (.lreturn, 1) := by decide +kernel
theorem dJ9_floorMod_f86c9_25 : decode cJ9_floorMod_f86c9 25 = .ok (.lload 4, 2) := by decide +kernel
theorem dJ9_floorMod_f86c9_27 : decode cJ9_floorMod_f86c9 27 = .ok (.lreturn, 1) := by decide +kernel
set_option maxRecDepth 20000 in
set_option maxHeartbeats 2000000 in
theorem V_J9_floorMod_f86c9_0 {X : Ctx} (C : C_J9_floorMod_f86c9 X) {k n : Nat} {Q : Pq} {h : Hp} {v0 v2 : Int64}
    (hv : ¬ v2 = 0 ∧ ((0 ≤ (v0 ^^^ v2) → Q (some (.long (v0 % v2))) h) ∧
    (¬ 0 ≤ (v0 ^^^ v2) → (((v0 % v2) = 0 → Q (some (.long (v0 % v2))) h) ∧
    (¬ (v0 % v2) = 0 → Q (some (.long ((v0 % v2) + v2))) h))))) :
    Wj X k n Q 0 [(0, .long v0), (2, .long v2)] [] h := by
  refine w_lload_n (pc := 0) C dJ9_floorMod_f86c9_0 rfl ?_
  refine w_lload_n (pc := 1) C dJ9_floorMod_f86c9_1 rfl ?_
  obtain ⟨f1, hv⟩ := hv
  refine w_lrem (pc := 2) C dJ9_floorMod_f86c9_2 f1 ?_
  refine w_lstore (pc := 3) C dJ9_floorMod_f86c9_3 (by decide) ?_
  refine w_lload_n (pc := 5) C dJ9_floorMod_f86c9_5 rfl ?_
  refine w_lload_n (pc := 6) C dJ9_floorMod_f86c9_6 rfl ?_
  refine w_lxor (pc := 7) C dJ9_floorMod_f86c9_7 ?_
  refine w_lconst (pc := 8) C (v := 0) dJ9_floorMod_f86c9_8 (by decide) ?_
  refine w_lcmp_ge (pc := 9) C (tgt := 25) dJ9_floorMod_f86c9_9 dJ9_floorMod_f86c9_10 (by decide) ?_
  obtain ⟨hv1, hv2⟩ := hv
  refine ⟨fun c3 => ?_, fun c3 => ?_⟩
  · have hv := hv1 c3
    refine w_lload (pc := 25) C dJ9_floorMod_f86c9_25 rfl ?_
    exact w_lret (pc := 27) C dJ9_floorMod_f86c9_27 hv
  · have hv := hv2 c3
    refine w_lload (pc := 13) C dJ9_floorMod_f86c9_13 rfl ?_
    refine w_lconst (pc := 15) C (v := 0) dJ9_floorMod_f86c9_15 (by decide) ?_
    refine w_lcmp_eq (pc := 16) C (tgt := 25) dJ9_floorMod_f86c9_16 dJ9_floorMod_f86c9_17 (by decide) ?_
    obtain ⟨hv1, hv2⟩ := hv
    refine ⟨fun c2 => ?_, fun c2 => ?_⟩
    · have hv := hv1 c2
      refine w_lload (pc := 25) C dJ9_floorMod_f86c9_25 rfl ?_
      exact w_lret (pc := 27) C dJ9_floorMod_f86c9_27 hv
    · have hv := hv2 c2
      refine w_lload (pc := 20) C dJ9_floorMod_f86c9_20 rfl ?_
      refine w_lload_n (pc := 22) C dJ9_floorMod_f86c9_22 rfl ?_
      refine w_ladd (pc := 23) C dJ9_floorMod_f86c9_23 ?_
      exact w_lret (pc := 24) C dJ9_floorMod_f86c9_24 hv
theorem dJ9_abs_0f7a4_0 : decode cJ9_abs_0f7a4 0 = .ok (.iload_n 0, 1) := by decide +kernel
theorem dJ9_abs_0f7a4_1 : decode cJ9_abs_0f7a4 1 = .ok (.ifCond .ge 8, 3) := by decide +kernel
theorem dJ9_abs_0f7a4_4 : decode cJ9_abs_0f7a4 4 = .ok (.iload_n 0, 1) := by decide +kernel
theorem dJ9_abs_0f7a4_5 : decode cJ9_abs_0f7a4 5 = .ok (.ineg, 1) := by decide +kernel
theorem dJ9_abs_0f7a4_6 : decode cJ9_abs_0f7a4 6 = .ok (.goto 4, 3) := by decide +kernel
theorem dJ9_abs_0f7a4_9 : decode cJ9_abs_0f7a4 9 = .ok (.iload_n 0, 1) := by decide +kernel
theorem dJ9_abs_0f7a4_10 : decode cJ9_abs_0f7a4 10 = .ok (.ireturn, 1) := by decide +kernel
set_option maxRecDepth 20000 in
set_option maxHeartbeats 2000000 in
theorem V_J9_abs_0f7a4_0 {X : Ctx} (C : C_J9_abs_0f7a4 X) {k n : Nat} {Q : Pq} {h : Hp} {v0 : Int32}
    (hv : ((0 ≤ v0 → Q (some (.int v0)) h) ∧
    (¬ 0 ≤ v0 → Q (some (.int (-v0))) h))) :
    Wj X k n Q 0 [(0, .int v0)] [] h := by
  refine w_iload_n (pc := 0) C dJ9_abs_0f7a4_0 rfl ?_
  refine w_if_ge (pc := 1) C (tgt := 9) dJ9_abs_0f7a4_1 (by decide) ?_
  obtain ⟨hv1, hv2⟩ := hv
  refine ⟨fun c1 => ?_, fun c1 => ?_⟩
  · have hv := hv1 c1
    refine w_iload_n (pc := 9) C dJ9_abs_0f7a4_9 rfl ?_
    exact w_iret (pc := 10) C dJ9_abs_0f7a4_10 hv
  · have hv := hv2 c1
    refine w_iload_n (pc := 4) C dJ9_abs_0f7a4_4 rfl ?_
    refine w_ineg (pc := 5) C dJ9_abs_0f7a4_5 ?_
    refine w_goto (pc := 6) C (tgt := 10) dJ9_abs_0f7a4_6 (by decide) ?_
    exact w_iret (pc := 10) C dJ9_abs_0f7a4_10 hv
theorem dJ9_abs_067f4_0 : decode cJ9_abs_067f4 0 = .ok (.lload_n 0, 1) := by decide +kernel
theorem dJ9_abs_067f4_1 : decode cJ9_abs_067f4 1 = .ok (.lconst 0, 1) := by decide +kernel
theorem dJ9_abs_067f4_2 : decode cJ9_abs_067f4 2 = .ok (.lcmp, 1) := by decide +kernel
theorem dJ9_abs_067f4_3 : decode cJ9_abs_067f4 3 = .ok (.ifCond .ge 8, 3) := by decide +kernel
theorem dJ9_abs_067f4_6 : decode cJ9_abs_067f4 6 = .ok (.lload_n 0, 1) := by decide +kernel
theorem dJ9_abs_067f4_7 : decode cJ9_abs_067f4 7 = .ok (.lneg, 1) := by decide +kernel
theorem dJ9_abs_067f4_8 : decode cJ9_abs_067f4 8 = .ok (.goto 4, 3) := by decide +kernel
theorem dJ9_abs_067f4_11 : decode cJ9_abs_067f4 11 = .ok (.lload_n 0, 1) := by decide +kernel
theorem dJ9_abs_067f4_12 : decode cJ9_abs_067f4 12 = .ok (.lreturn, 1) := by decide +kernel
set_option maxRecDepth 20000 in
set_option maxHeartbeats 2000000 in
theorem V_J9_abs_067f4_0 {X : Ctx} (C : C_J9_abs_067f4 X) {k n : Nat} {Q : Pq} {h : Hp} {v0 : Int64}
    (hv : ((0 ≤ v0 → Q (some (.long v0)) h) ∧
    (¬ 0 ≤ v0 → Q (some (.long (-v0))) h))) :
    Wj X k n Q 0 [(0, .long v0)] [] h := by
  refine w_lload_n (pc := 0) C dJ9_abs_067f4_0 rfl ?_
  refine w_lconst (pc := 1) C (v := 0) dJ9_abs_067f4_1 (by decide) ?_
  refine w_lcmp_ge (pc := 2) C (tgt := 11) dJ9_abs_067f4_2 dJ9_abs_067f4_3 (by decide) ?_
  obtain ⟨hv1, hv2⟩ := hv
  refine ⟨fun c1 => ?_, fun c1 => ?_⟩
  · have hv := hv1 c1
    refine w_lload_n (pc := 11) C dJ9_abs_067f4_11 rfl ?_
    exact w_lret (pc := 12) C dJ9_abs_067f4_12 hv
  · have hv := hv2 c1
    refine w_lload_n (pc := 6) C dJ9_abs_067f4_6 rfl ?_
    refine w_lneg (pc := 7) C dJ9_abs_067f4_7 ?_
    refine w_goto (pc := 8) C (tgt := 12) dJ9_abs_067f4_8 (by decide) ?_
    exact w_lret (pc := 12) C dJ9_abs_067f4_12 hv
theorem dJ7_fill_53178_0 : decode cJ7_fill_53178 0 = .ok (.iconst 0, 1) := by decide +kernel
theorem dJ7_fill_53178_1 : decode cJ7_fill_53178 1 = .ok (.istore_n 2, 1) := by decide +kernel
theorem dJ7_fill_53178_2 : decode cJ7_fill_53178 2 = .ok (.aload_n 0, 1) := by decide +kernel
theorem dJ7_fill_53178_3 : decode cJ7_fill_53178 3 = .ok (.arraylength, 1) := by decide +kernel
theorem dJ7_fill_53178_4 : decode cJ7_fill_53178 4 = .ok (.istore_n 3, 1) := by decide +kernel
theorem dJ7_fill_53178_5 : decode cJ7_fill_53178 5 = .ok (.iload_n 2, 1) := by decide +kernel
theorem dJ7_fill_53178_6 : decode cJ7_fill_53178 6 = .ok (.iload_n 3, 1) := by decide +kernel
theorem dJ7_fill_53178_7 : decode cJ7_fill_53178 7 = .ok (.if_icmp .ge 13, 3) := by decide +kernel
theorem dJ7_fill_53178_10 : decode cJ7_fill_53178 10 = .ok (.aload_n 0, 1) := by decide +kernel
theorem dJ7_fill_53178_11 : decode cJ7_fill_53178 11 = .ok (.iload_n 2, 1) := by decide +kernel
theorem dJ7_fill_53178_12 : decode cJ7_fill_53178 12 = .ok (.iload_n 1, 1) := by decide +kernel
theorem dJ7_fill_53178_13 : decode cJ7_fill_53178 13 = .ok (.iastore, 1) := by decide +kernel
theorem dJ7_fill_53178_14 : decode cJ7_fill_53178 14 = .ok (.iinc 2 1, 3) := by decide +kernel
theorem dJ7_fill_53178_17 : decode cJ7_fill_53178 17 = .ok (.goto (-12), 3) := by decide +kernel
theorem dJ7_fill_53178_20 : decode cJ7_fill_53178 20 = .ok (.return_, 1) := by decide +kernel
set_option maxRecDepth 20000 in
set_option maxHeartbeats 2000000 in
theorem V_J7_fill_53178_0 {X : Ctx} (C : C_J7_fill_53178 X) {k n : Nat} {Q : Pq} {h : Hp} {v0 : Nat} {v1 : Int32}
    (hv : kd h v0 = 20 ∧ Wj X k n Q 5 [(0, .ref v0), (1, .int v1), (2, .int 0), (3, .int (Int32.ofNat (ln h v0)))] [] h) :
    Wj X k n Q 0 [(0, .ref v0), (1, .int v1)] [] h := by
  refine w_iconst (pc := 0) C (v := 0) dJ7_fill_53178_0 (by decide) ?_
  refine w_istore_n (pc := 1) C dJ7_fill_53178_1 (by decide) ?_
  refine w_aload_n (pc := 2) C dJ7_fill_53178_2 rfl ?_
  obtain ⟨f1, hv⟩ := hv
  refine w_alen (pc := 3) 0 (by decide) C dJ7_fill_53178_3 f1 ?_
  refine w_istore_n (pc := 4) C dJ7_fill_53178_4 (by decide) ?_
  refine w_sub ?_ hv
  exact ⟨rfl, rfl, rfl, rfl, trivial⟩
set_option maxRecDepth 20000 in
set_option maxHeartbeats 2000000 in
theorem V_J7_fill_53178_5 {X : Ctx} (C : C_J7_fill_53178 X) {k n : Nat} {Q : Pq} {h : Hp} {v0 : Nat} {v1 v2 v3 : Int32}
    (hv : ((v3 ≤ v2 → Q none h) ∧
    (¬ v3 ≤ v2 → kd h v0 = 20 ∧ inb v2 (ln h v0) ∧ Wj X k n Q 5 [(0, .ref v0), (1, .int v1), (2, .int (v2 + Int32.ofInt 1)), (3, .int v3)] [] (si h v0 (ix v2) v1)))) :
    Wj X k n Q 5 [(0, .ref v0), (1, .int v1), (2, .int v2), (3, .int v3)] [] h := by
  refine w_iload_n (pc := 5) C dJ7_fill_53178_5 rfl ?_
  refine w_iload_n (pc := 6) C dJ7_fill_53178_6 rfl ?_
  refine w_icmp_ge (pc := 7) C (tgt := 20) dJ7_fill_53178_7 (by decide) ?_
  obtain ⟨hv1, hv2⟩ := hv
  refine ⟨fun c3 => ?_, fun c3 => ?_⟩
  · have hv := hv1 c3
    exact w_vret (pc := 20) C dJ7_fill_53178_20 hv
  · have hv := hv2 c3
    refine w_aload_n (pc := 10) C dJ7_fill_53178_10 rfl ?_
    refine w_iload_n (pc := 11) C dJ7_fill_53178_11 rfl ?_
    refine w_iload_n (pc := 12) C dJ7_fill_53178_12 rfl ?_
    obtain ⟨f1, hv⟩ := hv
    obtain ⟨f2, hv⟩ := hv
    refine w_iast (pc := 13) C dJ7_fill_53178_13 f1 f2 ?_
    refine w_iinc (pc := 14) C dJ7_fill_53178_14 rfl (by decide) ?_
    refine w_goto (pc := 17) C (tgt := 5) dJ7_fill_53178_17 (by decide) ?_
    refine w_sub ?_ hv
    exact ⟨rfl, rfl, rfl, rfl, trivial⟩
theorem dX9_common_0 : decode cX9_common 0 = .ok (.lload_n 0, 1) := by decide +kernel
theorem dX9_common_1 : decode cX9_common 1 = .ok (.lconst 0, 1) := by decide +kernel
theorem dX9_common_2 : decode cX9_common 2 = .ok (.lcmp, 1) := by decide +kernel
theorem dX9_common_3 : decode cX9_common 3 = .ok (.ifCond .ge 8, 3) := by decide +kernel
theorem dX9_common_6 : decode cX9_common 6 = .ok (.lload_n 0, 1) := by decide +kernel
theorem dX9_common_7 : decode cX9_common 7 = .ok (.lneg, 1) := by decide +kernel
theorem dX9_common_8 : decode cX9_common 8 = .ok (.goto 4, 3) := by decide +kernel
theorem dX9_common_11 : decode cX9_common 11 = .ok (.lload_n 0, 1) := by decide +kernel
theorem dX9_common_12 : decode cX9_common 12 = .ok (.lstore 4, 2) := by decide +kernel
theorem dX9_common_14 : decode cX9_common 14 = .ok (.lload_n 2, 1) := by decide +kernel
theorem dX9_common_15 : decode cX9_common 15 = .ok (.lconst 0, 1) := by decide +kernel
theorem dX9_common_16 : decode cX9_common 16 = .ok (.lcmp, 1) := by decide +kernel
theorem dX9_common_17 : decode cX9_common 17 = .ok (.ifCond .ge 8, 3) := by decide +kernel
theorem dX9_common_20 : decode cX9_common 20 = .ok (.lload_n 2, 1) := by decide +kernel
theorem dX9_common_21 : decode cX9_common 21 = .ok (.lneg, 1) := by decide +kernel
theorem dX9_common_22 : decode cX9_common 22 = .ok (.goto 4, 3) := by decide +kernel
theorem dX9_common_25 : decode cX9_common 25 = .ok (.lload_n 2, 1) := by decide +kernel
theorem dX9_common_26 : decode cX9_common 26 = .ok (.lstore 6, 2) := by decide +kernel
theorem dX9_common_28 : decode cX9_common 28 = .ok (.iconst 0, 1) := by decide +kernel
theorem dX9_common_29 : decode cX9_common 29 = .ok (.istore 8, 2) := by decide +kernel
theorem dX9_common_31 : decode cX9_common 31 = .ok (.iload 8, 2) := by decide +kernel
theorem dX9_common_33 : decode cX9_common 33 = .ok (.sipush 200, 3) := by decide +kernel
theorem dX9_common_36 : decode cX9_common 36 = .ok (.if_icmp .ge 31, 3) := by decide +kernel
theorem dX9_common_39 : decode cX9_common 39 = .ok (.lload 6, 2) := by decide +kernel
theorem dX9_common_41 : decode cX9_common 41 = .ok (.lconst 0, 1) := by decide +kernel
theorem dX9_common_42 : decode cX9_common 42 = .ok (.lcmp, 1) := by decide +kernel
theorem dX9_common_43 : decode cX9_common 43 = .ok (.ifCond .eq 24, 3) := by decide +kernel
theorem dX9_common_46 : decode cX9_common 46 = .ok (.lload 4, 2) := by decide +kernel
theorem dX9_common_48 : decode cX9_common 48 = .ok (.lload 6, 2) := by decide +kernel
theorem dX9_common_50 : decode cX9_common 50 = .ok (.lrem, 1) := by decide +kernel
theorem dX9_common_51 : decode cX9_common 51 = .ok (.lstore 9, 2) := by decide +kernel
theorem dX9_common_53 : decode cX9_common 53 = .ok (.lload 6, 2) := by decide +kernel
theorem dX9_common_55 : decode cX9_common 55 = .ok (.lstore 4, 2) := by decide +kernel
theorem dX9_common_57 : decode cX9_common 57 = .ok (.lload 9, 2) := by decide +kernel
theorem dX9_common_59 : decode cX9_common 59 = .ok (.lstore 6, 2) := by decide +kernel
theorem dX9_common_61 : decode cX9_common 61 = .ok (.iinc 8 1, 3) := by decide +kernel
theorem dX9_common_64 : decode cX9_common 64 = .ok (.goto (-33), 3) := by decide +kernel
theorem dX9_common_67 : decode cX9_common 67 = .ok (.lload 4, 2) := by decide +kernel
theorem dX9_common_69 : decode cX9_common 69 = .ok (.lconst 0, 1) := by decide +kernel
theorem dX9_common_70 : decode cX9_common 70 = .ok (.lcmp, 1) := by decide +kernel
theorem dX9_common_71 : decode cX9_common 71 = .ok (.ifCond .gt 7, 3) := by decide +kernel
theorem dX9_common_74 : decode cX9_common 74 = .ok (.lconst 1, 1) := by decide +kernel
theorem dX9_common_75 : decode cX9_common 75 = .ok (.goto 5, 3) := by decide +kernel
theorem dX9_common_78 : decode cX9_common 78 = .ok (.lload 4, 2) := by decide +kernel
theorem dX9_common_80 : decode cX9_common 80 = .ok (.lreturn, 1) := by decide +kernel
set_option maxRecDepth 20000 in
set_option maxHeartbeats 2000000 in
theorem V_X9_common_0 {X : Ctx} (C : C_X9_common X) {k n : Nat} {Q : Pq} {h : Hp} {v0 v2 : Int64}
    (hv : ((0 ≤ v0 → Wj X k n Q 12 [(2, .long v2)] [.long v0] h) ∧
    (¬ 0 ≤ v0 → Wj X k n Q 12 [(2, .long v2)] [.long (-v0)] h))) :
    Wj X k n Q 0 [(0, .long v0), (2, .long v2)] [] h := by
  refine w_lload_n (pc := 0) C dX9_common_0 rfl ?_
  refine w_lconst (pc := 1) C (v := 0) dX9_common_1 (by decide) ?_
  refine w_lcmp_ge (pc := 2) C (tgt := 11) dX9_common_2 dX9_common_3 (by decide) ?_
  obtain ⟨hv1, hv2⟩ := hv
  refine ⟨fun c1 => ?_, fun c1 => ?_⟩
  · have hv := hv1 c1
    refine w_lload_n (pc := 11) C dX9_common_11 rfl ?_
    refine w_sub ?_ hv
    exact ⟨rfl, trivial⟩
  · have hv := hv2 c1
    refine w_lload_n (pc := 6) C dX9_common_6 rfl ?_
    refine w_lneg (pc := 7) C dX9_common_7 ?_
    refine w_goto (pc := 8) C (tgt := 12) dX9_common_8 (by decide) ?_
    refine w_sub ?_ hv
    exact ⟨rfl, trivial⟩
set_option maxRecDepth 20000 in
set_option maxHeartbeats 2000000 in
theorem V_X9_common_12 {X : Ctx} (C : C_X9_common X) {k n : Nat} {Q : Pq} {h : Hp} {v2 s0 : Int64}
    (hv : ((0 ≤ v2 → Wj X k n Q 31 [(4, .long s0), (6, .long v2), (8, .int 0)] [] h) ∧
    (¬ 0 ≤ v2 → Wj X k n Q 31 [(4, .long s0), (6, .long (-v2)), (8, .int 0)] [] h))) :
    Wj X k n Q 12 [(2, .long v2)] [.long s0] h := by
  refine w_lstore (pc := 12) C dX9_common_12 (by decide) ?_
  refine w_lload_n (pc := 14) C dX9_common_14 rfl ?_
  refine w_lconst (pc := 15) C (v := 0) dX9_common_15 (by decide) ?_
  refine w_lcmp_ge (pc := 16) C (tgt := 25) dX9_common_16 dX9_common_17 (by decide) ?_
  obtain ⟨hv1, hv2⟩ := hv
  refine ⟨fun c1 => ?_, fun c1 => ?_⟩
  · have hv := hv1 c1
    refine w_lload_n (pc := 25) C dX9_common_25 rfl ?_
    refine w_lstore (pc := 26) C dX9_common_26 (by decide) ?_
    refine w_iconst (pc := 28) C (v := 0) dX9_common_28 (by decide) ?_
    refine w_istore (pc := 29) C dX9_common_29 (by decide) ?_
    refine w_sub ?_ hv
    exact ⟨rfl, rfl, rfl, trivial⟩
  · have hv := hv2 c1
    refine w_lload_n (pc := 20) C dX9_common_20 rfl ?_
    refine w_lneg (pc := 21) C dX9_common_21 ?_
    refine w_goto (pc := 22) C (tgt := 26) dX9_common_22 (by decide) ?_
    refine w_lstore (pc := 26) C dX9_common_26 (by decide) ?_
    refine w_iconst (pc := 28) C (v := 0) dX9_common_28 (by decide) ?_
    refine w_istore (pc := 29) C dX9_common_29 (by decide) ?_
    refine w_sub ?_ hv
    exact ⟨rfl, rfl, rfl, trivial⟩
set_option maxRecDepth 20000 in
set_option maxHeartbeats 2000000 in
theorem V_X9_common_31 {X : Ctx} (C : C_X9_common X) {k n : Nat} {Q : Pq} {h : Hp} {v4 v6 : Int64} {v8 : Int32}
    (hv : ((200 ≤ v8 → Wj X k n Q 67 [(4, .long v4)] [] h) ∧
    (¬ 200 ≤ v8 → ((v6 = 0 → Wj X k n Q 67 [(4, .long v4)] [] h) ∧
    (¬ v6 = 0 → ¬ v6 = 0 ∧ Wj X k n Q 31 [(4, .long v6), (6, .long (v4 % v6)), (8, .int (v8 + Int32.ofInt 1))] [] h))))) :
    Wj X k n Q 31 [(4, .long v4), (6, .long v6), (8, .int v8)] [] h := by
  refine w_iload (pc := 31) C dX9_common_31 rfl ?_
  refine w_sipush (pc := 33) C (v := 200) dX9_common_33 (by decide) ?_
  refine w_icmp_ge (pc := 36) C (tgt := 67) dX9_common_36 (by decide) ?_
  obtain ⟨hv1, hv2⟩ := hv
  refine ⟨fun c3 => ?_, fun c3 => ?_⟩
  · have hv := hv1 c3
    refine w_sub ?_ hv
    exact ⟨rfl, trivial⟩
  · have hv := hv2 c3
    refine w_lload (pc := 39) C dX9_common_39 rfl ?_
    refine w_lconst (pc := 41) C (v := 0) dX9_common_41 (by decide) ?_
    refine w_lcmp_eq (pc := 42) C (tgt := 67) dX9_common_42 dX9_common_43 (by decide) ?_
    obtain ⟨hv1, hv2⟩ := hv
    refine ⟨fun c2 => ?_, fun c2 => ?_⟩
    · have hv := hv1 c2
      refine w_sub ?_ hv
      exact ⟨rfl, trivial⟩
    · have hv := hv2 c2
      refine w_lload (pc := 46) C dX9_common_46 rfl ?_
      refine w_lload (pc := 48) C dX9_common_48 rfl ?_
      obtain ⟨f1, hv⟩ := hv
      refine w_lrem (pc := 50) C dX9_common_50 f1 ?_
      refine w_lstore (pc := 51) C dX9_common_51 (by decide) ?_
      refine w_lload (pc := 53) C dX9_common_53 rfl ?_
      refine w_lstore (pc := 55) C dX9_common_55 (by decide) ?_
      refine w_lload (pc := 57) C dX9_common_57 rfl ?_
      refine w_lstore (pc := 59) C dX9_common_59 (by decide) ?_
      refine w_iinc (pc := 61) C dX9_common_61 rfl (by decide) ?_
      refine w_goto (pc := 64) C (tgt := 31) dX9_common_64 (by decide) ?_
      refine w_sub ?_ hv
      exact ⟨rfl, rfl, rfl, trivial⟩
set_option maxRecDepth 20000 in
set_option maxHeartbeats 2000000 in
theorem V_X9_common_67 {X : Ctx} (C : C_X9_common X) {k n : Nat} {Q : Pq} {h : Hp} {v4 : Int64}
    (hv : ((0 < v4 → Q (some (.long v4)) h) ∧
    (¬ 0 < v4 → Q (some (.long 1)) h))) :
    Wj X k n Q 67 [(4, .long v4)] [] h := by
  refine w_lload (pc := 67) C dX9_common_67 rfl ?_
  refine w_lconst (pc := 69) C (v := 0) dX9_common_69 (by decide) ?_
  refine w_lcmp_gt (pc := 70) C (tgt := 78) dX9_common_70 dX9_common_71 (by decide) ?_
  obtain ⟨hv1, hv2⟩ := hv
  refine ⟨fun c1 => ?_, fun c1 => ?_⟩
  · have hv := hv1 c1
    refine w_lload (pc := 78) C dX9_common_78 rfl ?_
    exact w_lret (pc := 80) C dX9_common_80 hv
  · have hv := hv2 c1
    refine w_lconst (pc := 74) C (v := 1) dX9_common_74 (by decide) ?_
    refine w_goto (pc := 75) C (tgt := 80) dX9_common_75 (by decide) ?_
    exact w_lret (pc := 80) C dX9_common_80 hv
theorem dX9_isBetween_0 : decode cX9_isBetween 0 = .ok (.iload_n 0, 1) := by decide +kernel
theorem dX9_isBetween_1 : decode cX9_isBetween 1 = .ok (.iload_n 1, 1) := by decide +kernel
theorem dX9_isBetween_2 : decode cX9_isBetween 2 = .ok (.if_icmp .lt 12, 3) := by decide +kernel
theorem dX9_isBetween_5 : decode cX9_isBetween 5 = .ok (.iload_n 0, 1) := by decide +kernel
theorem dX9_isBetween_6 : decode cX9_isBetween 6 = .ok (.iload_n 2, 1) := by decide +kernel
theorem dX9_isBetween_7 : decode cX9_isBetween 7 = .ok (.if_icmp .gt 7, 3) := by decide +kernel
theorem dX9_isBetween_10 : decode cX9_isBetween 10 = .ok (.iconst 1, 1) := by decide +kernel
theorem dX9_isBetween_11 : decode cX9_isBetween 11 = .ok (.goto 4, 3) := by decide +kernel
theorem dX9_isBetween_14 : decode cX9_isBetween 14 = .ok (.iconst 0, 1) := by decide +kernel
theorem dX9_isBetween_15 : decode cX9_isBetween 15 = .ok (.ireturn, 1) := by decide +kernel
set_option maxRecDepth 20000 in
set_option maxHeartbeats 2000000 in
theorem V_X9_isBetween_0 {X : Ctx} (C : C_X9_isBetween X) {k n : Nat} {Q : Pq} {h : Hp} {v0 v1 v2 : Int32}
    (hv : ((v0 < v1 → Q (some (.int 0)) h) ∧
    (¬ v0 < v1 → ((v2 < v0 → Q (some (.int 0)) h) ∧
    (¬ v2 < v0 → Q (some (.int 1)) h))))) :
    Wj X k n Q 0 [(0, .int v0), (1, .int v1), (2, .int v2)] [] h := by
  refine w_iload_n (pc := 0) C dX9_isBetween_0 rfl ?_
  refine w_iload_n (pc := 1) C dX9_isBetween_1 rfl ?_
  refine w_icmp_lt (pc := 2) C (tgt := 14) dX9_isBetween_2 (by decide) ?_
  obtain ⟨hv1, hv2⟩ := hv
  refine ⟨fun c2 => ?_, fun c2 => ?_⟩
  · have hv := hv1 c2
    refine w_iconst (pc := 14) C (v := 0) dX9_isBetween_14 (by decide) ?_
    exact w_zret (pc := 15) C dX9_isBetween_15 (by decide) hv
  · have hv := hv2 c2
    refine w_iload_n (pc := 5) C dX9_isBetween_5 rfl ?_
    refine w_iload_n (pc := 6) C dX9_isBetween_6 rfl ?_
    refine w_icmp_gt (pc := 7) C (tgt := 14) dX9_isBetween_7 (by decide) ?_
    obtain ⟨hv1, hv2⟩ := hv
    refine ⟨fun c1 => ?_, fun c1 => ?_⟩
    · have hv := hv1 c1
      refine w_iconst (pc := 14) C (v := 0) dX9_isBetween_14 (by decide) ?_
      exact w_zret (pc := 15) C dX9_isBetween_15 (by decide) hv
    · have hv := hv2 c1
      refine w_iconst (pc := 10) C (v := 1) dX9_isBetween_10 (by decide) ?_
      refine w_goto (pc := 11) C (tgt := 15) dX9_isBetween_11 (by decide) ?_
      exact w_zret (pc := 15) C dX9_isBetween_15 (by decide) hv
theorem dX9_isParts_0 : decode cX9_isParts 0 = .ok (.iload_n 0, 1) := by decide +kernel
theorem dX9_isParts_1 : decode cX9_isParts 1 = .ok (.iconst 2, 1) := by decide +kernel
theorem dX9_isParts_2 : decode cX9_isParts 2 = .ok (.if_icmp .lt 14, 3) := by decide +kernel
theorem dX9_isParts_5 : decode cX9_isParts 5 = .ok (.iload_n 0, 1) := by decide +kernel
theorem dX9_isParts_6 : decode cX9_isParts 6 = .ok (.sipush 400, 3) := by decide +kernel
theorem dX9_isParts_9 : decode cX9_isParts 9 = .ok (.if_icmp .gt 7, 3) := by decide +kernel
theorem dX9_isParts_12 : decode cX9_isParts 12 = .ok (.iconst 1, 1) := by decide +kernel
theorem dX9_isParts_13 : decode cX9_isParts 13 = .ok (.goto 4, 3) := by decide +kernel
theorem dX9_isParts_16 : decode cX9_isParts 16 = .ok (.iconst 0, 1) := by decide +kernel
theorem dX9_isParts_17 : decode cX9_isParts 17 = .ok (.ireturn, 1) := by decide +kernel
set_option maxRecDepth 20000 in
set_option maxHeartbeats 2000000 in
theorem V_X9_isParts_0 {X : Ctx} (C : C_X9_isParts X) {k n : Nat} {Q : Pq} {h : Hp} {v0 : Int32}
    (hv : ((v0 < 2 → Q (some (.int 0)) h) ∧
    (¬ v0 < 2 → ((400 < v0 → Q (some (.int 0)) h) ∧
    (¬ 400 < v0 → Q (some (.int 1)) h))))) :
    Wj X k n Q 0 [(0, .int v0)] [] h := by
  refine w_iload_n (pc := 0) C dX9_isParts_0 rfl ?_
  refine w_iconst (pc := 1) C (v := 2) dX9_isParts_1 (by decide) ?_
  refine w_icmp_lt (pc := 2) C (tgt := 16) dX9_isParts_2 (by decide) ?_
  obtain ⟨hv1, hv2⟩ := hv
  refine ⟨fun c2 => ?_, fun c2 => ?_⟩
  · have hv := hv1 c2
    refine w_iconst (pc := 16) C (v := 0) dX9_isParts_16 (by decide) ?_
    exact w_zret (pc := 17) C dX9_isParts_17 (by decide) hv
  · have hv := hv2 c2
    refine w_iload_n (pc := 5) C dX9_isParts_5 rfl ?_
    refine w_sipush (pc := 6) C (v := 400) dX9_isParts_6 (by decide) ?_
    refine w_icmp_gt (pc := 9) C (tgt := 16) dX9_isParts_9 (by decide) ?_
    obtain ⟨hv1, hv2⟩ := hv
    refine ⟨fun c1 => ?_, fun c1 => ?_⟩
    · have hv := hv1 c1
      refine w_iconst (pc := 16) C (v := 0) dX9_isParts_16 (by decide) ?_
      exact w_zret (pc := 17) C dX9_isParts_17 (by decide) hv
    · have hv := hv2 c1
      refine w_iconst (pc := 12) C (v := 1) dX9_isParts_12 (by decide) ?_
      refine w_goto (pc := 13) C (tgt := 17) dX9_isParts_13 (by decide) ?_
      exact w_zret (pc := 17) C dX9_isParts_17 (by decide) hv
theorem dX9_compareFractions_0 : decode cX9_compareFractions 0 = .ok (.lload_n 0, 1) := by decide +kernel
theorem dX9_compareFractions_1 : decode cX9_compareFractions 1 = .ok (.lstore 8, 2) := by decide +kernel
theorem dX9_compareFractions_3 : decode cX9_compareFractions 3 = .ok (.lload_n 2, 1) := by decide +kernel
theorem dX9_compareFractions_4 : decode cX9_compareFractions 4 = .ok (.lstore 10, 2) := by decide +kernel
theorem dX9_compareFractions_6 : decode cX9_compareFractions 6 = .ok (.lload 4, 2) := by decide +kernel
theorem dX9_compareFractions_8 : decode cX9_compareFractions 8 = .ok (.lstore 12, 2) := by decide +kernel
theorem dX9_compareFractions_10 : decode cX9_compareFractions 10 = .ok (.lload 6, 2) := by decide +kernel
theorem dX9_compareFractions_12 : decode cX9_compareFractions 12 = .ok (.lstore 14, 2) := by decide +kernel
theorem dX9_compareFractions_14 : decode cX9_compareFractions 14 = .ok (.iconst 0, 1) := by decide +kernel
theorem dX9_compareFractions_15 : decode cX9_compareFractions 15 = .ok (.istore 16, 2) := by decide +kernel
theorem dX9_compareFractions_17 : decode cX9_compareFractions 17 = .ok (.iload 16, 2) := by decide +kernel
theorem dX9_compareFractions_19 : decode cX9_compareFractions 19 = .ok (.sipush 200, 3) := by decide +kernel
theorem dX9_compareFractions_22 : decode cX9_compareFractions 22 = .ok (.if_icmp .ge 105, 3) := by decide +kernel
theorem dX9_compareFractions_25 : decode cX9_compareFractions 25 = .ok (.lload 10, 2) := by decide +kernel
theorem dX9_compareFractions_27 : decode cX9_compareFractions 27 = .ok (.lconst 0, 1) := by decide +kernel
theorem dX9_compareFractions_28 : decode cX9_compareFractions 28 = .ok (.lcmp, 1) := by decide +kernel
theorem dX9_compareFractions_29 : decode cX9_compareFractions 29 = .ok (.ifCond .le 98, 3) := by decide +kernel
theorem dX9_compareFractions_32 : decode cX9_compareFractions 32 = .ok (.lload 14, 2) := by decide +kernel
theorem dX9_compareFractions_34 : decode cX9_compareFractions 34 = .ok (.lconst 0, 1) := by decide +kernel
theorem dX9_compareFractions_35 : decode cX9_compareFractions 35 = .ok (.lcmp, 1) := by decide +kernel
theorem dX9_compareFractions_36 : decode cX9_compareFractions 36 = .ok (.ifCond .le 91, 3) := by decide +kernel
theorem dX9_compareFractions_39 : decode cX9_compareFractions 39 = .ok (.lload 8, 2) := by decide +kernel
theorem dX9_compareFractions_41 : decode cX9_compareFractions 41 = .ok (.lload 10, 2) := by decide +kernel
theorem dX9_compareFractions_43 : decode cX9_compareFractions 43 = .ok (.ldiv, 1) := by decide +kernel
theorem dX9_compareFractions_44 : decode cX9_compareFractions 44 = .ok (.lload 12, 2) := by decide +kernel
theorem dX9_compareFractions_46 : decode cX9_compareFractions 46 = .ok (.lload 14, 2) := by decide +kernel
theorem dX9_compareFractions_48 : decode cX9_compareFractions 48 = .ok (.ldiv, 1) := by decide +kernel
theorem dX9_compareFractions_49 : decode cX9_compareFractions 49 = .ok (.invokestatic 419, 3) := by decide +kernel
theorem dX9_compareFractions_52 : decode cX9_compareFractions 52 = .ok (.istore 17, 2) := by decide +kernel
theorem dX9_compareFractions_54 : decode cX9_compareFractions 54 = .ok (.lload 8, 2) := by decide +kernel
theorem dX9_compareFractions_56 : decode cX9_compareFractions 56 = .ok (.lload 10, 2) := by decide +kernel
theorem dX9_compareFractions_58 : decode cX9_compareFractions 58 = .ok (.lrem, 1) := by decide +kernel
theorem dX9_compareFractions_59 : decode cX9_compareFractions 59 = .ok (.lstore 18, 2) := by decide +kernel
theorem dX9_compareFractions_61 : decode cX9_compareFractions 61 = .ok (.lload 12, 2) := by decide +kernel
theorem dX9_compareFractions_63 : decode cX9_compareFractions 63 = .ok (.lload 14, 2) := by decide +kernel
theorem dX9_compareFractions_65 : decode cX9_compareFractions 65 = .ok (.lrem, 1) := by decide +kernel
theorem dX9_compareFractions_66 : decode cX9_compareFractions 66 = .ok (.lstore 20, 2) := by decide +kernel
theorem dX9_compareFractions_68 : decode cX9_compareFractions 68 = .ok (.iload 17, 2) := by decide +kernel
theorem dX9_compareFractions_70 : decode cX9_compareFractions 70 = .ok (.ifCond .ne 17, 3) := by decide +kernel
theorem dX9_compareFractions_73 : decode cX9_compareFractions 73 = .ok (.lload 18, 2) := by decide +kernel
theorem dX9_compareFractions_75 : decode cX9_compareFractions 75 = .ok (.lconst 0, 1) := by decide +kernel
theorem dX9_compareFractions_76 : decode cX9_compareFractions 76 = .ok (.lcmp, 1) := by decide +kernel
theorem dX9_compareFractions_77 : decode cX9_compareFractions 77 = .ok (.ifCond .eq 10, 3) := by decide +kernel
theorem dX9_compareFractions_80 : decode cX9_compareFractions 80 = .ok (.lload 20, 2) := by decide +kernel
theorem dX9_compareFractions_82 : decode cX9_compareFractions 82 = .ok (.lconst 0, 1) := by decide +kernel
theorem dX9_compareFractions_83 : decode cX9_compareFractions 83 = .ok (.lcmp, 1) := by decide +kernel
theorem dX9_compareFractions_84 : decode cX9_compareFractions 84 = .ok (.ifCond .ne 21, 3) := by decide +kernel
theorem dX9_compareFractions_87 : decode cX9_compareFractions 87 = .ok (.iload 17, 2) := by decide +kernel
theorem dX9_compareFractions_89 : decode cX9_compareFractions 89 = .ok (.ifCond .eq 8, 3) := by decide +kernel
theorem dX9_compareFractions_92 : decode cX9_compareFractions 92 = .ok (.iload 17, 2) := by decide +kernel
theorem dX9_compareFractions_94 : decode cX9_compareFractions 94 = .ok (.goto 10, 3) := by decide +kernel
theorem dX9_compareFractions_97 : decode cX9_compareFractions 97 = .ok (.lload 18, 2) := by decide +kernel
theorem dX9_compareFractions_99 : decode cX9_compareFractions 99 = .ok (.lload 20, 2) := by decide +kernel
theorem dX9_compareFractions_101 : decode cX9_compareFractions 101 = .ok (.invokestatic 419, 3) := by decide +kernel
theorem dX9_compareFractions_104 : decode cX9_compareFractions 104 = .ok (.ireturn, 1) := by decide +kernel
theorem dX9_compareFractions_105 : decode cX9_compareFractions 105 = .ok (.lload 14, 2) := by decide +kernel
theorem dX9_compareFractions_107 : decode cX9_compareFractions 107 = .ok (.lstore 8, 2) := by decide +kernel
theorem dX9_compareFractions_109 : decode cX9_compareFractions 109 = .ok (.lload 10, 2) := by decide +kernel
theorem dX9_compareFractions_111 : decode cX9_compareFractions 111 = .ok (.lstore 12, 2) := by decide +kernel
theorem dX9_compareFractions_113 : decode cX9_compareFractions 113 = .ok (.lload 20, 2) := by decide +kernel
theorem dX9_compareFractions_115 : decode cX9_compareFractions 115 = .ok (.lstore 10, 2) := by decide +kernel
theorem dX9_compareFractions_117 : decode cX9_compareFractions 117 = .ok (.lload 18, 2) := by decide +kernel
theorem dX9_compareFractions_119 : decode cX9_compareFractions 119 = .ok (.lstore 14, 2) := by decide +kernel
theorem dX9_compareFractions_121 : decode cX9_compareFractions 121 = .ok (.iinc 16 1, 3) := by decide +kernel
theorem dX9_compareFractions_124 : decode cX9_compareFractions 124 = .ok (.goto (-107), 3) := by decide +kernel
theorem dX9_compareFractions_127 : decode cX9_compareFractions 127 = .ok (.iconst 0, 1) := by decide +kernel
theorem dX9_compareFractions_128 : decode cX9_compareFractions 128 = .ok (.ireturn, 1) := by decide +kernel
set_option maxRecDepth 20000 in
set_option maxHeartbeats 2000000 in
theorem V_X9_compareFractions_0 {X : Ctx} (C : C_X9_compareFractions X) {k n : Nat} {Q : Pq} {h : Hp} {v0 v2 v4 v6 : Int64}
    (hv : Wj X k n Q 17 [(8, .long v0), (10, .long v2), (12, .long v4), (14, .long v6), (16, .int 0)] [] h) :
    Wj X k n Q 0 [(0, .long v0), (2, .long v2), (4, .long v4), (6, .long v6)] [] h := by
  refine w_lload_n (pc := 0) C dX9_compareFractions_0 rfl ?_
  refine w_lstore (pc := 1) C dX9_compareFractions_1 (by decide) ?_
  refine w_lload_n (pc := 3) C dX9_compareFractions_3 rfl ?_
  refine w_lstore (pc := 4) C dX9_compareFractions_4 (by decide) ?_
  refine w_lload (pc := 6) C dX9_compareFractions_6 rfl ?_
  refine w_lstore (pc := 8) C dX9_compareFractions_8 (by decide) ?_
  refine w_lload (pc := 10) C dX9_compareFractions_10 rfl ?_
  refine w_lstore (pc := 12) C dX9_compareFractions_12 (by decide) ?_
  refine w_iconst (pc := 14) C (v := 0) dX9_compareFractions_14 (by decide) ?_
  refine w_istore (pc := 15) C dX9_compareFractions_15 (by decide) ?_
  refine w_sub ?_ hv
  exact ⟨rfl, rfl, rfl, rfl, rfl, trivial⟩
set_option maxRecDepth 20000 in
set_option maxHeartbeats 2000000 in
theorem V_X9_compareFractions_17 {X : Ctx} (C : C_X9_compareFractions X) {k n : Nat} {Q : Pq} {h : Hp} {v8 v10 v12 v14 : Int64} {v16 : Int32}
    (hv : ((200 ≤ v16 → Q (some (.int 0)) h) ∧
    (¬ 200 ≤ v16 → ((v10 ≤ 0 → Q (some (.int 0)) h) ∧
    (¬ v10 ≤ 0 → ((v14 ≤ 0 → Q (some (.int 0)) h) ∧
    (¬ v14 ≤ 0 → ¬ v10 = 0 ∧ ¬ v14 = 0 ∧ S_J13_compare_74951 (lX X) (dtX X) 0 0 [.long (v8 / v10), .long (v12 / v14)] h (QI fun x4 h3 =>
    ¬ v10 = 0 ∧ ¬ v14 = 0 ∧ ((¬ x4 = 0 → Wj X k n Q 87 [(17, .int x4), (18, .long (v8 % v10)), (20, .long (v12 % v14))] [] h3) ∧
    (x4 = 0 → (((v8 % v10) = 0 → Wj X k n Q 87 [(17, .int x4), (18, .long (v8 % v10)), (20, .long (v12 % v14))] [] h3) ∧
    (¬ (v8 % v10) = 0 → ((¬ (v12 % v14) = 0 → Wj X k n Q 17 [(8, .long v14), (10, .long (v12 % v14)), (12, .long v10), (14, .long (v8 % v10)), (16, .int (v16 + Int32.ofInt 1))] [] h3) ∧
    ((v12 % v14) = 0 → Wj X k n Q 87 [(17, .int x4), (18, .long (v8 % v10)), (20, .long (v12 % v14))] [] h3)))))))))))))) :
    Wj X k n Q 17 [(8, .long v8), (10, .long v10), (12, .long v12), (14, .long v14), (16, .int v16)] [] h := by
  refine w_iload (pc := 17) C dX9_compareFractions_17 rfl ?_
  refine w_sipush (pc := 19) C (v := 200) dX9_compareFractions_19 (by decide) ?_
  refine w_icmp_ge (pc := 22) C (tgt := 127) dX9_compareFractions_22 (by decide) ?_
  obtain ⟨hv1, hv2⟩ := hv
  refine ⟨fun c12 => ?_, fun c12 => ?_⟩
  · have hv := hv1 c12
    refine w_iconst (pc := 127) C (v := 0) dX9_compareFractions_127 (by decide) ?_
    exact w_iret (pc := 128) C dX9_compareFractions_128 hv
  · have hv := hv2 c12
    refine w_lload (pc := 25) C dX9_compareFractions_25 rfl ?_
    refine w_lconst (pc := 27) C (v := 0) dX9_compareFractions_27 (by decide) ?_
    refine w_lcmp_le (pc := 28) C (tgt := 127) dX9_compareFractions_28 dX9_compareFractions_29 (by decide) ?_
    obtain ⟨hv1, hv2⟩ := hv
    refine ⟨fun c11 => ?_, fun c11 => ?_⟩
    · have hv := hv1 c11
      refine w_iconst (pc := 127) C (v := 0) dX9_compareFractions_127 (by decide) ?_
      exact w_iret (pc := 128) C dX9_compareFractions_128 hv
    · have hv := hv2 c11
      refine w_lload (pc := 32) C dX9_compareFractions_32 rfl ?_
      refine w_lconst (pc := 34) C (v := 0) dX9_compareFractions_34 (by decide) ?_
      refine w_lcmp_le (pc := 35) C (tgt := 127) dX9_compareFractions_35 dX9_compareFractions_36 (by decide) ?_
      obtain ⟨hv1, hv2⟩ := hv
      refine ⟨fun c10 => ?_, fun c10 => ?_⟩
      · have hv := hv1 c10
        refine w_iconst (pc := 127) C (v := 0) dX9_compareFractions_127 (by decide) ?_
        exact w_iret (pc := 128) C dX9_compareFractions_128 hv
      · have hv := hv2 c10
        refine w_lload (pc := 39) C dX9_compareFractions_39 rfl ?_
        refine w_lload (pc := 41) C dX9_compareFractions_41 rfl ?_
        obtain ⟨f1, hv⟩ := hv
        refine w_ldiv (pc := 43) C dX9_compareFractions_43 f1 ?_
        refine w_lload (pc := 44) C dX9_compareFractions_44 rfl ?_
        refine w_lload (pc := 46) C dX9_compareFractions_46 rfl ?_
        obtain ⟨f2, hv⟩ := hv
        refine w_ldiv (pc := 48) C dX9_compareFractions_48 f2 ?_
        refine w_cS0_2 (pc := 49) C cl_X9_419 ls_J13_compare_74951 (by decide) dX9_compareFractions_49 (Nat.le_of_ble_eq_true rfl) (hv.mono (fun v h3 hp => ?_))
        obtain ⟨x4, rfl, hv⟩ := hp
        refine w_istore (pc := 52) C dX9_compareFractions_52 (by decide) ?_
        refine w_lload (pc := 54) C dX9_compareFractions_54 rfl ?_
        refine w_lload (pc := 56) C dX9_compareFractions_56 rfl ?_
        obtain ⟨f5, hv⟩ := hv
        refine w_lrem (pc := 58) C dX9_compareFractions_58 f5 ?_
        refine w_lstore (pc := 59) C dX9_compareFractions_59 (by decide) ?_
        refine w_lload (pc := 61) C dX9_compareFractions_61 rfl ?_
        refine w_lload (pc := 63) C dX9_compareFractions_63 rfl ?_
        obtain ⟨f6, hv⟩ := hv
        refine w_lrem (pc := 65) C dX9_compareFractions_65 f6 ?_
        refine w_lstore (pc := 66) C dX9_compareFractions_66 (by decide) ?_
        refine w_iload (pc := 68) C dX9_compareFractions_68 rfl ?_
        refine w_if_ne (pc := 70) C (tgt := 87) dX9_compareFractions_70 (by decide) ?_
        obtain ⟨hv1, hv2⟩ := hv
        refine ⟨fun c9 => ?_, fun c9 => ?_⟩
        · have hv := hv1 c9
          refine w_sub ?_ hv
          exact ⟨rfl, rfl, rfl, trivial⟩
        · have hv := hv2 c9
          refine w_lload (pc := 73) C dX9_compareFractions_73 rfl ?_
          refine w_lconst (pc := 75) C (v := 0) dX9_compareFractions_75 (by decide) ?_
          refine w_lcmp_eq (pc := 76) C (tgt := 87) dX9_compareFractions_76 dX9_compareFractions_77 (by decide) ?_
          obtain ⟨hv1, hv2⟩ := hv
          refine ⟨fun c8 => ?_, fun c8 => ?_⟩
          · have hv := hv1 c8
            refine w_sub ?_ hv
            exact ⟨rfl, rfl, rfl, trivial⟩
          · have hv := hv2 c8
            refine w_lload (pc := 80) C dX9_compareFractions_80 rfl ?_
            refine w_lconst (pc := 82) C (v := 0) dX9_compareFractions_82 (by decide) ?_
            refine w_lcmp_ne (pc := 83) C (tgt := 105) dX9_compareFractions_83 dX9_compareFractions_84 (by decide) ?_
            obtain ⟨hv1, hv2⟩ := hv
            refine ⟨fun c7 => ?_, fun c7 => ?_⟩
            · have hv := hv1 c7
              refine w_lload (pc := 105) C dX9_compareFractions_105 rfl ?_
              refine w_lstore (pc := 107) C dX9_compareFractions_107 (by decide) ?_
              refine w_lload (pc := 109) C dX9_compareFractions_109 rfl ?_
              refine w_lstore (pc := 111) C dX9_compareFractions_111 (by decide) ?_
              refine w_lload (pc := 113) C dX9_compareFractions_113 rfl ?_
              refine w_lstore (pc := 115) C dX9_compareFractions_115 (by decide) ?_
              refine w_lload (pc := 117) C dX9_compareFractions_117 rfl ?_
              refine w_lstore (pc := 119) C dX9_compareFractions_119 (by decide) ?_
              refine w_iinc (pc := 121) C dX9_compareFractions_121 rfl (by decide) ?_
              refine w_goto (pc := 124) C (tgt := 17) dX9_compareFractions_124 (by decide) ?_
              refine w_sub ?_ hv
              exact ⟨rfl, rfl, rfl, rfl, rfl, trivial⟩
            · have hv := hv2 c7
              refine w_sub ?_ hv
              exact ⟨rfl, rfl, rfl, trivial⟩
set_option maxRecDepth 20000 in
set_option maxHeartbeats 2000000 in
theorem V_X9_compareFractions_87 {X : Ctx} (C : C_X9_compareFractions X) {k n : Nat} {Q : Pq} {h : Hp} {v17 : Int32} {v18 v20 : Int64}
    (hv : ((v17 = 0 → S_J13_compare_74951 (lX X) (dtX X) 0 0 [.long v18, .long v20] h (QI fun x2 h1 =>
    Q (some (.int x2)) h1)) ∧
    (¬ v17 = 0 → Q (some (.int v17)) h))) :
    Wj X k n Q 87 [(17, .int v17), (18, .long v18), (20, .long v20)] [] h := by
  refine w_iload (pc := 87) C dX9_compareFractions_87 rfl ?_
  refine w_if_eq (pc := 89) C (tgt := 97) dX9_compareFractions_89 (by decide) ?_
  obtain ⟨hv1, hv2⟩ := hv
  refine ⟨fun c3 => ?_, fun c3 => ?_⟩
  · have hv := hv1 c3
    refine w_lload (pc := 97) C dX9_compareFractions_97 rfl ?_
    refine w_lload (pc := 99) C dX9_compareFractions_99 rfl ?_
    refine w_cS0_2 (pc := 101) C cl_X9_419 ls_J13_compare_74951 (by decide) dX9_compareFractions_101 (Nat.le_of_ble_eq_true rfl) (hv.mono (fun v h1 hp => ?_))
    obtain ⟨x2, rfl, hv⟩ := hp
    exact w_iret (pc := 104) C dX9_compareFractions_104 hv
  · have hv := hv2 c3
    refine w_iload (pc := 92) C dX9_compareFractions_92 rfl ?_
    refine w_goto (pc := 94) C (tgt := 104) dX9_compareFractions_94 (by decide) ?_
    exact w_iret (pc := 104) C dX9_compareFractions_104 hv
theorem dX9_inverse_0 : decode cX9_inverse 0 = .ok (.lload_n 2, 1) := by decide +kernel
theorem dX9_inverse_1 : decode cX9_inverse 1 = .ok (.lconst 0, 1) := by decide +kernel
theorem dX9_inverse_2 : decode cX9_inverse 2 = .ok (.lcmp, 1) := by decide +kernel
theorem dX9_inverse_3 : decode cX9_inverse 3 = .ok (.ifCond .gt 5, 3) := by decide +kernel
theorem dX9_inverse_6 : decode cX9_inverse 6 = .ok (.lconst 0, 1) := by decide +kernel
theorem dX9_inverse_7 : decode cX9_inverse 7 = .ok (.lreturn, 1) := by decide +kernel
theorem dX9_inverse_8 : decode cX9_inverse 8 = .ok (.lload_n 2, 1) := by decide +kernel
theorem dX9_inverse_9 : decode cX9_inverse 9 = .ok (.lstore 4, 2) := by decide +kernel
theorem dX9_inverse_11 : decode cX9_inverse 11 = .ok (.lload_n 0, 1) := by decide +kernel
theorem dX9_inverse_12 : decode cX9_inverse 12 = .ok (.lstore 6, 2) := by decide +kernel
theorem dX9_inverse_14 : decode cX9_inverse 14 = .ok (.lconst 0, 1) := by decide +kernel
theorem dX9_inverse_15 : decode cX9_inverse 15 = .ok (.lstore 8, 2) := by decide +kernel
theorem dX9_inverse_17 : decode cX9_inverse 17 = .ok (.lconst 1, 1) := by decide +kernel
theorem dX9_inverse_18 : decode cX9_inverse 18 = .ok (.lstore 10, 2) := by decide +kernel
theorem dX9_inverse_20 : decode cX9_inverse 20 = .ok (.iconst 0, 1) := by decide +kernel
theorem dX9_inverse_21 : decode cX9_inverse 21 = .ok (.istore 12, 2) := by decide +kernel
theorem dX9_inverse_23 : decode cX9_inverse 23 = .ok (.iload 12, 2) := by decide +kernel
theorem dX9_inverse_25 : decode cX9_inverse 25 = .ok (.sipush 200, 3) := by decide +kernel
theorem dX9_inverse_28 : decode cX9_inverse 28 = .ok (.if_icmp .ge 59, 3) := by decide +kernel
theorem dX9_inverse_31 : decode cX9_inverse 31 = .ok (.lload 6, 2) := by decide +kernel
theorem dX9_inverse_33 : decode cX9_inverse 33 = .ok (.lconst 0, 1) := by decide +kernel
theorem dX9_inverse_34 : decode cX9_inverse 34 = .ok (.lcmp, 1) := by decide +kernel
theorem dX9_inverse_35 : decode cX9_inverse 35 = .ok (.ifCond .eq 52, 3) := by decide +kernel
theorem dX9_inverse_38 : decode cX9_inverse 38 = .ok (.lload 4, 2) := by decide +kernel
theorem dX9_inverse_40 : decode cX9_inverse 40 = .ok (.lload 6, 2) := by decide +kernel
theorem dX9_inverse_42 : decode cX9_inverse 42 = .ok (.ldiv, 1) := by decide +kernel
theorem dX9_inverse_43 : decode cX9_inverse 43 = .ok (.lstore 13, 2) := by decide +kernel
theorem dX9_inverse_45 : decode cX9_inverse 45 = .ok (.lload 4, 2) := by decide +kernel
theorem dX9_inverse_47 : decode cX9_inverse 47 = .ok (.lload 13, 2) := by decide +kernel
theorem dX9_inverse_49 : decode cX9_inverse 49 = .ok (.lload 6, 2) := by decide +kernel
theorem dX9_inverse_51 : decode cX9_inverse 51 = .ok (.lmul, 1) := by decide +kernel
theorem dX9_inverse_52 : decode cX9_inverse 52 = .ok (.lsub, 1) := by decide +kernel
theorem dX9_inverse_53 : decode cX9_inverse 53 = .ok (.lstore 15, 2) := by decide +kernel
theorem dX9_inverse_55 : decode cX9_inverse 55 = .ok (.lload 6, 2) := by decide +kernel
theorem dX9_inverse_57 : decode cX9_inverse 57 = .ok (.lstore 4, 2) := by decide +kernel
theorem dX9_inverse_59 : decode cX9_inverse 59 = .ok (.lload 15, 2) := by decide +kernel
theorem dX9_inverse_61 : decode cX9_inverse 61 = .ok (.lstore 6, 2) := by decide +kernel
theorem dX9_inverse_63 : decode cX9_inverse 63 = .ok (.lload 8, 2) := by decide +kernel
theorem dX9_inverse_65 : decode cX9_inverse 65 = .ok (.lload 13, 2) := by decide +kernel
theorem dX9_inverse_67 : decode cX9_inverse 67 = .ok (.lload 10, 2) := by decide +kernel
theorem dX9_inverse_69 : decode cX9_inverse 69 = .ok (.lmul, 1) := by decide +kernel
theorem dX9_inverse_70 : decode cX9_inverse 70 = .ok (.lsub, 1) := by decide +kernel
theorem dX9_inverse_71 : decode cX9_inverse 71 = .ok (.lstore 17, 2) := by decide +kernel
theorem dX9_inverse_73 : decode cX9_inverse 73 = .ok (.lload 10, 2) := by decide +kernel
theorem dX9_inverse_75 : decode cX9_inverse 75 = .ok (.lstore 8, 2) := by decide +kernel
theorem dX9_inverse_77 : decode cX9_inverse 77 = .ok (.lload 17, 2) := by decide +kernel
theorem dX9_inverse_79 : decode cX9_inverse 79 = .ok (.lstore 10, 2) := by decide +kernel
theorem dX9_inverse_81 : decode cX9_inverse 81 = .ok (.iinc 12 1, 3) := by decide +kernel
theorem dX9_inverse_84 : decode cX9_inverse 84 = .ok (.goto (-61), 3) := by decide +kernel
theorem dX9_inverse_87 : decode cX9_inverse 87 = .ok (.lload 8, 2) := by decide +kernel
theorem dX9_inverse_89 : decode cX9_inverse 89 = .ok (.lload_n 2, 1) := by decide +kernel
theorem dX9_inverse_90 : decode cX9_inverse 90 = .ok (.invokestatic 424, 3) := by decide +kernel
theorem dX9_inverse_93 : decode cX9_inverse 93 = .ok (.lreturn, 1) := by decide +kernel
set_option maxRecDepth 20000 in
set_option maxHeartbeats 2000000 in
theorem V_X9_inverse_0 {X : Ctx} (C : C_X9_inverse X) {k n : Nat} {Q : Pq} {h : Hp} {v0 v2 : Int64}
    (hv : ((0 < v2 → Wj X k n Q 23 [(2, .long v2), (4, .long v2), (6, .long v0), (8, .long 0), (10, .long 1), (12, .int 0)] [] h) ∧
    (¬ 0 < v2 → Q (some (.long 0)) h))) :
    Wj X k n Q 0 [(0, .long v0), (2, .long v2)] [] h := by
  refine w_lload_n (pc := 0) C dX9_inverse_0 rfl ?_
  refine w_lconst (pc := 1) C (v := 0) dX9_inverse_1 (by decide) ?_
  refine w_lcmp_gt (pc := 2) C (tgt := 8) dX9_inverse_2 dX9_inverse_3 (by decide) ?_
  obtain ⟨hv1, hv2⟩ := hv
  refine ⟨fun c1 => ?_, fun c1 => ?_⟩
  · have hv := hv1 c1
    refine w_lload_n (pc := 8) C dX9_inverse_8 rfl ?_
    refine w_lstore (pc := 9) C dX9_inverse_9 (by decide) ?_
    refine w_lload_n (pc := 11) C dX9_inverse_11 rfl ?_
    refine w_lstore (pc := 12) C dX9_inverse_12 (by decide) ?_
    refine w_lconst (pc := 14) C (v := 0) dX9_inverse_14 (by decide) ?_
    refine w_lstore (pc := 15) C dX9_inverse_15 (by decide) ?_
    refine w_lconst (pc := 17) C (v := 1) dX9_inverse_17 (by decide) ?_
    refine w_lstore (pc := 18) C dX9_inverse_18 (by decide) ?_
    refine w_iconst (pc := 20) C (v := 0) dX9_inverse_20 (by decide) ?_
    refine w_istore (pc := 21) C dX9_inverse_21 (by decide) ?_
    refine w_sub ?_ hv
    exact ⟨rfl, rfl, rfl, rfl, rfl, rfl, trivial⟩
  · have hv := hv2 c1
    refine w_lconst (pc := 6) C (v := 0) dX9_inverse_6 (by decide) ?_
    exact w_lret (pc := 7) C dX9_inverse_7 hv
set_option maxRecDepth 20000 in
set_option maxHeartbeats 2000000 in
theorem V_X9_inverse_23 {X : Ctx} (C : C_X9_inverse X) {k n : Nat} {Q : Pq} {h : Hp} {v2 v4 v6 v8 v10 : Int64} {v12 : Int32}
    (hv : ((200 ≤ v12 → Wj X k n Q 87 [(2, .long v2), (8, .long v8)] [] h) ∧
    (¬ 200 ≤ v12 → ((v6 = 0 → Wj X k n Q 87 [(2, .long v2), (8, .long v8)] [] h) ∧
    (¬ v6 = 0 → ¬ v6 = 0 ∧ Wj X k n Q 23 [(2, .long v2), (4, .long v6), (6, .long (v4 - ((v4 / v6) * v6))), (8, .long v10), (10, .long (v8 - ((v4 / v6) * v10))), (12, .int (v12 + Int32.ofInt 1))] [] h))))) :
    Wj X k n Q 23 [(2, .long v2), (4, .long v4), (6, .long v6), (8, .long v8), (10, .long v10), (12, .int v12)] [] h := by
  refine w_iload (pc := 23) C dX9_inverse_23 rfl ?_
  refine w_sipush (pc := 25) C (v := 200) dX9_inverse_25 (by decide) ?_
  refine w_icmp_ge (pc := 28) C (tgt := 87) dX9_inverse_28 (by decide) ?_
  obtain ⟨hv1, hv2⟩ := hv
  refine ⟨fun c3 => ?_, fun c3 => ?_⟩
  · have hv := hv1 c3
    refine w_sub ?_ hv
    exact ⟨rfl, rfl, trivial⟩
  · have hv := hv2 c3
    refine w_lload (pc := 31) C dX9_inverse_31 rfl ?_
    refine w_lconst (pc := 33) C (v := 0) dX9_inverse_33 (by decide) ?_
    refine w_lcmp_eq (pc := 34) C (tgt := 87) dX9_inverse_34 dX9_inverse_35 (by decide) ?_
    obtain ⟨hv1, hv2⟩ := hv
    refine ⟨fun c2 => ?_, fun c2 => ?_⟩
    · have hv := hv1 c2
      refine w_sub ?_ hv
      exact ⟨rfl, rfl, trivial⟩
    · have hv := hv2 c2
      refine w_lload (pc := 38) C dX9_inverse_38 rfl ?_
      refine w_lload (pc := 40) C dX9_inverse_40 rfl ?_
      obtain ⟨f1, hv⟩ := hv
      refine w_ldiv (pc := 42) C dX9_inverse_42 f1 ?_
      refine w_lstore (pc := 43) C dX9_inverse_43 (by decide) ?_
      refine w_lload (pc := 45) C dX9_inverse_45 rfl ?_
      refine w_lload (pc := 47) C dX9_inverse_47 rfl ?_
      refine w_lload (pc := 49) C dX9_inverse_49 rfl ?_
      refine w_lmul (pc := 51) C dX9_inverse_51 ?_
      refine w_lsub (pc := 52) C dX9_inverse_52 ?_
      refine w_lstore (pc := 53) C dX9_inverse_53 (by decide) ?_
      refine w_lload (pc := 55) C dX9_inverse_55 rfl ?_
      refine w_lstore (pc := 57) C dX9_inverse_57 (by decide) ?_
      refine w_lload (pc := 59) C dX9_inverse_59 rfl ?_
      refine w_lstore (pc := 61) C dX9_inverse_61 (by decide) ?_
      refine w_lload (pc := 63) C dX9_inverse_63 rfl ?_
      refine w_lload (pc := 65) C dX9_inverse_65 rfl ?_
      refine w_lload (pc := 67) C dX9_inverse_67 rfl ?_
      refine w_lmul (pc := 69) C dX9_inverse_69 ?_
      refine w_lsub (pc := 70) C dX9_inverse_70 ?_
      refine w_lstore (pc := 71) C dX9_inverse_71 (by decide) ?_
      refine w_lload (pc := 73) C dX9_inverse_73 rfl ?_
      refine w_lstore (pc := 75) C dX9_inverse_75 (by decide) ?_
      refine w_lload (pc := 77) C dX9_inverse_77 rfl ?_
      refine w_lstore (pc := 79) C dX9_inverse_79 (by decide) ?_
      refine w_iinc (pc := 81) C dX9_inverse_81 rfl (by decide) ?_
      refine w_goto (pc := 84) C (tgt := 23) dX9_inverse_84 (by decide) ?_
      refine w_sub ?_ hv
      exact ⟨rfl, rfl, rfl, rfl, rfl, rfl, trivial⟩
set_option maxRecDepth 20000 in
set_option maxHeartbeats 2000000 in
theorem V_X9_inverse_87 {X : Ctx} (C : C_X9_inverse X) {k n : Nat} {Q : Pq} {h : Hp} {v2 v8 : Int64}
    (hv : S_J9_floorMod_f86c9 (lX X) (dtX X) 0 0 [.long v8, .long v2] h (QL fun x2 h1 =>
    Q (some (.long x2)) h1)) :
    Wj X k n Q 87 [(2, .long v2), (8, .long v8)] [] h := by
  refine w_lload (pc := 87) C dX9_inverse_87 rfl ?_
  refine w_lload_n (pc := 89) C dX9_inverse_89 rfl ?_
  refine w_cS0_2 (pc := 90) C cl_X9_424 ls_J9_floorMod_f86c9 (by decide) dX9_inverse_90 (Nat.le_of_ble_eq_true rfl) (hv.mono (fun v h1 hp => ?_))
  obtain ⟨x2, rfl, hv⟩ := hp
  exact w_lret (pc := 93) C dX9_inverse_93 hv
theorem dX9_treeSteps_0 : decode cX9_treeSteps 0 = .ok (.lload_n 0, 1) := by decide +kernel
theorem dX9_treeSteps_1 : decode cX9_treeSteps 1 = .ok (.lconst 0, 1) := by decide +kernel
theorem dX9_treeSteps_2 : decode cX9_treeSteps 2 = .ok (.lcmp, 1) := by decide +kernel
theorem dX9_treeSteps_3 : decode cX9_treeSteps 3 = .ok (.ifCond .ne 5, 3) := by decide +kernel
theorem dX9_treeSteps_6 : decode cX9_treeSteps 6 = .ok (.iconst 0, 1) := by decide +kernel
theorem dX9_treeSteps_7 : decode cX9_treeSteps 7 = .ok (.ireturn, 1) := by decide +kernel
theorem dX9_treeSteps_8 : decode cX9_treeSteps 8 = .ok (.lconst 0, 1) := by decide +kernel
theorem dX9_treeSteps_9 : decode cX9_treeSteps 9 = .ok (.lstore 4, 2) := by decide +kernel
theorem dX9_treeSteps_11 : decode cX9_treeSteps 11 = .ok (.lload_n 0, 1) := by decide +kernel
theorem dX9_treeSteps_12 : decode cX9_treeSteps 12 = .ok (.lstore 6, 2) := by decide +kernel
theorem dX9_treeSteps_14 : decode cX9_treeSteps 14 = .ok (.lload_n 2, 1) := by decide +kernel
theorem dX9_treeSteps_15 : decode cX9_treeSteps 15 = .ok (.lstore 8, 2) := by decide +kernel
theorem dX9_treeSteps_17 : decode cX9_treeSteps 17 = .ok (.iconst 0, 1) := by decide +kernel
theorem dX9_treeSteps_18 : decode cX9_treeSteps 18 = .ok (.istore 10, 2) := by decide +kernel
theorem dX9_treeSteps_20 : decode cX9_treeSteps 20 = .ok (.iload 10, 2) := by decide +kernel
theorem dX9_treeSteps_22 : decode cX9_treeSteps 22 = .ok (.sipush 200, 3) := by decide +kernel
theorem dX9_treeSteps_25 : decode cX9_treeSteps 25 = .ok (.if_icmp .ge 41, 3) := by decide +kernel
theorem dX9_treeSteps_28 : decode cX9_treeSteps 28 = .ok (.lload 8, 2) := by decide +kernel
theorem dX9_treeSteps_30 : decode cX9_treeSteps 30 = .ok (.lconst 0, 1) := by decide +kernel
theorem dX9_treeSteps_31 : decode cX9_treeSteps 31 = .ok (.lcmp, 1) := by decide +kernel
theorem dX9_treeSteps_32 : decode cX9_treeSteps 32 = .ok (.ifCond .eq 34, 3) := by decide +kernel
theorem dX9_treeSteps_35 : decode cX9_treeSteps 35 = .ok (.lload 4, 2) := by decide +kernel
theorem dX9_treeSteps_37 : decode cX9_treeSteps 37 = .ok (.lload 6, 2) := by decide +kernel
theorem dX9_treeSteps_39 : decode cX9_treeSteps 39 = .ok (.lload 8, 2) := by decide +kernel
theorem dX9_treeSteps_41 : decode cX9_treeSteps 41 = .ok (.ldiv, 1) := by decide +kernel
theorem dX9_treeSteps_42 : decode cX9_treeSteps 42 = .ok (.ladd, 1) := by decide +kernel
theorem dX9_treeSteps_43 : decode cX9_treeSteps 43 = .ok (.lstore 4, 2) := by decide +kernel
theorem dX9_treeSteps_45 : decode cX9_treeSteps 45 = .ok (.lload 6, 2) := by decide +kernel
theorem dX9_treeSteps_47 : decode cX9_treeSteps 47 = .ok (.lload 8, 2) := by decide +kernel
theorem dX9_treeSteps_49 : decode cX9_treeSteps 49 = .ok (.lrem, 1) := by decide +kernel
theorem dX9_treeSteps_50 : decode cX9_treeSteps 50 = .ok (.lstore 11, 2) := by decide +kernel
theorem dX9_treeSteps_52 : decode cX9_treeSteps 52 = .ok (.lload 8, 2) := by decide +kernel
theorem dX9_treeSteps_54 : decode cX9_treeSteps 54 = .ok (.lstore 6, 2) := by decide +kernel
theorem dX9_treeSteps_56 : decode cX9_treeSteps 56 = .ok (.lload 11, 2) := by decide +kernel
theorem dX9_treeSteps_58 : decode cX9_treeSteps 58 = .ok (.lstore 8, 2) := by decide +kernel
theorem dX9_treeSteps_60 : decode cX9_treeSteps 60 = .ok (.iinc 10 1, 3) := by decide +kernel
theorem dX9_treeSteps_63 : decode cX9_treeSteps 63 = .ok (.goto (-43), 3) := by decide +kernel
theorem dX9_treeSteps_66 : decode cX9_treeSteps 66 = .ok (.lload 4, 2) := by decide +kernel
theorem dX9_treeSteps_68 : decode cX9_treeSteps 68 = .ok (.lconst 1, 1) := by decide +kernel
theorem dX9_treeSteps_69 : decode cX9_treeSteps 69 = .ok (.lsub, 1) := by decide +kernel
theorem dX9_treeSteps_70 : decode cX9_treeSteps 70 = .ok (.l2i, 1) := by decide +kernel
theorem dX9_treeSteps_71 : decode cX9_treeSteps 71 = .ok (.ireturn, 1) := by decide +kernel
set_option maxRecDepth 20000 in
set_option maxHeartbeats 2000000 in
theorem V_X9_treeSteps_0 {X : Ctx} (C : C_X9_treeSteps X) {k n : Nat} {Q : Pq} {h : Hp} {v0 v2 : Int64}
    (hv : ((¬ v0 = 0 → Wj X k n Q 20 [(4, .long 0), (6, .long v0), (8, .long v2), (10, .int 0)] [] h) ∧
    (v0 = 0 → Q (some (.int 0)) h))) :
    Wj X k n Q 0 [(0, .long v0), (2, .long v2)] [] h := by
  refine w_lload_n (pc := 0) C dX9_treeSteps_0 rfl ?_
  refine w_lconst (pc := 1) C (v := 0) dX9_treeSteps_1 (by decide) ?_
  refine w_lcmp_ne (pc := 2) C (tgt := 8) dX9_treeSteps_2 dX9_treeSteps_3 (by decide) ?_
  obtain ⟨hv1, hv2⟩ := hv
  refine ⟨fun c1 => ?_, fun c1 => ?_⟩
  · have hv := hv1 c1
    refine w_lconst (pc := 8) C (v := 0) dX9_treeSteps_8 (by decide) ?_
    refine w_lstore (pc := 9) C dX9_treeSteps_9 (by decide) ?_
    refine w_lload_n (pc := 11) C dX9_treeSteps_11 rfl ?_
    refine w_lstore (pc := 12) C dX9_treeSteps_12 (by decide) ?_
    refine w_lload_n (pc := 14) C dX9_treeSteps_14 rfl ?_
    refine w_lstore (pc := 15) C dX9_treeSteps_15 (by decide) ?_
    refine w_iconst (pc := 17) C (v := 0) dX9_treeSteps_17 (by decide) ?_
    refine w_istore (pc := 18) C dX9_treeSteps_18 (by decide) ?_
    refine w_sub ?_ hv
    exact ⟨rfl, rfl, rfl, rfl, trivial⟩
  · have hv := hv2 c1
    refine w_iconst (pc := 6) C (v := 0) dX9_treeSteps_6 (by decide) ?_
    exact w_iret (pc := 7) C dX9_treeSteps_7 hv
set_option maxRecDepth 20000 in
set_option maxHeartbeats 2000000 in
theorem V_X9_treeSteps_20 {X : Ctx} (C : C_X9_treeSteps X) {k n : Nat} {Q : Pq} {h : Hp} {v4 v6 v8 : Int64} {v10 : Int32}
    (hv : ((200 ≤ v10 → Q (some (.int (Int64.toInt32 (v4 - 1)))) h) ∧
    (¬ 200 ≤ v10 → ((v8 = 0 → Q (some (.int (Int64.toInt32 (v4 - 1)))) h) ∧
    (¬ v8 = 0 → ¬ v8 = 0 ∧ Wj X k n Q 20 [(4, .long (v4 + (v6 / v8))), (6, .long v8), (8, .long (v6 % v8)), (10, .int (v10 + Int32.ofInt 1))] [] h))))) :
    Wj X k n Q 20 [(4, .long v4), (6, .long v6), (8, .long v8), (10, .int v10)] [] h := by
  refine w_iload (pc := 20) C dX9_treeSteps_20 rfl ?_
  refine w_sipush (pc := 22) C (v := 200) dX9_treeSteps_22 (by decide) ?_
  refine w_icmp_ge (pc := 25) C (tgt := 66) dX9_treeSteps_25 (by decide) ?_
  obtain ⟨hv1, hv2⟩ := hv
  refine ⟨fun c3 => ?_, fun c3 => ?_⟩
  · have hv := hv1 c3
    refine w_lload (pc := 66) C dX9_treeSteps_66 rfl ?_
    refine w_lconst (pc := 68) C (v := 1) dX9_treeSteps_68 (by decide) ?_
    refine w_lsub (pc := 69) C dX9_treeSteps_69 ?_
    refine w_l2i (pc := 70) C dX9_treeSteps_70 ?_
    exact w_iret (pc := 71) C dX9_treeSteps_71 hv
  · have hv := hv2 c3
    refine w_lload (pc := 28) C dX9_treeSteps_28 rfl ?_
    refine w_lconst (pc := 30) C (v := 0) dX9_treeSteps_30 (by decide) ?_
    refine w_lcmp_eq (pc := 31) C (tgt := 66) dX9_treeSteps_31 dX9_treeSteps_32 (by decide) ?_
    obtain ⟨hv1, hv2⟩ := hv
    refine ⟨fun c2 => ?_, fun c2 => ?_⟩
    · have hv := hv1 c2
      refine w_lload (pc := 66) C dX9_treeSteps_66 rfl ?_
      refine w_lconst (pc := 68) C (v := 1) dX9_treeSteps_68 (by decide) ?_
      refine w_lsub (pc := 69) C dX9_treeSteps_69 ?_
      refine w_l2i (pc := 70) C dX9_treeSteps_70 ?_
      exact w_iret (pc := 71) C dX9_treeSteps_71 hv
    · have hv := hv2 c2
      refine w_lload (pc := 35) C dX9_treeSteps_35 rfl ?_
      refine w_lload (pc := 37) C dX9_treeSteps_37 rfl ?_
      refine w_lload (pc := 39) C dX9_treeSteps_39 rfl ?_
      obtain ⟨f1, hv⟩ := hv
      refine w_ldiv (pc := 41) C dX9_treeSteps_41 f1 ?_
      refine w_ladd (pc := 42) C dX9_treeSteps_42 ?_
      refine w_lstore (pc := 43) C dX9_treeSteps_43 (by decide) ?_
      refine w_lload (pc := 45) C dX9_treeSteps_45 rfl ?_
      refine w_lload (pc := 47) C dX9_treeSteps_47 rfl ?_
      refine w_lrem (pc := 49) C dX9_treeSteps_49 f1 ?_
      refine w_lstore (pc := 50) C dX9_treeSteps_50 (by decide) ?_
      refine w_lload (pc := 52) C dX9_treeSteps_52 rfl ?_
      refine w_lstore (pc := 54) C dX9_treeSteps_54 (by decide) ?_
      refine w_lload (pc := 56) C dX9_treeSteps_56 rfl ?_
      refine w_lstore (pc := 58) C dX9_treeSteps_58 (by decide) ?_
      refine w_iinc (pc := 60) C dX9_treeSteps_60 rfl (by decide) ?_
      refine w_goto (pc := 63) C (tgt := 20) dX9_treeSteps_63 (by decide) ?_
      refine w_sub ?_ hv
      exact ⟨rfl, rfl, rfl, rfl, trivial⟩
theorem dX9_lengthOfAct_0 : decode cX9_lengthOfAct 0 = .ok (.iload_n 0, 1) := by decide +kernel
theorem dX9_lengthOfAct_1 : decode cX9_lengthOfAct 1 = .ok (.tableswitch 112 98 119 #[107, 103, 112, 112, 112, 109, 112, 112, 112, 112, 112, 112, 112, 103, 112, 112, 112, 112, 107, 105, 112, 103], 103) := by decide +kernel
theorem dX9_lengthOfAct_104 : decode cX9_lengthOfAct 104 = .ok (.iconst 1, 1) := by decide +kernel
theorem dX9_lengthOfAct_105 : decode cX9_lengthOfAct 105 = .ok (.ireturn, 1) := by decide +kernel
theorem dX9_lengthOfAct_106 : decode cX9_lengthOfAct 106 = .ok (.iconst 3, 1) := by decide +kernel
theorem dX9_lengthOfAct_107 : decode cX9_lengthOfAct 107 = .ok (.ireturn, 1) := by decide +kernel
theorem dX9_lengthOfAct_108 : decode cX9_lengthOfAct 108 = .ok (.iconst 5, 1) := by decide +kernel
theorem dX9_lengthOfAct_109 : decode cX9_lengthOfAct 109 = .ok (.ireturn, 1) := by decide +kernel
theorem dX9_lengthOfAct_110 : decode cX9_lengthOfAct 110 = .ok (.bipush 6, 2) := by decide +kernel
theorem dX9_lengthOfAct_112 : decode cX9_lengthOfAct 112 = .ok (.ireturn, 1) := by decide +kernel
theorem dX9_lengthOfAct_113 : decode cX9_lengthOfAct 113 = .ok (.iconst 0, 1) := by decide +kernel
theorem dX9_lengthOfAct_114 : decode cX9_lengthOfAct 114 = .ok (.ireturn, 1) := by decide +kernel
set_option maxRecDepth 20000 in
set_option maxHeartbeats 2000000 in
theorem V_X9_lengthOfAct_0 {X : Ctx} (C : C_X9_lengthOfAct X) {k n : Nat} {Q : Pq} {h : Hp} {v0 : Int32}
    (hv : 
    ((v0 = 98 → Q (some (.int 5)) h) ∧
     (v0 = 99 → Q (some (.int 1)) h) ∧
     (v0 = 100 → Q (some (.int 0)) h) ∧
     (v0 = 101 → Q (some (.int 0)) h) ∧
     (v0 = 102 → Q (some (.int 0)) h) ∧
     (v0 = 103 → Q (some (.int 6)) h) ∧
     (v0 = 104 → Q (some (.int 0)) h) ∧
     (v0 = 105 → Q (some (.int 0)) h) ∧
     (v0 = 106 → Q (some (.int 0)) h) ∧
     (v0 = 107 → Q (some (.int 0)) h) ∧
     (v0 = 108 → Q (some (.int 0)) h) ∧
     (v0 = 109 → Q (some (.int 0)) h) ∧
     (v0 = 110 → Q (some (.int 0)) h) ∧
     (v0 = 111 → Q (some (.int 1)) h) ∧
     (v0 = 112 → Q (some (.int 0)) h) ∧
     (v0 = 113 → Q (some (.int 0)) h) ∧
     (v0 = 114 → Q (some (.int 0)) h) ∧
     (v0 = 115 → Q (some (.int 0)) h) ∧
     (v0 = 116 → Q (some (.int 5)) h) ∧
     (v0 = 117 → Q (some (.int 3)) h) ∧
     (v0 = 118 → Q (some (.int 0)) h) ∧
     (v0 = 119 → Q (some (.int 1)) h) ∧
     (¬ v0 = 98 → ¬ v0 = 99 → ¬ v0 = 100 → ¬ v0 = 101 → ¬ v0 = 102 → ¬ v0 = 103 → ¬ v0 = 104 → ¬ v0 = 105 → ¬ v0 = 106 → ¬ v0 = 107 → ¬ v0 = 108 → ¬ v0 = 109 → ¬ v0 = 110 → ¬ v0 = 111 → ¬ v0 = 112 → ¬ v0 = 113 → ¬ v0 = 114 → ¬ v0 = 115 → ¬ v0 = 116 → ¬ v0 = 117 → ¬ v0 = 118 → ¬ v0 = 119 → Q (some (.int 0)) h))) :
    Wj X k n Q 0 [(0, .int v0)] [] h := by
  refine w_iload_n (pc := 0) C dX9_lengthOfAct_0 rfl ?_
  by_cases c1 : v0 = 98
  · obtain ⟨hv, -⟩ := hv
    have hv := hv c1
    refine w_tswIn (pc := 1) (tgt := 108) (off := 107) C dX9_lengthOfAct_1 (by rw [c1]; decide) (by rw [c1]; decide) (by rw [c1]; decide) (by decide) ?_
    refine w_iconst (pc := 108) C (v := 5) dX9_lengthOfAct_108 (by decide) ?_
    exact w_iret (pc := 109) C dX9_lengthOfAct_109 hv
  obtain ⟨-, hv⟩ := hv
  by_cases c2 : v0 = 99
  · obtain ⟨hv, -⟩ := hv
    have hv := hv c2
    refine w_tswIn (pc := 1) (tgt := 104) (off := 103) C dX9_lengthOfAct_1 (by rw [c2]; decide) (by rw [c2]; decide) (by rw [c2]; decide) (by decide) ?_
    refine w_iconst (pc := 104) C (v := 1) dX9_lengthOfAct_104 (by decide) ?_
    exact w_iret (pc := 105) C dX9_lengthOfAct_105 hv
  obtain ⟨-, hv⟩ := hv
  by_cases c3 : v0 = 100
  · obtain ⟨hv, -⟩ := hv
    have hv := hv c3
    refine w_tswIn (pc := 1) (tgt := 113) (off := 112) C dX9_lengthOfAct_1 (by rw [c3]; decide) (by rw [c3]; decide) (by rw [c3]; decide) (by decide) ?_
    refine w_iconst (pc := 113) C (v := 0) dX9_lengthOfAct_113 (by decide) ?_
    exact w_iret (pc := 114) C dX9_lengthOfAct_114 hv
  obtain ⟨-, hv⟩ := hv
  by_cases c4 : v0 = 101
  · obtain ⟨hv, -⟩ := hv
    have hv := hv c4
    refine w_tswIn (pc := 1) (tgt := 113) (off := 112) C dX9_lengthOfAct_1 (by rw [c4]; decide) (by rw [c4]; decide) (by rw [c4]; decide) (by decide) ?_
    refine w_iconst (pc := 113) C (v := 0) dX9_lengthOfAct_113 (by decide) ?_
    exact w_iret (pc := 114) C dX9_lengthOfAct_114 hv
  obtain ⟨-, hv⟩ := hv
  by_cases c5 : v0 = 102
  · obtain ⟨hv, -⟩ := hv
    have hv := hv c5
    refine w_tswIn (pc := 1) (tgt := 113) (off := 112) C dX9_lengthOfAct_1 (by rw [c5]; decide) (by rw [c5]; decide) (by rw [c5]; decide) (by decide) ?_
    refine w_iconst (pc := 113) C (v := 0) dX9_lengthOfAct_113 (by decide) ?_
    exact w_iret (pc := 114) C dX9_lengthOfAct_114 hv
  obtain ⟨-, hv⟩ := hv
  by_cases c6 : v0 = 103
  · obtain ⟨hv, -⟩ := hv
    have hv := hv c6
    refine w_tswIn (pc := 1) (tgt := 110) (off := 109) C dX9_lengthOfAct_1 (by rw [c6]; decide) (by rw [c6]; decide) (by rw [c6]; decide) (by decide) ?_
    refine w_bipush (pc := 110) C (v := 6) dX9_lengthOfAct_110 (by decide) ?_
    exact w_iret (pc := 112) C dX9_lengthOfAct_112 hv
  obtain ⟨-, hv⟩ := hv
  by_cases c7 : v0 = 104
  · obtain ⟨hv, -⟩ := hv
    have hv := hv c7
    refine w_tswIn (pc := 1) (tgt := 113) (off := 112) C dX9_lengthOfAct_1 (by rw [c7]; decide) (by rw [c7]; decide) (by rw [c7]; decide) (by decide) ?_
    refine w_iconst (pc := 113) C (v := 0) dX9_lengthOfAct_113 (by decide) ?_
    exact w_iret (pc := 114) C dX9_lengthOfAct_114 hv
  obtain ⟨-, hv⟩ := hv
  by_cases c8 : v0 = 105
  · obtain ⟨hv, -⟩ := hv
    have hv := hv c8
    refine w_tswIn (pc := 1) (tgt := 113) (off := 112) C dX9_lengthOfAct_1 (by rw [c8]; decide) (by rw [c8]; decide) (by rw [c8]; decide) (by decide) ?_
    refine w_iconst (pc := 113) C (v := 0) dX9_lengthOfAct_113 (by decide) ?_
    exact w_iret (pc := 114) C dX9_lengthOfAct_114 hv
  obtain ⟨-, hv⟩ := hv
  by_cases c9 : v0 = 106
  · obtain ⟨hv, -⟩ := hv
    have hv := hv c9
    refine w_tswIn (pc := 1) (tgt := 113) (off := 112) C dX9_lengthOfAct_1 (by rw [c9]; decide) (by rw [c9]; decide) (by rw [c9]; decide) (by decide) ?_
    refine w_iconst (pc := 113) C (v := 0) dX9_lengthOfAct_113 (by decide) ?_
    exact w_iret (pc := 114) C dX9_lengthOfAct_114 hv
  obtain ⟨-, hv⟩ := hv
  by_cases c10 : v0 = 107
  · obtain ⟨hv, -⟩ := hv
    have hv := hv c10
    refine w_tswIn (pc := 1) (tgt := 113) (off := 112) C dX9_lengthOfAct_1 (by rw [c10]; decide) (by rw [c10]; decide) (by rw [c10]; decide) (by decide) ?_
    refine w_iconst (pc := 113) C (v := 0) dX9_lengthOfAct_113 (by decide) ?_
    exact w_iret (pc := 114) C dX9_lengthOfAct_114 hv
  obtain ⟨-, hv⟩ := hv
  by_cases c11 : v0 = 108
  · obtain ⟨hv, -⟩ := hv
    have hv := hv c11
    refine w_tswIn (pc := 1) (tgt := 113) (off := 112) C dX9_lengthOfAct_1 (by rw [c11]; decide) (by rw [c11]; decide) (by rw [c11]; decide) (by decide) ?_
    refine w_iconst (pc := 113) C (v := 0) dX9_lengthOfAct_113 (by decide) ?_
    exact w_iret (pc := 114) C dX9_lengthOfAct_114 hv
  obtain ⟨-, hv⟩ := hv
  by_cases c12 : v0 = 109
  · obtain ⟨hv, -⟩ := hv
    have hv := hv c12
    refine w_tswIn (pc := 1) (tgt := 113) (off := 112) C dX9_lengthOfAct_1 (by rw [c12]; decide) (by rw [c12]; decide) (by rw [c12]; decide) (by decide) ?_
    refine w_iconst (pc := 113) C (v := 0) dX9_lengthOfAct_113 (by decide) ?_
    exact w_iret (pc := 114) C dX9_lengthOfAct_114 hv
  obtain ⟨-, hv⟩ := hv
  by_cases c13 : v0 = 110
  · obtain ⟨hv, -⟩ := hv
    have hv := hv c13
    refine w_tswIn (pc := 1) (tgt := 113) (off := 112) C dX9_lengthOfAct_1 (by rw [c13]; decide) (by rw [c13]; decide) (by rw [c13]; decide) (by decide) ?_
    refine w_iconst (pc := 113) C (v := 0) dX9_lengthOfAct_113 (by decide) ?_
    exact w_iret (pc := 114) C dX9_lengthOfAct_114 hv
  obtain ⟨-, hv⟩ := hv
  by_cases c14 : v0 = 111
  · obtain ⟨hv, -⟩ := hv
    have hv := hv c14
    refine w_tswIn (pc := 1) (tgt := 104) (off := 103) C dX9_lengthOfAct_1 (by rw [c14]; decide) (by rw [c14]; decide) (by rw [c14]; decide) (by decide) ?_
    refine w_iconst (pc := 104) C (v := 1) dX9_lengthOfAct_104 (by decide) ?_
    exact w_iret (pc := 105) C dX9_lengthOfAct_105 hv
  obtain ⟨-, hv⟩ := hv
  by_cases c15 : v0 = 112
  · obtain ⟨hv, -⟩ := hv
    have hv := hv c15
    refine w_tswIn (pc := 1) (tgt := 113) (off := 112) C dX9_lengthOfAct_1 (by rw [c15]; decide) (by rw [c15]; decide) (by rw [c15]; decide) (by decide) ?_
    refine w_iconst (pc := 113) C (v := 0) dX9_lengthOfAct_113 (by decide) ?_
    exact w_iret (pc := 114) C dX9_lengthOfAct_114 hv
  obtain ⟨-, hv⟩ := hv
  by_cases c16 : v0 = 113
  · obtain ⟨hv, -⟩ := hv
    have hv := hv c16
    refine w_tswIn (pc := 1) (tgt := 113) (off := 112) C dX9_lengthOfAct_1 (by rw [c16]; decide) (by rw [c16]; decide) (by rw [c16]; decide) (by decide) ?_
    refine w_iconst (pc := 113) C (v := 0) dX9_lengthOfAct_113 (by decide) ?_
    exact w_iret (pc := 114) C dX9_lengthOfAct_114 hv
  obtain ⟨-, hv⟩ := hv
  by_cases c17 : v0 = 114
  · obtain ⟨hv, -⟩ := hv
    have hv := hv c17
    refine w_tswIn (pc := 1) (tgt := 113) (off := 112) C dX9_lengthOfAct_1 (by rw [c17]; decide) (by rw [c17]; decide) (by rw [c17]; decide) (by decide) ?_
    refine w_iconst (pc := 113) C (v := 0) dX9_lengthOfAct_113 (by decide) ?_
    exact w_iret (pc := 114) C dX9_lengthOfAct_114 hv
  obtain ⟨-, hv⟩ := hv
  by_cases c18 : v0 = 115
  · obtain ⟨hv, -⟩ := hv
    have hv := hv c18
    refine w_tswIn (pc := 1) (tgt := 113) (off := 112) C dX9_lengthOfAct_1 (by rw [c18]; decide) (by rw [c18]; decide) (by rw [c18]; decide) (by decide) ?_
    refine w_iconst (pc := 113) C (v := 0) dX9_lengthOfAct_113 (by decide) ?_
    exact w_iret (pc := 114) C dX9_lengthOfAct_114 hv
  obtain ⟨-, hv⟩ := hv
  by_cases c19 : v0 = 116
  · obtain ⟨hv, -⟩ := hv
    have hv := hv c19
    refine w_tswIn (pc := 1) (tgt := 108) (off := 107) C dX9_lengthOfAct_1 (by rw [c19]; decide) (by rw [c19]; decide) (by rw [c19]; decide) (by decide) ?_
    refine w_iconst (pc := 108) C (v := 5) dX9_lengthOfAct_108 (by decide) ?_
    exact w_iret (pc := 109) C dX9_lengthOfAct_109 hv
  obtain ⟨-, hv⟩ := hv
  by_cases c20 : v0 = 117
  · obtain ⟨hv, -⟩ := hv
    have hv := hv c20
    refine w_tswIn (pc := 1) (tgt := 106) (off := 105) C dX9_lengthOfAct_1 (by rw [c20]; decide) (by rw [c20]; decide) (by rw [c20]; decide) (by decide) ?_
    refine w_iconst (pc := 106) C (v := 3) dX9_lengthOfAct_106 (by decide) ?_
    exact w_iret (pc := 107) C dX9_lengthOfAct_107 hv
  obtain ⟨-, hv⟩ := hv
  by_cases c21 : v0 = 118
  · obtain ⟨hv, -⟩ := hv
    have hv := hv c21
    refine w_tswIn (pc := 1) (tgt := 113) (off := 112) C dX9_lengthOfAct_1 (by rw [c21]; decide) (by rw [c21]; decide) (by rw [c21]; decide) (by decide) ?_
    refine w_iconst (pc := 113) C (v := 0) dX9_lengthOfAct_113 (by decide) ?_
    exact w_iret (pc := 114) C dX9_lengthOfAct_114 hv
  obtain ⟨-, hv⟩ := hv
  by_cases c22 : v0 = 119
  · obtain ⟨hv, -⟩ := hv
    have hv := hv c22
    refine w_tswIn (pc := 1) (tgt := 104) (off := 103) C dX9_lengthOfAct_1 (by rw [c22]; decide) (by rw [c22]; decide) (by rw [c22]; decide) (by decide) ?_
    refine w_iconst (pc := 104) C (v := 1) dX9_lengthOfAct_104 (by decide) ?_
    exact w_iret (pc := 105) C dX9_lengthOfAct_105 hv
  obtain ⟨-, hv⟩ := hv
  have hv := hv c1 c2 c3 c4 c5 c6 c7 c8 c9 c10 c11 c12 c13 c14 c15 c16 c17 c18 c19 c20 c21 c22
  refine w_tswOut (pc := 1) (tgt := 113) C dX9_lengthOfAct_1 ?_ (by decide) ?_
  · have e0 := lv_neT (a := 98) c1 rfl; have e1 := lv_neT (a := 99) c2 rfl; have e2 := lv_neT (a := 100) c3 rfl; have e3 := lv_neT (a := 101) c4 rfl; have e4 := lv_neT (a := 102) c5 rfl; have e5 := lv_neT (a := 103) c6 rfl; have e6 := lv_neT (a := 104) c7 rfl; have e7 := lv_neT (a := 105) c8 rfl; have e8 := lv_neT (a := 106) c9 rfl; have e9 := lv_neT (a := 107) c10 rfl; have e10 := lv_neT (a := 108) c11 rfl; have e11 := lv_neT (a := 109) c12 rfl; have e12 := lv_neT (a := 110) c13 rfl; have e13 := lv_neT (a := 111) c14 rfl; have e14 := lv_neT (a := 112) c15 rfl; have e15 := lv_neT (a := 113) c16 rfl; have e16 := lv_neT (a := 114) c17 rfl; have e17 := lv_neT (a := 115) c18 rfl; have e18 := lv_neT (a := 116) c19 rfl; have e19 := lv_neT (a := 117) c20 rfl; have e20 := lv_neT (a := 118) c21 rfl; have e21 := lv_neT (a := 119) c22 rfl; omega
  refine w_iconst (pc := 113) C (v := 0) dX9_lengthOfAct_113 (by decide) ?_
  exact w_iret (pc := 114) C dX9_lengthOfAct_114 hv
theorem dX10_thrown_0 : decode cX10_thrown 0 = .ok (.aload_n 0, 1) := by decide +kernel
theorem dX10_thrown_1 : decode cX10_thrown 1 = .ok (.getfield 1, 3) := by decide +kernel
theorem dX10_thrown_4 : decode cX10_thrown 4 = .ok (.ireturn, 1) := by decide +kernel
set_option maxRecDepth 20000 in
set_option maxHeartbeats 2000000 in
theorem V_X10_thrown_0 {X : Ctx} (C : C_X10_thrown X) {k n : Nat} {Q : Pq} {h : Hp} {v0 : Nat}
    (hv : kd h v0 = 11 ∧ Q (some (.int (gi h v0 0))) h) :
    Wj X k n Q 0 [(0, .ref v0)] [] h := by
  refine w_aload_n (pc := 0) C dX10_thrown_0 rfl ?_
  obtain ⟨f1, hv⟩ := hv
  refine w_getI (pc := 1) C fl_X10_1 rfl dX10_thrown_1 f1 ?_
  exact w_iret (pc := 4) C dX10_thrown_4 hv
theorem dX10_in_0 : decode cX10_in 0 = .ok (.lload_n 0, 1) := by decide +kernel
theorem dX10_in_1 : decode cX10_in 1 = .ok (.lload_n 2, 1) := by decide +kernel
theorem dX10_in_2 : decode cX10_in 2 = .ok (.lcmp, 1) := by decide +kernel
theorem dX10_in_3 : decode cX10_in 3 = .ok (.ifCond .lt 14, 3) := by decide +kernel
theorem dX10_in_6 : decode cX10_in 6 = .ok (.lload_n 0, 1) := by decide +kernel
theorem dX10_in_7 : decode cX10_in 7 = .ok (.lload 4, 2) := by decide +kernel
theorem dX10_in_9 : decode cX10_in 9 = .ok (.lcmp, 1) := by decide +kernel
theorem dX10_in_10 : decode cX10_in 10 = .ok (.ifCond .gt 7, 3) := by decide +kernel
theorem dX10_in_13 : decode cX10_in 13 = .ok (.iconst 1, 1) := by decide +kernel
theorem dX10_in_14 : decode cX10_in 14 = .ok (.goto 4, 3) := by decide +kernel
theorem dX10_in_17 : decode cX10_in 17 = .ok (.iconst 0, 1) := by decide +kernel
theorem dX10_in_18 : decode cX10_in 18 = .ok (.ireturn, 1) := by decide +kernel
set_option maxRecDepth 20000 in
set_option maxHeartbeats 2000000 in
theorem V_X10_in_0 {X : Ctx} (C : C_X10_in X) {k n : Nat} {Q : Pq} {h : Hp} {v0 v2 v4 : Int64}
    (hv : ((v0 < v2 → Q (some (.int 0)) h) ∧
    (¬ v0 < v2 → ((v4 < v0 → Q (some (.int 0)) h) ∧
    (¬ v4 < v0 → Q (some (.int 1)) h))))) :
    Wj X k n Q 0 [(0, .long v0), (2, .long v2), (4, .long v4)] [] h := by
  refine w_lload_n (pc := 0) C dX10_in_0 rfl ?_
  refine w_lload_n (pc := 1) C dX10_in_1 rfl ?_
  refine w_lcmp_lt (pc := 2) C (tgt := 17) dX10_in_2 dX10_in_3 (by decide) ?_
  obtain ⟨hv1, hv2⟩ := hv
  refine ⟨fun c2 => ?_, fun c2 => ?_⟩
  · have hv := hv1 c2
    refine w_iconst (pc := 17) C (v := 0) dX10_in_17 (by decide) ?_
    exact w_zret (pc := 18) C dX10_in_18 (by decide) hv
  · have hv := hv2 c2
    refine w_lload_n (pc := 6) C dX10_in_6 rfl ?_
    refine w_lload (pc := 7) C dX10_in_7 rfl ?_
    refine w_lcmp_gt (pc := 9) C (tgt := 17) dX10_in_9 dX10_in_10 (by decide) ?_
    obtain ⟨hv1, hv2⟩ := hv
    refine ⟨fun c1 => ?_, fun c1 => ?_⟩
    · have hv := hv1 c1
      refine w_iconst (pc := 17) C (v := 0) dX10_in_17 (by decide) ?_
      exact w_zret (pc := 18) C dX10_in_18 (by decide) hv
    · have hv := hv2 c1
      refine w_iconst (pc := 13) C (v := 1) dX10_in_13 (by decide) ?_
      refine w_goto (pc := 14) C (tgt := 18) dX10_in_14 (by decide) ?_
      exact w_zret (pc := 18) C dX10_in_18 (by decide) hv
theorem dX10_flag_0 : decode cX10_flag 0 = .ok (.iload_n 0, 1) := by decide +kernel
theorem dX10_flag_1 : decode cX10_flag 1 = .ok (.ifCond .eq 7, 3) := by decide +kernel
theorem dX10_flag_4 : decode cX10_flag 4 = .ok (.iconst 1, 1) := by decide +kernel
theorem dX10_flag_5 : decode cX10_flag 5 = .ok (.goto 4, 3) := by decide +kernel
theorem dX10_flag_8 : decode cX10_flag 8 = .ok (.iconst 0, 1) := by decide +kernel
theorem dX10_flag_9 : decode cX10_flag 9 = .ok (.ireturn, 1) := by decide +kernel
set_option maxRecDepth 20000 in
set_option maxHeartbeats 2000000 in
theorem V_X10_flag_0 {X : Ctx} (C : C_X10_flag X) {k n : Nat} {Q : Pq} {h : Hp} {v0 : Int32}
    (hv : ((v0 = 0 → Q (some (.int 0)) h) ∧
    (¬ v0 = 0 → Q (some (.int 1)) h))) :
    Wj X k n Q 0 [(0, .int v0)] [] h := by
  refine w_iload_n (pc := 0) C dX10_flag_0 rfl ?_
  refine w_if_eq (pc := 1) C (tgt := 8) dX10_flag_1 (by decide) ?_
  obtain ⟨hv1, hv2⟩ := hv
  refine ⟨fun c1 => ?_, fun c1 => ?_⟩
  · have hv := hv1 c1
    refine w_iconst (pc := 8) C (v := 0) dX10_flag_8 (by decide) ?_
    exact w_iret (pc := 9) C dX10_flag_9 hv
  · have hv := hv2 c1
    refine w_iconst (pc := 4) C (v := 1) dX10_flag_4 (by decide) ?_
    refine w_goto (pc := 5) C (tgt := 9) dX10_flag_5 (by decide) ?_
    exact w_iret (pc := 9) C dX10_flag_9 hv
theorem dX10_common_0 : decode cX10_common 0 = .ok (.lload_n 0, 1) := by decide +kernel
theorem dX10_common_1 : decode cX10_common 1 = .ok (.lconst 0, 1) := by decide +kernel
theorem dX10_common_2 : decode cX10_common 2 = .ok (.lcmp, 1) := by decide +kernel
theorem dX10_common_3 : decode cX10_common 3 = .ok (.ifCond .ge 8, 3) := by decide +kernel
theorem dX10_common_6 : decode cX10_common 6 = .ok (.lload_n 0, 1) := by decide +kernel
theorem dX10_common_7 : decode cX10_common 7 = .ok (.lneg, 1) := by decide +kernel
theorem dX10_common_8 : decode cX10_common 8 = .ok (.goto 4, 3) := by decide +kernel
theorem dX10_common_11 : decode cX10_common 11 = .ok (.lload_n 0, 1) := by decide +kernel
theorem dX10_common_12 : decode cX10_common 12 = .ok (.lstore 4, 2) := by decide +kernel
theorem dX10_common_14 : decode cX10_common 14 = .ok (.lload_n 2, 1) := by decide +kernel
theorem dX10_common_15 : decode cX10_common 15 = .ok (.lstore 6, 2) := by decide +kernel
theorem dX10_common_17 : decode cX10_common 17 = .ok (.lload 6, 2) := by decide +kernel
theorem dX10_common_19 : decode cX10_common 19 = .ok (.lconst 0, 1) := by decide +kernel
theorem dX10_common_20 : decode cX10_common 20 = .ok (.lcmp, 1) := by decide +kernel
theorem dX10_common_21 : decode cX10_common 21 = .ok (.ifCond .eq 21, 3) := by decide +kernel
theorem dX10_common_24 : decode cX10_common 24 = .ok (.lload 4, 2) := by decide +kernel
theorem dX10_common_26 : decode cX10_common 26 = .ok (.lload 6, 2) := by decide +kernel
theorem dX10_common_28 : decode cX10_common 28 = .ok (.lrem, 1) := by decide +kernel
theorem dX10_common_29 : decode cX10_common 29 = .ok (.lstore 8, 2) := by decide +kernel
theorem dX10_common_31 : decode cX10_common 31 = .ok (.lload 6, 2) := by decide +kernel
theorem dX10_common_33 : decode cX10_common 33 = .ok (.lstore 4, 2) := by decide +kernel
theorem dX10_common_35 : decode cX10_common 35 = .ok (.lload 8, 2) := by decide +kernel
theorem dX10_common_37 : decode cX10_common 37 = .ok (.lstore 6, 2) := by decide +kernel
theorem dX10_common_39 : decode cX10_common 39 = .ok (.goto (-22), 3) := by decide +kernel
theorem dX10_common_42 : decode cX10_common 42 = .ok (.lload 4, 2) := by decide +kernel
theorem dX10_common_44 : decode cX10_common 44 = .ok (.lreturn, 1) := by decide +kernel
set_option maxRecDepth 20000 in
set_option maxHeartbeats 2000000 in
theorem V_X10_common_0 {X : Ctx} (C : C_X10_common X) {k n : Nat} {Q : Pq} {h : Hp} {v0 v2 : Int64}
    (hv : ((0 ≤ v0 → Wj X k n Q 17 [(4, .long v0), (6, .long v2)] [] h) ∧
    (¬ 0 ≤ v0 → Wj X k n Q 17 [(4, .long (-v0)), (6, .long v2)] [] h))) :
    Wj X k n Q 0 [(0, .long v0), (2, .long v2)] [] h := by
  refine w_lload_n (pc := 0) C dX10_common_0 rfl ?_
  refine w_lconst (pc := 1) C (v := 0) dX10_common_1 (by decide) ?_
  refine w_lcmp_ge (pc := 2) C (tgt := 11) dX10_common_2 dX10_common_3 (by decide) ?_
  obtain ⟨hv1, hv2⟩ := hv
  refine ⟨fun c1 => ?_, fun c1 => ?_⟩
  · have hv := hv1 c1
    refine w_lload_n (pc := 11) C dX10_common_11 rfl ?_
    refine w_lstore (pc := 12) C dX10_common_12 (by decide) ?_
    refine w_lload_n (pc := 14) C dX10_common_14 rfl ?_
    refine w_lstore (pc := 15) C dX10_common_15 (by decide) ?_
    refine w_sub ?_ hv
    exact ⟨rfl, rfl, trivial⟩
  · have hv := hv2 c1
    refine w_lload_n (pc := 6) C dX10_common_6 rfl ?_
    refine w_lneg (pc := 7) C dX10_common_7 ?_
    refine w_goto (pc := 8) C (tgt := 12) dX10_common_8 (by decide) ?_
    refine w_lstore (pc := 12) C dX10_common_12 (by decide) ?_
    refine w_lload_n (pc := 14) C dX10_common_14 rfl ?_
    refine w_lstore (pc := 15) C dX10_common_15 (by decide) ?_
    refine w_sub ?_ hv
    exact ⟨rfl, rfl, trivial⟩
set_option maxRecDepth 20000 in
set_option maxHeartbeats 2000000 in
theorem V_X10_common_17 {X : Ctx} (C : C_X10_common X) {k n : Nat} {Q : Pq} {h : Hp} {v4 v6 : Int64}
    (hv : ((v6 = 0 → Q (some (.long v4)) h) ∧
    (¬ v6 = 0 → ¬ v6 = 0 ∧ Wj X k n Q 17 [(4, .long v6), (6, .long (v4 % v6))] [] h))) :
    Wj X k n Q 17 [(4, .long v4), (6, .long v6)] [] h := by
  refine w_lload (pc := 17) C dX10_common_17 rfl ?_
  refine w_lconst (pc := 19) C (v := 0) dX10_common_19 (by decide) ?_
  refine w_lcmp_eq (pc := 20) C (tgt := 42) dX10_common_20 dX10_common_21 (by decide) ?_
  obtain ⟨hv1, hv2⟩ := hv
  refine ⟨fun c2 => ?_, fun c2 => ?_⟩
  · have hv := hv1 c2
    refine w_lload (pc := 42) C dX10_common_42 rfl ?_
    exact w_lret (pc := 44) C dX10_common_44 hv
  · have hv := hv2 c2
    refine w_lload (pc := 24) C dX10_common_24 rfl ?_
    refine w_lload (pc := 26) C dX10_common_26 rfl ?_
    obtain ⟨f1, hv⟩ := hv
    refine w_lrem (pc := 28) C dX10_common_28 f1 ?_
    refine w_lstore (pc := 29) C dX10_common_29 (by decide) ?_
    refine w_lload (pc := 31) C dX10_common_31 rfl ?_
    refine w_lstore (pc := 33) C dX10_common_33 (by decide) ?_
    refine w_lload (pc := 35) C dX10_common_35 rfl ?_
    refine w_lstore (pc := 37) C dX10_common_37 (by decide) ?_
    refine w_goto (pc := 39) C (tgt := 17) dX10_common_39 (by decide) ?_
    refine w_sub ?_ hv
    exact ⟨rfl, rfl, trivial⟩
theorem dX10_isLess_0 : decode cX10_isLess 0 = .ok (.lload_n 0, 1) := by decide +kernel
theorem dX10_isLess_1 : decode cX10_isLess 1 = .ok (.ldc2_w 306, 3) := by decide +kernel
theorem dX10_isLess_4 : decode cX10_isLess 4 = .ok (.ldiv, 1) := by decide +kernel
theorem dX10_isLess_5 : decode cX10_isLess 5 = .ok (.lload_n 2, 1) := by decide +kernel
theorem dX10_isLess_6 : decode cX10_isLess 6 = .ok (.ldc2_w 306, 3) := by decide +kernel
theorem dX10_isLess_9 : decode cX10_isLess 9 = .ok (.lrem, 1) := by decide +kernel
theorem dX10_isLess_10 : decode cX10_isLess 10 = .ok (.lmul, 1) := by decide +kernel
theorem dX10_isLess_11 : decode cX10_isLess 11 = .ok (.lload_n 2, 1) := by decide +kernel
theorem dX10_isLess_12 : decode cX10_isLess 12 = .ok (.ldc2_w 306, 3) := by decide +kernel
theorem dX10_isLess_15 : decode cX10_isLess 15 = .ok (.ldiv, 1) := by decide +kernel
theorem dX10_isLess_16 : decode cX10_isLess 16 = .ok (.lload_n 0, 1) := by decide +kernel
theorem dX10_isLess_17 : decode cX10_isLess 17 = .ok (.ldc2_w 306, 3) := by decide +kernel
theorem dX10_isLess_20 : decode cX10_isLess 20 = .ok (.lrem, 1) := by decide +kernel
theorem dX10_isLess_21 : decode cX10_isLess 21 = .ok (.lmul, 1) := by decide +kernel
theorem dX10_isLess_22 : decode cX10_isLess 22 = .ok (.lcmp, 1) := by decide +kernel
theorem dX10_isLess_23 : decode cX10_isLess 23 = .ok (.ifCond .ge 7, 3) := by decide +kernel
theorem dX10_isLess_26 : decode cX10_isLess 26 = .ok (.iconst 1, 1) := by decide +kernel
theorem dX10_isLess_27 : decode cX10_isLess 27 = .ok (.goto 4, 3) := by decide +kernel
theorem dX10_isLess_30 : decode cX10_isLess 30 = .ok (.iconst 0, 1) := by decide +kernel
theorem dX10_isLess_31 : decode cX10_isLess 31 = .ok (.ireturn, 1) := by decide +kernel
set_option maxRecDepth 20000 in
set_option maxHeartbeats 2000000 in
theorem V_X10_isLess_0 {X : Ctx} (C : C_X10_isLess X) {k n : Nat} {Q : Pq} {h : Hp} {v0 v2 : Int64}
    (hv : ((((v2 / 1000000) * (v0 % 1000000)) ≤ ((v0 / 1000000) * (v2 % 1000000)) → Q (some (.int 0)) h) ∧
    (¬ ((v2 / 1000000) * (v0 % 1000000)) ≤ ((v0 / 1000000) * (v2 % 1000000)) → Q (some (.int 1)) h))) :
    Wj X k n Q 0 [(0, .long v0), (2, .long v2)] [] h := by
  refine w_lload_n (pc := 0) C dX10_isLess_0 rfl ?_
  refine w_ldc2 (pc := 1) C ctl_X10_306 dX10_isLess_1 ?_
  refine w_ldiv (pc := 4) C dX10_isLess_4 (by decide) ?_
  refine w_lload_n (pc := 5) C dX10_isLess_5 rfl ?_
  refine w_ldc2 (pc := 6) C ctl_X10_306 dX10_isLess_6 ?_
  refine w_lrem (pc := 9) C dX10_isLess_9 (by decide) ?_
  refine w_lmul (pc := 10) C dX10_isLess_10 ?_
  refine w_lload_n (pc := 11) C dX10_isLess_11 rfl ?_
  refine w_ldc2 (pc := 12) C ctl_X10_306 dX10_isLess_12 ?_
  refine w_ldiv (pc := 15) C dX10_isLess_15 (by decide) ?_
  refine w_lload_n (pc := 16) C dX10_isLess_16 rfl ?_
  refine w_ldc2 (pc := 17) C ctl_X10_306 dX10_isLess_17 ?_
  refine w_lrem (pc := 20) C dX10_isLess_20 (by decide) ?_
  refine w_lmul (pc := 21) C dX10_isLess_21 ?_
  refine w_lcmp_ge (pc := 22) C (tgt := 30) dX10_isLess_22 dX10_isLess_23 (by decide) ?_
  obtain ⟨hv1, hv2⟩ := hv
  refine ⟨fun c1 => ?_, fun c1 => ?_⟩
  · have hv := hv1 c1
    refine w_iconst (pc := 30) C (v := 0) dX10_isLess_30 (by decide) ?_
    exact w_zret (pc := 31) C dX10_isLess_31 (by decide) hv
  · have hv := hv2 c1
    refine w_iconst (pc := 26) C (v := 1) dX10_isLess_26 (by decide) ?_
    refine w_goto (pc := 27) C (tgt := 31) dX10_isLess_27 (by decide) ?_
    exact w_zret (pc := 31) C dX10_isLess_31 (by decide) hv
theorem dX10_isBelow_0 : decode cX10_isBelow 0 = .ok (.lload_n 0, 1) := by decide +kernel
theorem dX10_isBelow_1 : decode cX10_isBelow 1 = .ok (.lstore 8, 2) := by decide +kernel
theorem dX10_isBelow_3 : decode cX10_isBelow 3 = .ok (.lload_n 2, 1) := by decide +kernel
theorem dX10_isBelow_4 : decode cX10_isBelow 4 = .ok (.lstore 10, 2) := by decide +kernel
theorem dX10_isBelow_6 : decode cX10_isBelow 6 = .ok (.lload 4, 2) := by decide +kernel
theorem dX10_isBelow_8 : decode cX10_isBelow 8 = .ok (.lstore 12, 2) := by decide +kernel
theorem dX10_isBelow_10 : decode cX10_isBelow 10 = .ok (.lload 6, 2) := by decide +kernel
theorem dX10_isBelow_12 : decode cX10_isBelow 12 = .ok (.lstore 14, 2) := by decide +kernel
theorem dX10_isBelow_14 : decode cX10_isBelow 14 = .ok (.iconst 1, 1) := by decide +kernel
theorem dX10_isBelow_15 : decode cX10_isBelow 15 = .ok (.istore 16, 2) := by decide +kernel
theorem dX10_isBelow_17 : decode cX10_isBelow 17 = .ok (.lload 8, 2) := by decide +kernel
theorem dX10_isBelow_19 : decode cX10_isBelow 19 = .ok (.lload 10, 2) := by decide +kernel
theorem dX10_isBelow_21 : decode cX10_isBelow 21 = .ok (.ldiv, 1) := by decide +kernel
theorem dX10_isBelow_22 : decode cX10_isBelow 22 = .ok (.lstore 17, 2) := by decide +kernel
theorem dX10_isBelow_24 : decode cX10_isBelow 24 = .ok (.lload 12, 2) := by decide +kernel
theorem dX10_isBelow_26 : decode cX10_isBelow 26 = .ok (.lload 14, 2) := by decide +kernel
theorem dX10_isBelow_28 : decode cX10_isBelow 28 = .ok (.ldiv, 1) := by decide +kernel
theorem dX10_isBelow_29 : decode cX10_isBelow 29 = .ok (.lstore 19, 2) := by decide +kernel
theorem dX10_isBelow_31 : decode cX10_isBelow 31 = .ok (.lload 17, 2) := by decide +kernel
theorem dX10_isBelow_33 : decode cX10_isBelow 33 = .ok (.lload 19, 2) := by decide +kernel
theorem dX10_isBelow_35 : decode cX10_isBelow 35 = .ok (.lcmp, 1) := by decide +kernel
theorem dX10_isBelow_36 : decode cX10_isBelow 36 = .ok (.ifCond .eq 27, 3) := by decide +kernel
theorem dX10_isBelow_39 : decode cX10_isBelow 39 = .ok (.iload 16, 2) := by decide +kernel
theorem dX10_isBelow_41 : decode cX10_isBelow 41 = .ok (.lload 17, 2) := by decide +kernel
theorem dX10_isBelow_43 : decode cX10_isBelow 43 = .ok (.lload 19, 2) := by decide +kernel
theorem dX10_isBelow_45 : decode cX10_isBelow 45 = .ok (.lcmp, 1) := by decide +kernel
theorem dX10_isBelow_46 : decode cX10_isBelow 46 = .ok (.ifCond .ge 7, 3) := by decide +kernel
theorem dX10_isBelow_49 : decode cX10_isBelow 49 = .ok (.iconst 1, 1) := by decide +kernel
theorem dX10_isBelow_50 : decode cX10_isBelow 50 = .ok (.goto 4, 3) := by decide +kernel
theorem dX10_isBelow_53 : decode cX10_isBelow 53 = .ok (.iconst 0, 1) := by decide +kernel
theorem dX10_isBelow_54 : decode cX10_isBelow 54 = .ok (.if_icmp .ne 7, 3) := by decide +kernel
theorem dX10_isBelow_57 : decode cX10_isBelow 57 = .ok (.iconst 1, 1) := by decide +kernel
theorem dX10_isBelow_58 : decode cX10_isBelow 58 = .ok (.goto 4, 3) := by decide +kernel
theorem dX10_isBelow_61 : decode cX10_isBelow 61 = .ok (.iconst 0, 1) := by decide +kernel
theorem dX10_isBelow_62 : decode cX10_isBelow 62 = .ok (.ireturn, 1) := by decide +kernel
theorem dX10_isBelow_63 : decode cX10_isBelow 63 = .ok (.lload 8, 2) := by decide +kernel
theorem dX10_isBelow_65 : decode cX10_isBelow 65 = .ok (.lload 10, 2) := by decide +kernel
theorem dX10_isBelow_67 : decode cX10_isBelow 67 = .ok (.lrem, 1) := by decide +kernel
theorem dX10_isBelow_68 : decode cX10_isBelow 68 = .ok (.lstore 8, 2) := by decide +kernel
theorem dX10_isBelow_70 : decode cX10_isBelow 70 = .ok (.lload 12, 2) := by decide +kernel
theorem dX10_isBelow_72 : decode cX10_isBelow 72 = .ok (.lload 14, 2) := by decide +kernel
theorem dX10_isBelow_74 : decode cX10_isBelow 74 = .ok (.lrem, 1) := by decide +kernel
theorem dX10_isBelow_75 : decode cX10_isBelow 75 = .ok (.lstore 12, 2) := by decide +kernel
theorem dX10_isBelow_77 : decode cX10_isBelow 77 = .ok (.lload 8, 2) := by decide +kernel
theorem dX10_isBelow_79 : decode cX10_isBelow 79 = .ok (.lconst 0, 1) := by decide +kernel
theorem dX10_isBelow_80 : decode cX10_isBelow 80 = .ok (.lcmp, 1) := by decide +kernel
theorem dX10_isBelow_81 : decode cX10_isBelow 81 = .ok (.ifCond .eq 10, 3) := by decide +kernel
theorem dX10_isBelow_84 : decode cX10_isBelow 84 = .ok (.lload 12, 2) := by decide +kernel
theorem dX10_isBelow_86 : decode cX10_isBelow 86 = .ok (.lconst 0, 1) := by decide +kernel
theorem dX10_isBelow_87 : decode cX10_isBelow 87 = .ok (.lcmp, 1) := by decide +kernel
theorem dX10_isBelow_88 : decode cX10_isBelow 88 = .ok (.ifCond .ne 44, 3) := by decide +kernel
theorem dX10_isBelow_91 : decode cX10_isBelow 91 = .ok (.lload 8, 2) := by decide +kernel
theorem dX10_isBelow_93 : decode cX10_isBelow 93 = .ok (.lconst 0, 1) := by decide +kernel
theorem dX10_isBelow_94 : decode cX10_isBelow 94 = .ok (.lcmp, 1) := by decide +kernel
theorem dX10_isBelow_95 : decode cX10_isBelow 95 = .ok (.ifCond .ne 14, 3) := by decide +kernel
theorem dX10_isBelow_98 : decode cX10_isBelow 98 = .ok (.lload 12, 2) := by decide +kernel
theorem dX10_isBelow_100 : decode cX10_isBelow 100 = .ok (.lconst 0, 1) := by decide +kernel
theorem dX10_isBelow_101 : decode cX10_isBelow 101 = .ok (.lcmp, 1) := by decide +kernel
theorem dX10_isBelow_102 : decode cX10_isBelow 102 = .ok (.ifCond .ne 7, 3) := by decide +kernel
theorem dX10_isBelow_105 : decode cX10_isBelow 105 = .ok (.iconst 0, 1) := by decide +kernel
theorem dX10_isBelow_106 : decode cX10_isBelow 106 = .ok (.goto 25, 3) := by decide +kernel
theorem dX10_isBelow_109 : decode cX10_isBelow 109 = .ok (.iload 16, 2) := by decide +kernel
theorem dX10_isBelow_111 : decode cX10_isBelow 111 = .ok (.lload 8, 2) := by decide +kernel
theorem dX10_isBelow_113 : decode cX10_isBelow 113 = .ok (.lconst 0, 1) := by decide +kernel
theorem dX10_isBelow_114 : decode cX10_isBelow 114 = .ok (.lcmp, 1) := by decide +kernel
theorem dX10_isBelow_115 : decode cX10_isBelow 115 = .ok (.ifCond .ne 7, 3) := by decide +kernel
theorem dX10_isBelow_118 : decode cX10_isBelow 118 = .ok (.iconst 1, 1) := by decide +kernel
theorem dX10_isBelow_119 : decode cX10_isBelow 119 = .ok (.goto 4, 3) := by decide +kernel
theorem dX10_isBelow_122 : decode cX10_isBelow 122 = .ok (.iconst 0, 1) := by decide +kernel
theorem dX10_isBelow_123 : decode cX10_isBelow 123 = .ok (.if_icmp .ne 7, 3) := by decide +kernel
theorem dX10_isBelow_126 : decode cX10_isBelow 126 = .ok (.iconst 1, 1) := by decide +kernel
theorem dX10_isBelow_127 : decode cX10_isBelow 127 = .ok (.goto 4, 3) := by decide +kernel
theorem dX10_isBelow_130 : decode cX10_isBelow 130 = .ok (.iconst 0, 1) := by decide +kernel
theorem dX10_isBelow_131 : decode cX10_isBelow 131 = .ok (.ireturn, 1) := by decide +kernel
theorem dX10_isBelow_132 : decode cX10_isBelow 132 = .ok (.lload 8, 2) := by decide +kernel
theorem dX10_isBelow_134 : decode cX10_isBelow 134 = .ok (.lstore 21, 2) := by decide +kernel
theorem dX10_isBelow_136 : decode cX10_isBelow 136 = .ok (.lload 10, 2) := by decide +kernel
theorem dX10_isBelow_138 : decode cX10_isBelow 138 = .ok (.lstore 8, 2) := by decide +kernel
theorem dX10_isBelow_140 : decode cX10_isBelow 140 = .ok (.lload 21, 2) := by decide +kernel
theorem dX10_isBelow_142 : decode cX10_isBelow 142 = .ok (.lstore 10, 2) := by decide +kernel
theorem dX10_isBelow_144 : decode cX10_isBelow 144 = .ok (.lload 12, 2) := by decide +kernel
theorem dX10_isBelow_146 : decode cX10_isBelow 146 = .ok (.lstore 21, 2) := by decide +kernel
theorem dX10_isBelow_148 : decode cX10_isBelow 148 = .ok (.lload 14, 2) := by decide +kernel
theorem dX10_isBelow_150 : decode cX10_isBelow 150 = .ok (.lstore 12, 2) := by decide +kernel
theorem dX10_isBelow_152 : decode cX10_isBelow 152 = .ok (.lload 21, 2) := by decide +kernel
theorem dX10_isBelow_154 : decode cX10_isBelow 154 = .ok (.lstore 14, 2) := by decide +kernel
theorem dX10_isBelow_156 : decode cX10_isBelow 156 = .ok (.iload 16, 2) := by decide +kernel
theorem dX10_isBelow_158 : decode cX10_isBelow 158 = .ok (.ifCond .ne 7, 3) := by decide +kernel
theorem dX10_isBelow_161 : decode cX10_isBelow 161 = .ok (.iconst 1, 1) := by decide +kernel
theorem dX10_isBelow_162 : decode cX10_isBelow 162 = .ok (.goto 4, 3) := by decide +kernel
theorem dX10_isBelow_165 : decode cX10_isBelow 165 = .ok (.iconst 0, 1) := by decide +kernel
theorem dX10_isBelow_166 : decode cX10_isBelow 166 = .ok (.istore 16, 2) := by decide +kernel
theorem dX10_isBelow_168 : decode cX10_isBelow 168 = .ok (.goto (-151), 3) := by decide +kernel
set_option maxRecDepth 20000 in
set_option maxHeartbeats 2000000 in
theorem V_X10_isBelow_0 {X : Ctx} (C : C_X10_isBelow X) {k n : Nat} {Q : Pq} {h : Hp} {v0 v2 v4 v6 : Int64}
    (hv : Wj X k n Q 17 [(8, .long v0), (10, .long v2), (12, .long v4), (14, .long v6), (16, .int 1)] [] h) :
    Wj X k n Q 0 [(0, .long v0), (2, .long v2), (4, .long v4), (6, .long v6)] [] h := by
  refine w_lload_n (pc := 0) C dX10_isBelow_0 rfl ?_
  refine w_lstore (pc := 1) C dX10_isBelow_1 (by decide) ?_
  refine w_lload_n (pc := 3) C dX10_isBelow_3 rfl ?_
  refine w_lstore (pc := 4) C dX10_isBelow_4 (by decide) ?_
  refine w_lload (pc := 6) C dX10_isBelow_6 rfl ?_
  refine w_lstore (pc := 8) C dX10_isBelow_8 (by decide) ?_
  refine w_lload (pc := 10) C dX10_isBelow_10 rfl ?_
  refine w_lstore (pc := 12) C dX10_isBelow_12 (by decide) ?_
  refine w_iconst (pc := 14) C (v := 1) dX10_isBelow_14 (by decide) ?_
  refine w_istore (pc := 15) C dX10_isBelow_15 (by decide) ?_
  refine w_sub ?_ hv
  exact ⟨rfl, rfl, rfl, rfl, rfl, trivial⟩
set_option maxRecDepth 20000 in
set_option maxHeartbeats 2000000 in
theorem V_X10_isBelow_17 {X : Ctx} (C : C_X10_isBelow X) {k n : Nat} {Q : Pq} {h : Hp} {v8 v10 v12 v14 : Int64} {v16 : Int32}
    (hv : ¬ v10 = 0 ∧ ¬ v14 = 0 ∧ (((v8 / v10) = (v12 / v14) → (((v8 % v10) = 0 → Wj X k n Q 91 [(8, .long (v8 % v10)), (12, .long (v12 % v14)), (16, .int v16)] [] h) ∧
    (¬ (v8 % v10) = 0 → ((¬ (v12 % v14) = 0 → ((¬ v16 = 0 → Wj X k n Q 17 [(8, .long v10), (10, .long (v8 % v10)), (12, .long v14), (14, .long (v12 % v14)), (16, .int 0)] [] h) ∧
    (v16 = 0 → Wj X k n Q 17 [(8, .long v10), (10, .long (v8 % v10)), (12, .long v14), (14, .long (v12 % v14)), (16, .int 1)] [] h))) ∧
    ((v12 % v14) = 0 → Wj X k n Q 91 [(8, .long (v8 % v10)), (12, .long (v12 % v14)), (16, .int v16)] [] h))))) ∧
    (¬ (v8 / v10) = (v12 / v14) → (((v12 / v14) ≤ (v8 / v10) → ((¬ v16 = 0 → Q (some (.int 0)) h) ∧
    (v16 = 0 → Q (some (.int 1)) h))) ∧
    (¬ (v12 / v14) ≤ (v8 / v10) → ((¬ v16 = 1 → Q (some (.int 0)) h) ∧
    (v16 = 1 → Q (some (.int 1)) h))))))) :
    Wj X k n Q 17 [(8, .long v8), (10, .long v10), (12, .long v12), (14, .long v14), (16, .int v16)] [] h := by
  refine w_lload (pc := 17) C dX10_isBelow_17 rfl ?_
  refine w_lload (pc := 19) C dX10_isBelow_19 rfl ?_
  obtain ⟨f1, hv⟩ := hv
  refine w_ldiv (pc := 21) C dX10_isBelow_21 f1 ?_
  refine w_lstore (pc := 22) C dX10_isBelow_22 (by decide) ?_
  refine w_lload (pc := 24) C dX10_isBelow_24 rfl ?_
  refine w_lload (pc := 26) C dX10_isBelow_26 rfl ?_
  obtain ⟨f2, hv⟩ := hv
  refine w_ldiv (pc := 28) C dX10_isBelow_28 f2 ?_
  refine w_lstore (pc := 29) C dX10_isBelow_29 (by decide) ?_
  refine w_lload (pc := 31) C dX10_isBelow_31 rfl ?_
  refine w_lload (pc := 33) C dX10_isBelow_33 rfl ?_
  refine w_lcmp_eq (pc := 35) C (tgt := 63) dX10_isBelow_35 dX10_isBelow_36 (by decide) ?_
  obtain ⟨hv1, hv2⟩ := hv
  refine ⟨fun c9 => ?_, fun c9 => ?_⟩
  · have hv := hv1 c9
    refine w_lload (pc := 63) C dX10_isBelow_63 rfl ?_
    refine w_lload (pc := 65) C dX10_isBelow_65 rfl ?_
    refine w_lrem (pc := 67) C dX10_isBelow_67 f1 ?_
    refine w_lstore (pc := 68) C dX10_isBelow_68 (by decide) ?_
    refine w_lload (pc := 70) C dX10_isBelow_70 rfl ?_
    refine w_lload (pc := 72) C dX10_isBelow_72 rfl ?_
    refine w_lrem (pc := 74) C dX10_isBelow_74 f2 ?_
    refine w_lstore (pc := 75) C dX10_isBelow_75 (by decide) ?_
    refine w_lload (pc := 77) C dX10_isBelow_77 rfl ?_
    refine w_lconst (pc := 79) C (v := 0) dX10_isBelow_79 (by decide) ?_
    refine w_lcmp_eq (pc := 80) C (tgt := 91) dX10_isBelow_80 dX10_isBelow_81 (by decide) ?_
    obtain ⟨hv1, hv2⟩ := hv
    refine ⟨fun c5 => ?_, fun c5 => ?_⟩
    · have hv := hv1 c5
      refine w_sub ?_ hv
      exact ⟨rfl, rfl, rfl, trivial⟩
    · have hv := hv2 c5
      refine w_lload (pc := 84) C dX10_isBelow_84 rfl ?_
      refine w_lconst (pc := 86) C (v := 0) dX10_isBelow_86 (by decide) ?_
      refine w_lcmp_ne (pc := 87) C (tgt := 132) dX10_isBelow_87 dX10_isBelow_88 (by decide) ?_
      obtain ⟨hv1, hv2⟩ := hv
      refine ⟨fun c4 => ?_, fun c4 => ?_⟩
      · have hv := hv1 c4
        refine w_lload (pc := 132) C dX10_isBelow_132 rfl ?_
        refine w_lstore (pc := 134) C dX10_isBelow_134 (by decide) ?_
        refine w_lload (pc := 136) C dX10_isBelow_136 rfl ?_
        refine w_lstore (pc := 138) C dX10_isBelow_138 (by decide) ?_
        refine w_lload (pc := 140) C dX10_isBelow_140 rfl ?_
        refine w_lstore (pc := 142) C dX10_isBelow_142 (by decide) ?_
        refine w_lload (pc := 144) C dX10_isBelow_144 rfl ?_
        refine w_lstore (pc := 146) C dX10_isBelow_146 (by decide) ?_
        refine w_lload (pc := 148) C dX10_isBelow_148 rfl ?_
        refine w_lstore (pc := 150) C dX10_isBelow_150 (by decide) ?_
        refine w_lload (pc := 152) C dX10_isBelow_152 rfl ?_
        refine w_lstore (pc := 154) C dX10_isBelow_154 (by decide) ?_
        refine w_iload (pc := 156) C dX10_isBelow_156 rfl ?_
        refine w_if_ne (pc := 158) C (tgt := 165) dX10_isBelow_158 (by decide) ?_
        obtain ⟨hv1, hv2⟩ := hv
        refine ⟨fun c3 => ?_, fun c3 => ?_⟩
        · have hv := hv1 c3
          refine w_iconst (pc := 165) C (v := 0) dX10_isBelow_165 (by decide) ?_
          refine w_istore (pc := 166) C dX10_isBelow_166 (by decide) ?_
          refine w_goto (pc := 168) C (tgt := 17) dX10_isBelow_168 (by decide) ?_
          refine w_sub ?_ hv
          exact ⟨rfl, rfl, rfl, rfl, rfl, trivial⟩
        · have hv := hv2 c3
          refine w_iconst (pc := 161) C (v := 1) dX10_isBelow_161 (by decide) ?_
          refine w_goto (pc := 162) C (tgt := 166) dX10_isBelow_162 (by decide) ?_
          refine w_istore (pc := 166) C dX10_isBelow_166 (by decide) ?_
          refine w_goto (pc := 168) C (tgt := 17) dX10_isBelow_168 (by decide) ?_
          refine w_sub ?_ hv
          exact ⟨rfl, rfl, rfl, rfl, rfl, trivial⟩
      · have hv := hv2 c4
        refine w_sub ?_ hv
        exact ⟨rfl, rfl, rfl, trivial⟩
  · have hv := hv2 c9
    refine w_iload (pc := 39) C dX10_isBelow_39 rfl ?_
    refine w_lload (pc := 41) C dX10_isBelow_41 rfl ?_
    refine w_lload (pc := 43) C dX10_isBelow_43 rfl ?_
    refine w_lcmp_ge (pc := 45) C (tgt := 53) dX10_isBelow_45 dX10_isBelow_46 (by decide) ?_
    obtain ⟨hv1, hv2⟩ := hv
    refine ⟨fun c8 => ?_, fun c8 => ?_⟩
    · have hv := hv1 c8
      refine w_iconst (pc := 53) C (v := 0) dX10_isBelow_53 (by decide) ?_
      refine w_icmp_ne (pc := 54) C (tgt := 61) dX10_isBelow_54 (by decide) ?_
      obtain ⟨hv1, hv2⟩ := hv
      refine ⟨fun c6 => ?_, fun c6 => ?_⟩
      · have hv := hv1 c6
        refine w_iconst (pc := 61) C (v := 0) dX10_isBelow_61 (by decide) ?_
        exact w_zret (pc := 62) C dX10_isBelow_62 (by decide) hv
      · have hv := hv2 c6
        refine w_iconst (pc := 57) C (v := 1) dX10_isBelow_57 (by decide) ?_
        refine w_goto (pc := 58) C (tgt := 62) dX10_isBelow_58 (by decide) ?_
        exact w_zret (pc := 62) C dX10_isBelow_62 (by decide) hv
    · have hv := hv2 c8
      refine w_iconst (pc := 49) C (v := 1) dX10_isBelow_49 (by decide) ?_
      refine w_goto (pc := 50) C (tgt := 54) dX10_isBelow_50 (by decide) ?_
      refine w_icmp_ne (pc := 54) C (tgt := 61) dX10_isBelow_54 (by decide) ?_
      obtain ⟨hv1, hv2⟩ := hv
      refine ⟨fun c7 => ?_, fun c7 => ?_⟩
      · have hv := hv1 c7
        refine w_iconst (pc := 61) C (v := 0) dX10_isBelow_61 (by decide) ?_
        exact w_zret (pc := 62) C dX10_isBelow_62 (by decide) hv
      · have hv := hv2 c7
        refine w_iconst (pc := 57) C (v := 1) dX10_isBelow_57 (by decide) ?_
        refine w_goto (pc := 58) C (tgt := 62) dX10_isBelow_58 (by decide) ?_
        exact w_zret (pc := 62) C dX10_isBelow_62 (by decide) hv
set_option maxRecDepth 20000 in
set_option maxHeartbeats 2000000 in
theorem V_X10_isBelow_91 {X : Ctx} (C : C_X10_isBelow X) {k n : Nat} {Q : Pq} {h : Hp} {v16 : Int32} {v8 v12 : Int64}
    (hv : ((¬ v8 = 0 → Wj X k n Q 109 [(8, .long v8), (16, .int v16)] [] h) ∧
    (v8 = 0 → ((¬ v12 = 0 → Wj X k n Q 109 [(8, .long v8), (16, .int v16)] [] h) ∧
    (v12 = 0 → Q (some (.int 0)) h))))) :
    Wj X k n Q 91 [(8, .long v8), (12, .long v12), (16, .int v16)] [] h := by
  refine w_lload (pc := 91) C dX10_isBelow_91 rfl ?_
  refine w_lconst (pc := 93) C (v := 0) dX10_isBelow_93 (by decide) ?_
  refine w_lcmp_ne (pc := 94) C (tgt := 109) dX10_isBelow_94 dX10_isBelow_95 (by decide) ?_
  obtain ⟨hv1, hv2⟩ := hv
  refine ⟨fun c2 => ?_, fun c2 => ?_⟩
  · have hv := hv1 c2
    refine w_sub ?_ hv
    exact ⟨rfl, rfl, trivial⟩
  · have hv := hv2 c2
    refine w_lload (pc := 98) C dX10_isBelow_98 rfl ?_
    refine w_lconst (pc := 100) C (v := 0) dX10_isBelow_100 (by decide) ?_
    refine w_lcmp_ne (pc := 101) C (tgt := 109) dX10_isBelow_101 dX10_isBelow_102 (by decide) ?_
    obtain ⟨hv1, hv2⟩ := hv
    refine ⟨fun c1 => ?_, fun c1 => ?_⟩
    · have hv := hv1 c1
      refine w_sub ?_ hv
      exact ⟨rfl, rfl, trivial⟩
    · have hv := hv2 c1
      refine w_iconst (pc := 105) C (v := 0) dX10_isBelow_105 (by decide) ?_
      refine w_goto (pc := 106) C (tgt := 131) dX10_isBelow_106 (by decide) ?_
      exact w_zret (pc := 131) C dX10_isBelow_131 (by decide) hv
set_option maxRecDepth 20000 in
set_option maxHeartbeats 2000000 in
theorem V_X10_isBelow_109 {X : Ctx} (C : C_X10_isBelow X) {k n : Nat} {Q : Pq} {h : Hp} {v16 : Int32} {v8 : Int64}
    (hv : ((¬ v8 = 0 → ((¬ v16 = 0 → Q (some (.int 0)) h) ∧
    (v16 = 0 → Q (some (.int 1)) h))) ∧
    (v8 = 0 → ((¬ v16 = 1 → Q (some (.int 0)) h) ∧
    (v16 = 1 → Q (some (.int 1)) h))))) :
    Wj X k n Q 109 [(8, .long v8), (16, .int v16)] [] h := by
  refine w_iload (pc := 109) C dX10_isBelow_109 rfl ?_
  refine w_lload (pc := 111) C dX10_isBelow_111 rfl ?_
  refine w_lconst (pc := 113) C (v := 0) dX10_isBelow_113 (by decide) ?_
  refine w_lcmp_ne (pc := 114) C (tgt := 122) dX10_isBelow_114 dX10_isBelow_115 (by decide) ?_
  obtain ⟨hv1, hv2⟩ := hv
  refine ⟨fun c3 => ?_, fun c3 => ?_⟩
  · have hv := hv1 c3
    refine w_iconst (pc := 122) C (v := 0) dX10_isBelow_122 (by decide) ?_
    refine w_icmp_ne (pc := 123) C (tgt := 130) dX10_isBelow_123 (by decide) ?_
    obtain ⟨hv1, hv2⟩ := hv
    refine ⟨fun c1 => ?_, fun c1 => ?_⟩
    · have hv := hv1 c1
      refine w_iconst (pc := 130) C (v := 0) dX10_isBelow_130 (by decide) ?_
      exact w_zret (pc := 131) C dX10_isBelow_131 (by decide) hv
    · have hv := hv2 c1
      refine w_iconst (pc := 126) C (v := 1) dX10_isBelow_126 (by decide) ?_
      refine w_goto (pc := 127) C (tgt := 131) dX10_isBelow_127 (by decide) ?_
      exact w_zret (pc := 131) C dX10_isBelow_131 (by decide) hv
  · have hv := hv2 c3
    refine w_iconst (pc := 118) C (v := 1) dX10_isBelow_118 (by decide) ?_
    refine w_goto (pc := 119) C (tgt := 123) dX10_isBelow_119 (by decide) ?_
    refine w_icmp_ne (pc := 123) C (tgt := 130) dX10_isBelow_123 (by decide) ?_
    obtain ⟨hv1, hv2⟩ := hv
    refine ⟨fun c2 => ?_, fun c2 => ?_⟩
    · have hv := hv1 c2
      refine w_iconst (pc := 130) C (v := 0) dX10_isBelow_130 (by decide) ?_
      exact w_zret (pc := 131) C dX10_isBelow_131 (by decide) hv
    · have hv := hv2 c2
      refine w_iconst (pc := 126) C (v := 1) dX10_isBelow_126 (by decide) ?_
      refine w_goto (pc := 127) C (tgt := 131) dX10_isBelow_127 (by decide) ?_
      exact w_zret (pc := 131) C dX10_isBelow_131 (by decide) hv
theorem dX10_size_0 : decode cX10_size 0 = .ok (.iload_n 0, 1) := by decide +kernel
theorem dX10_size_1 : decode cX10_size 1 = .ok (.ifCond .ge 8, 3) := by decide +kernel
theorem dX10_size_4 : decode cX10_size 4 = .ok (.iload_n 0, 1) := by decide +kernel
theorem dX10_size_5 : decode cX10_size 5 = .ok (.ineg, 1) := by decide +kernel
theorem dX10_size_6 : decode cX10_size 6 = .ok (.goto 4, 3) := by decide +kernel
theorem dX10_size_9 : decode cX10_size 9 = .ok (.iload_n 0, 1) := by decide +kernel
theorem dX10_size_10 : decode cX10_size 10 = .ok (.ireturn, 1) := by decide +kernel
set_option maxRecDepth 20000 in
set_option maxHeartbeats 2000000 in
theorem V_X10_size_0 {X : Ctx} (C : C_X10_size X) {k n : Nat} {Q : Pq} {h : Hp} {v0 : Int32}
    (hv : ((0 ≤ v0 → Q (some (.int v0)) h) ∧
    (¬ 0 ≤ v0 → Q (some (.int (-v0))) h))) :
    Wj X k n Q 0 [(0, .int v0)] [] h := by
  refine w_iload_n (pc := 0) C dX10_size_0 rfl ?_
  refine w_if_ge (pc := 1) C (tgt := 9) dX10_size_1 (by decide) ?_
  obtain ⟨hv1, hv2⟩ := hv
  refine ⟨fun c1 => ?_, fun c1 => ?_⟩
  · have hv := hv1 c1
    refine w_iload_n (pc := 9) C dX10_size_9 rfl ?_
    exact w_iret (pc := 10) C dX10_size_10 hv
  · have hv := hv2 c1
    refine w_iload_n (pc := 4) C dX10_size_4 rfl ?_
    refine w_ineg (pc := 5) C dX10_size_5 ?_
    refine w_goto (pc := 6) C (tgt := 10) dX10_size_6 (by decide) ?_
    exact w_iret (pc := 10) C dX10_size_10 hv
end
section
-- numbers: ints and longs as whole numbers
theorem b32 (x : Int32) : -2147483648 ≤ x.toInt ∧ x.toInt ≤ 2147483647 := ⟨by have := x.le_toInt; simpa using this, by have := x.toInt_lt; omega⟩
theorem b64 (x : Int64) : -9223372036854775808 ≤ x.toInt ∧ x.toInt ≤ 9223372036854775807 := ⟨by have := x.le_toInt; simpa using this, by have := x.toInt_lt; omega⟩
theorem bm32 {z : Int} (h1 : -2147483648 ≤ z) (h2 : z ≤ 2147483647) : z.bmod (2 ^ 32) = z := by
  rw [Int.bmod_eq_of_le] <;> omega
theorem bm64 {z : Int} (h1 : -9223372036854775808 ≤ z) (h2 : z ≤ 9223372036854775807) : z.bmod (2 ^ 64) = z := by
  rw [Int.bmod_eq_of_le] <;> omega
theorem iadd_t {x y : Int32} (h1 : -2147483648 ≤ x.toInt + y.toInt) (h2 : x.toInt + y.toInt ≤ 2147483647) : (x + y).toInt = x.toInt + y.toInt := by rw [Int32.toInt_add, bm32 h1 h2]
theorem isub_t {x y : Int32} (h1 : -2147483648 ≤ x.toInt - y.toInt) (h2 : x.toInt - y.toInt ≤ 2147483647) : (x - y).toInt = x.toInt - y.toInt := by rw [Int32.toInt_sub, bm32 h1 h2]
theorem imul_t {x y : Int32} (h1 : -2147483648 ≤ x.toInt * y.toInt) (h2 : x.toInt * y.toInt ≤ 2147483647) : (x * y).toInt = x.toInt * y.toInt := by rw [Int32.toInt_mul, bm32 h1 h2]
theorem ineg_t {x : Int32} (h1 : -2147483647 ≤ x.toInt) : (-x).toInt = -x.toInt := by rw [Int32.toInt_neg, bm32] <;> have := b32 x <;> omega
theorem ladd_t {x y : Int64} (h1 : -9223372036854775808 ≤ x.toInt + y.toInt) (h2 : x.toInt + y.toInt ≤ 9223372036854775807) : (x + y).toInt = x.toInt + y.toInt := by rw [Int64.toInt_add, bm64 h1 h2]
theorem lsub_t {x y : Int64} (h1 : -9223372036854775808 ≤ x.toInt - y.toInt) (h2 : x.toInt - y.toInt ≤ 9223372036854775807) : (x - y).toInt = x.toInt - y.toInt := by rw [Int64.toInt_sub, bm64 h1 h2]
theorem lmul_t {x y : Int64} (h1 : -9223372036854775808 ≤ x.toInt * y.toInt) (h2 : x.toInt * y.toInt ≤ 9223372036854775807) : (x * y).toInt = x.toInt * y.toInt := by rw [Int64.toInt_mul, bm64 h1 h2]
theorem lneg_t {x : Int64} (h1 : -9223372036854775807 ≤ x.toInt) : (-x).toInt = -x.toInt := by rw [Int64.toInt_neg, bm64] <;> have := b64 x <;> omega
theorem irem_t (x y : Int32) : (x % y).toInt = x.toInt.tmod y.toInt := Int32.toInt_mod ..
theorem lrem_t (x y : Int64) : (x % y).toInt = x.toInt.tmod y.toInt := Int64.toInt_mod ..
theorem irem_p {x y : Int32} (h1 : 0 ≤ x.toInt) : (x % y).toInt = x.toInt % y.toInt := by rw [irem_t, Int.tmod_eq_emod_of_nonneg h1]
theorem lrem_p {x y : Int64} (h1 : 0 ≤ x.toInt) : (x % y).toInt = x.toInt % y.toInt := by rw [lrem_t, Int.tmod_eq_emod_of_nonneg h1]
theorem idiv_p {x y : Int32} (h1 : 0 ≤ x.toInt) (h2 : 0 ≤ y.toInt) : (x / y).toInt = x.toInt / y.toInt := by
  rw [Int32.toInt_div, Int.tdiv_eq_ediv_of_nonneg h1]
  have := b32 x
  have h3 : x.toInt / y.toInt ≤ x.toInt := Int.ediv_le_self _ h1
  have h4 : 0 ≤ x.toInt / y.toInt := Int.ediv_nonneg h1 h2
  exact bm32 (by omega) (by omega)
theorem ldiv_p {x y : Int64} (h1 : 0 ≤ x.toInt) (h2 : 0 ≤ y.toInt) : (x / y).toInt = x.toInt / y.toInt := by
  rw [Int64.toInt_div, Int.tdiv_eq_ediv_of_nonneg h1]
  have := b64 x
  have h3 : x.toInt / y.toInt ≤ x.toInt := Int.ediv_le_self _ h1
  have h4 : 0 ≤ x.toInt / y.toInt := Int.ediv_nonneg h1 h2
  exact bm64 (by omega) (by omega)
theorem i2l_t (x : Int32) : x.toInt64.toInt = x.toInt := Int32.toInt_toInt64 x
theorem l2i_t {x : Int64} (h1 : -2147483648 ≤ x.toInt) (h2 : x.toInt ≤ 2147483647) : x.toInt32.toInt = x.toInt := by rw [Int64.toInt_toInt32, bm32 h1 h2]
theorem i32_of {z : Int} (h1 : -2147483648 ≤ z) (h2 : z ≤ 2147483647) : (Int32.ofInt z).toInt = z := by rw [Int32.toInt_ofInt, bm32 h1 h2]
theorem i64_of {z : Int} (h1 : -9223372036854775808 ≤ z) (h2 : z ≤ 9223372036854775807) : (Int64.ofInt z).toInt = z := by rw [Int64.toInt_ofInt, bm64 h1 h2]
theorem i32_lt {x y : Int32} : x < y ↔ x.toInt < y.toInt := Int32.lt_iff_toInt_lt
theorem i32_le {x y : Int32} : x ≤ y ↔ x.toInt ≤ y.toInt := Int32.le_iff_toInt_le
theorem i32_eq {x y : Int32} : x = y ↔ x.toInt = y.toInt := Int32.toInt_inj.symm
theorem i64_lt {x y : Int64} : x < y ↔ x.toInt < y.toInt := Int64.lt_iff_toInt_lt
theorem i64_le {x y : Int64} : x ≤ y ↔ x.toInt ≤ y.toInt := Int64.le_iff_toInt_le
theorem i64_eq {x y : Int64} : x = y ↔ x.toInt = y.toInt := Int64.toInt_inj.symm
-- pure functions of the leaves
def cmpL (a b : Int64) : Int32 := if a < b then -1 else if a = b then 0 else 1
def fmL (a b : Int64) : Int64 := Int64.ofInt (a.toInt % b.toInt)
def fmI (a b : Int32) : Int32 := Int32.ofInt (a.toInt % b.toInt)
def fdI (a b : Int32) : Int32 := Int32.ofInt (a.toInt / b.toInt)
def abI (x : Int32) : Int32 := if 0 ≤ x then x else -x
def abL (x : Int64) : Int64 := if 0 ≤ x then x else -x
def bt (x l u : Int32) : Int32 := if l ≤ x ∧ x ≤ u then 1 else 0
def btL (x l u : Int64) : Int32 := if l ≤ x ∧ x ≤ u then 1 else 0
def flg (x : Int32) : Int32 := if x = 0 then 0 else 1
def cm (a b : Int64) : Int64 := Int64.ofNat (Nat.gcd a.toInt.natAbs b.toInt.natAbs)
def cmpF (a b c d : Int) : Int32 := if a * d < c * b then -1 else if a * d = c * b then 0 else 1
theorem fmL_t {a b : Int64} (h : 0 < b.toInt) : (fmL a b).toInt = a.toInt % b.toInt := by
  have h1 := Int.emod_nonneg a.toInt (Int.ne_of_gt h)
  have h2 := Int.emod_lt_of_pos a.toInt h
  have := b64 b
  exact i64_of (by omega) (by omega)
theorem fmI_t {a b : Int32} (h : 0 < b.toInt) : (fmI a b).toInt = a.toInt % b.toInt := by
  have h1 := Int.emod_nonneg a.toInt (Int.ne_of_gt h)
  have h2 := Int.emod_lt_of_pos a.toInt h
  have := b32 b
  exact i32_of (by omega) (by omega)
theorem fdI_t {a b : Int32} (h : 0 < b.toInt) : (fdI a b).toInt = a.toInt / b.toInt := by
  have h0 := b32 a
  have h1 : a.toInt / b.toInt ≤ 2147483647 := Int.ediv_le_of_le_mul h (by
    have : (2147483647 : Int) * 1 ≤ 2147483647 * b.toInt := Int.mul_le_mul_of_nonneg_left (by omega) (by omega)
    omega)
  have h2 : -2147483648 ≤ a.toInt / b.toInt := Int.le_ediv_of_mul_le h (by
    have : (2147483648 : Int) * 1 ≤ 2147483648 * b.toInt := Int.mul_le_mul_of_nonneg_left (by omega) (by omega)
    omega)
  exact i32_of h2 h1
theorem cm_t {a b : Int64} (h : 0 < b.toInt) : (cm a b).toInt = (Nat.gcd a.toInt.natAbs b.toInt.natAbs : Int) := by
  have h1 : Nat.gcd a.toInt.natAbs b.toInt.natAbs ≤ b.toInt.natAbs := Nat.gcd_le_right _ (by omega)
  have := b64 b
  unfold cm
  rw [Int64.toInt_ofNat', bm64] <;> omega
theorem abI_t {x : Int32} (h : -2147483647 ≤ x.toInt) : (abI x).toInt = x.toInt.natAbs := by
  unfold abI
  split
  · rename_i h1; rw [i32_le] at h1; simp at h1; omega
  · rename_i h1; rw [i32_le] at h1; simp at h1; rw [ineg_t h]; omega
theorem abL_t {x : Int64} (h : -9223372036854775807 ≤ x.toInt) : (abL x).toInt = x.toInt.natAbs := by
  unfold abL
  split
  · rename_i h1; rw [i64_le] at h1; simp at h1; omega
  · rename_i h1; rw [i64_le] at h1; simp at h1; rw [lneg_t h]; omega
end
section
-- contracts of the leaves
def PF (x : Value) (h : Hp) : Pq := fun v h' => v = some x ∧ h' = h
def PV (h : Hp) : Pq := fun v h' => v = none ∧ h' = h
theorem Met.ofWF {l : Launch} {y : MethodName} {ws ws' : List Cond} {rm : Room} {Pc : Array Value → State → Prop} {Qc : Array Value → State → Outcome → State → Prop} {mc ms : Nat} {free : Addr → Prop} {cc : ByteArray} {maxL : Nat} {ret : Option FieldType}
    (hy : plainFor y = true) (hw : ws = Cond.code y cc maxL ret :: ws')
    (body : ∀ p e s m args below meth c s₁, BodyLoose p l y (headSpec ws rm) cc maxL ret e s m args below meth c s₁ → c.maxLocals = maxL → Pc args s →
      W p l e (headSpec ws rm).room s m args below meth c s.heap [] 0 0 (MQ below Qc args s mc ms free) (entryFrame m args maxL)) : Met l y ws rm Pc Qc mc ms free := by
  refine MetFree.of_bodySF (code := cc) (maxLocals := maxL) (ret := ret) hy ?_ ?_
  · intro args s m h hn
    obtain ⟨meth, c, h1, h2, h3, h4, h5, h6, -, -⟩ := Cond.code_spec hn (atoms_spec (ws := ws) h _ (by rw [hw]; exact List.mem_cons_self))
    exact ⟨meth, c, h1, h2, h3, h4, h5, h6⟩
  · intro p e s m args below meth c s₁ B hml hP _
    have hh0 : s₁.heap = s.heap := by rw [B.state]; rfl
    obtain ⟨t, a1, o, b1, b2, b3⟩ := body p e s m args below meth c s₁ B hml hP s₁ hh0 (Stand.of_body B)
    exact ⟨t, o, a1, b1, b2, ⟨b3.1, b3.2⟩⟩
theorem Sp.ofF {l : Launch} {D : Dt} {y : MethodName} {cc : ByteArray} {nL : Nat} {ret : Option FieldType} {fr lo mc ms : Nat} {av : List Value} {h : Hp} {Q : Pq} (hy : plainFor y = true) (hl : (lg_sl av).length ≤ nL)
    (body : ∀ X : Ctx, Cx X y.cls cc nL ret y.name fr lo → lX X = l → dtX X = D → mcX X = mc → msX X = ms → Wj X 0 0 Q 0 (lv_args 0 av) [] h) : Sp l D y cc nL ret fr lo mc ms av h Q := by
  refine Met.ofWF (cc := cc) (maxL := nL) (ret := ret) hy rfl ?_
  intro p e s m args below meth c s₁ B hml hv
  obtain ⟨rfl, hR, hK⟩ := hv
  have hts := atoms_spec (ws := .code y cc nL ret :: gwd) B.pre
  have C : Cx (p, l, e, { frames := fr, cells := mc, slots := ms, locals := lo }, s, m, av.toArray, below, meth, c, D, mc, ms) y.cls cc nL ret y.name fr lo :=
    ⟨B.exec, B.bytes, hml, findClass_of_methodNamed B.named, fun w hw => hts w (List.mem_cons_of_mem _ hw), hK, B.returns, B.notSynchronized, (name_of_methodNamed B.named B.method).1, rfl, rfl, rfl, rfl⟩
  have hle := lv_entry av hl
  rw [lg_entry_eq]
  exact body _ C rfl rfl rfl rfl (Nat.zero_le _) (Nat.zero_le _) _ _ [] (by rw [hml]; exact hle) hR (fun _ h => by cases h)
section SfLeaf
variable {l : Launch} {D : Dt} {h : Hp}
theorem sf_J13_compare_74951 {a b : Int64} : S_J13_compare_74951 l D 0 0 [.long a, .long b] h (PF (.int (cmpL a b)) h) := Sp.of rfl (Nat.le_of_ble_eq_true rfl) (fun X C _ _ _ _ => V_J13_compare_74951_0 C (by
  unfold cmpL PF
  refine ⟨fun h1 => ⟨fun h2 => ⟨?_, rfl⟩, fun h2 => ⟨?_, rfl⟩⟩, fun h1 => ⟨?_, rfl⟩⟩
  · rw [if_neg (by rw [i64_lt]; rw [i64_le] at h1; omega), if_neg h2]
  · rw [if_neg (by rw [i64_lt]; rw [i64_le] at h1; omega), if_pos h2]
  · rw [if_pos (by rw [i64_lt]; rw [i64_le] at h1; omega)]))
theorem sf_X9_isBetween {x a b : Int32} : S_X9_isBetween l D 0 0 [.int x, .int a, .int b] h (PF (.int (bt x a b)) h) := Sp.of rfl (Nat.le_of_ble_eq_true rfl) (fun X C _ _ _ _ => V_X9_isBetween_0 C (by
  unfold bt PF
  simp only [i32_lt, i32_le]
  refine ⟨fun h1 => ⟨?_, trivial⟩, fun h1 => ⟨fun h2 => ⟨?_, trivial⟩, fun h2 => ⟨?_, trivial⟩⟩⟩
  · rw [if_neg (by omega)]
  · rw [if_neg (by omega)]
  · rw [if_pos (by omega)]))
theorem sf_X9_isParts {x : Int32} : S_X9_isParts l D 0 0 [.int x] h (PF (.int (bt x 2 400)) h) := Sp.of rfl (Nat.le_of_ble_eq_true rfl) (fun X C _ _ _ _ => V_X9_isParts_0 C (by
  unfold bt PF
  simp only [i32_lt, i32_le]
  refine ⟨fun h1 => ⟨?_, trivial⟩, fun h1 => ⟨fun h2 => ⟨?_, trivial⟩, fun h2 => ⟨?_, trivial⟩⟩⟩
  · rw [if_neg (by omega)]
  · rw [if_neg (by omega)]
  · rw [if_pos (by omega)]))
theorem sf_X10_in {x a b : Int64} : S_X10_in l D 0 0 [.long x, .long a, .long b] h (PF (.int (btL x a b)) h) := Sp.of rfl (Nat.le_of_ble_eq_true rfl) (fun X C _ _ _ _ => V_X10_in_0 C (by
  unfold btL PF
  simp only [i64_lt, i64_le]
  refine ⟨fun h1 => ⟨?_, trivial⟩, fun h1 => ⟨fun h2 => ⟨?_, trivial⟩, fun h2 => ⟨?_, trivial⟩⟩⟩
  · rw [if_neg (by omega)]
  · rw [if_neg (by omega)]
  · rw [if_pos (by omega)]))
theorem sf_X10_flag {x : Int32} : S_X10_flag l D 0 0 [.int x] h (PF (.int (flg x)) h) := Sp.of rfl (Nat.le_of_ble_eq_true rfl) (fun X C _ _ _ _ => V_X10_flag_0 C (by
  unfold flg PF
  exact ⟨fun h1 => ⟨by rw [if_pos h1], rfl⟩, fun h1 => ⟨by rw [if_neg h1], rfl⟩⟩))
theorem sf_J9_abs_0f7a4 {x : Int32} : S_J9_abs_0f7a4 l D 0 0 [.int x] h (PF (.int (abI x)) h) := Sp.ofF (by decide +kernel) (Nat.le_of_ble_eq_true rfl) (fun X C _ _ _ _ => V_J9_abs_0f7a4_0 C (by
  unfold abI PF
  exact ⟨fun h1 => ⟨by rw [if_pos h1], rfl⟩, fun h1 => ⟨by rw [if_neg h1], rfl⟩⟩))
theorem sf_X10_size {x : Int32} : S_X10_size l D 0 0 [.int x] h (PF (.int (abI x)) h) := Sp.of rfl (Nat.le_of_ble_eq_true rfl) (fun X C _ _ _ _ => V_X10_size_0 C (by
  unfold abI PF
  exact ⟨fun h1 => ⟨by rw [if_pos h1], rfl⟩, fun h1 => ⟨by rw [if_neg h1], rfl⟩⟩))
theorem sf_J9_abs_067f4 {x : Int64} : S_J9_abs_067f4 l D 0 0 [.long x] h (PF (.long (abL x)) h) := Sp.ofF (by decide +kernel) (Nat.le_of_ble_eq_true rfl) (fun X C _ _ _ _ => V_J9_abs_067f4_0 C (by
  unfold abL PF
  exact ⟨fun h1 => ⟨by rw [if_pos h1], rfl⟩, fun h1 => ⟨by rw [if_neg h1], rfl⟩⟩))
theorem Int32.xor_nonneg' {a b : Int32} (hb : 0 < b.toInt) : 0 ≤ (a ^^^ b) ↔ 0 ≤ a.toInt := by
  have e : (a ^^^ b) < 0 ↔ a < 0 := by
    have hbn : ¬ b < 0 := by rw [i32_lt]; simp; omega
    simp only [Int32.lt_iff_toBitVec_slt] at *
    simp only [BitVec.slt_zero_eq_msb, Int32.toBitVec_zero, Int32.toBitVec_xor, BitVec.msb_xor] at *
    cases h1 : a.toBitVec.msb <;> cases h2 : b.toBitVec.msb <;> simp_all
  rw [i32_lt, i32_lt] at e
  rw [i32_le]
  simp at e ⊢
  omega
theorem Int64.xor_nonneg' {a b : Int64} (hb : 0 < b.toInt) : 0 ≤ (a ^^^ b) ↔ 0 ≤ a.toInt := by
  have e : (a ^^^ b) < 0 ↔ a < 0 := by
    have hbn : ¬ b < 0 := by rw [i64_lt]; simp; omega
    simp only [Int64.lt_iff_toBitVec_slt] at *
    simp only [BitVec.slt_zero_eq_msb, Int64.toBitVec_zero, Int64.toBitVec_xor, BitVec.msb_xor] at *
    cases h1 : a.toBitVec.msb <;> cases h2 : b.toBitVec.msb <;> simp_all
  rw [i64_lt, i64_lt] at e
  rw [i64_le]
  simp at e ⊢
  omega
/-- of a negative number: the remainder by a positive one -/
theorem tmod_neg {a b : Int} (ha : ¬ 0 ≤ a) (hb : 0 < b) : (a.tmod b = 0 → a % b = 0) ∧ (¬ a.tmod b = 0 → a % b = a.tmod b + b) ∧ a.tmod b ≤ 0 ∧ -b < a.tmod b := by
  have h1 : a.tmod b = -((-a).tmod b) := by rw [Int.neg_tmod]; omega
  have h2 : (-a).tmod b = (-a) % b := Int.tmod_eq_emod_of_nonneg (by omega)
  have h3 := Int.emod_nonneg (-a) (Int.ne_of_gt hb)
  have h4 := Int.emod_lt_of_pos (-a) hb
  have h5 := Int.emod_add_mul_ediv (-a) b
  rw [h1, h2]
  refine ⟨fun h => ?_, fun h => ?_, by omega, by omega⟩
  · have e : a = b * (-((-a) / b)) := by rw [Int.mul_neg]; omega
    rw [e, Int.mul_emod_right]
  · have e : a = (b - (-a) % b) + b * (-((-a) / b) - 1) := by rw [Int.mul_sub, Int.mul_neg]; omega
    have : (b - (-a) % b) % b = b - (-a) % b := Int.emod_eq_of_lt (by omega) (by omega)
    have e2 : ((b - (-a) % b) + b * (-((-a) / b) - 1)) % b = b - (-a) % b := by rw [Int.add_mul_emod_self_left, this]
    rw [← e] at e2; omega
theorem sf_J9_floorMod_7cf53 {a b : Int32} (hb : 0 < b.toInt) : S_J9_floorMod_7cf53 l D 0 0 [.int a, .int b] h (PF (.int (fmI a b)) h) := Sp.ofF (by decide +kernel) (Nat.le_of_ble_eq_true rfl) (fun X C _ _ _ _ => V_J9_floorMod_7cf53_0 C (by
  have hbb := b32 b
  refine ⟨by rw [i32_eq]; simp; omega, fun h1 => ⟨?_, rfl⟩, fun h1 => ⟨fun h2 => ⟨?_, rfl⟩, fun h2 => ⟨?_, rfl⟩⟩⟩
  · rw [Int32.xor_nonneg' hb] at h1
    have e : a % b = fmI a b := by rw [i32_eq, irem_p h1, fmI_t hb]
    rw [e]
  · rw [Int32.xor_nonneg' hb] at h1
    obtain ⟨t1, t2, t3, t4⟩ := tmod_neg h1 hb
    rw [i32_eq, irem_t] at h2
    have e : a % b = fmI a b := by rw [i32_eq, irem_t, fmI_t hb, h2, t1 h2]; rfl
    rw [e]
  · rw [Int32.xor_nonneg' hb] at h1
    obtain ⟨t1, t2, t3, t4⟩ := tmod_neg h1 hb
    rw [i32_eq, irem_t] at h2
    have e : a % b + b = fmI a b := by
      rw [i32_eq, iadd_t (by rw [irem_t]; omega) (by rw [irem_t]; omega), irem_t, fmI_t hb, t2 h2]
    rw [e]))
theorem sf_J9_floorMod_f86c9 {a b : Int64} (hb : 0 < b.toInt) : S_J9_floorMod_f86c9 l D 0 0 [.long a, .long b] h (PF (.long (fmL a b)) h) := Sp.ofF (by decide +kernel) (Nat.le_of_ble_eq_true rfl) (fun X C _ _ _ _ => V_J9_floorMod_f86c9_0 C (by
  have hbb := b64 b
  refine ⟨by rw [i64_eq]; simp; omega, fun h1 => ⟨?_, rfl⟩, fun h1 => ⟨fun h2 => ⟨?_, rfl⟩, fun h2 => ⟨?_, rfl⟩⟩⟩
  · rw [Int64.xor_nonneg' hb] at h1
    have e : a % b = fmL a b := by rw [i64_eq, lrem_p h1, fmL_t hb]
    rw [e]
  · rw [Int64.xor_nonneg' hb] at h1
    obtain ⟨t1, t2, t3, t4⟩ := tmod_neg h1 hb
    rw [i64_eq, lrem_t] at h2
    have e : a % b = fmL a b := by rw [i64_eq, lrem_t, fmL_t hb, h2, t1 h2]; rfl
    rw [e]
  · rw [Int64.xor_nonneg' hb] at h1
    obtain ⟨t1, t2, t3, t4⟩ := tmod_neg h1 hb
    rw [i64_eq, lrem_t] at h2
    have e : a % b + b = fmL a b := by
      rw [i64_eq, ladd_t (by rw [lrem_t]; omega) (by rw [lrem_t]; omega), lrem_t, fmL_t hb, t2 h2]
    rw [e]))
theorem tdiv_neg' {a b : Int} (ha : ¬ 0 ≤ a) (hb : 0 < b) : (a.tdiv b * b = a → a / b = a.tdiv b) ∧ (¬ a.tdiv b * b = a → a / b = a.tdiv b - 1) ∧ a ≤ a.tdiv b ∧ a.tdiv b ≤ 0 := by
  have h1 : a.tdiv b = -((-a).tdiv b) := by rw [Int.neg_tdiv]; omega
  have h2 : (-a).tdiv b = (-a) / b := Int.tdiv_eq_ediv_of_nonneg (by omega)
  have h3 := Int.emod_nonneg (-a) (Int.ne_of_gt hb)
  have h4 := Int.emod_lt_of_pos (-a) hb
  have h5 := Int.emod_add_mul_ediv (-a) b
  have h6 : (-a) / b ≤ -a := Int.ediv_le_self _ (by omega)
  have h7 : 0 ≤ (-a) / b := Int.ediv_nonneg (by omega) (by omega)
  have h8 : -((-a) / b) * b = -(b * ((-a) / b)) := by rw [Int.neg_mul, Int.mul_comm]
  rw [h1, h2, h8]
  refine ⟨fun h => ?_, fun h => ?_, by omega, by omega⟩
  · have e : a = b * (-((-a) / b)) := by rw [Int.mul_neg]; omega
    have e2 : b * (-((-a) / b)) / b = -((-a) / b) := Int.mul_ediv_cancel_left _ (by omega)
    rw [← e] at e2; exact e2
  · have e : a = (b - (-a) % b) + b * (-((-a) / b) - 1) := by rw [Int.mul_sub, Int.mul_neg]; omega
    have e3 : (b - (-a) % b) / b = 0 := Int.ediv_eq_zero_of_lt (by omega) (by omega)
    have e2 : ((b - (-a) % b) + b * (-((-a) / b) - 1)) / b = -((-a) / b) - 1 := by rw [Int.add_mul_ediv_left _ _ (by omega), e3]; omega
    rw [← e] at e2; exact e2
theorem sf_J9_floorDiv_7cf53 {a b : Int32} (hb : 0 < b.toInt) : S_J9_floorDiv_7cf53 l D 0 0 [.int a, .int b] h (PF (.int (fdI a b)) h) := Sp.ofF (by decide +kernel) (Nat.le_of_ble_eq_true rfl) (fun X C _ _ _ _ => V_J9_floorDiv_7cf53_0 C (by
  have hbb := b32 b
  have haa := b32 a
  have hdv : ¬ 0 ≤ a.toInt → (a / b).toInt = a.toInt.tdiv b.toInt := fun h1 => by
    obtain ⟨t1, t2, t3, t4⟩ := tdiv_neg' h1 hb
    rw [Int32.toInt_div, bm32 (by omega) (by omega)]
  refine ⟨by rw [i32_eq]; simp; omega, fun h1 => ⟨?_, rfl⟩, fun h1 => ⟨fun h2 => ⟨?_, rfl⟩, fun h2 => ⟨?_, rfl⟩⟩⟩
  · rw [Int32.xor_nonneg' hb] at h1
    have e : a / b = fdI a b := by rw [i32_eq, idiv_p h1 (by omega), fdI_t hb]
    rw [e]
  · rw [Int32.xor_nonneg' hb] at h1
    obtain ⟨t1, t2, t3, t4⟩ := tdiv_neg' h1 hb
    have hm : a.toInt ≤ a.toInt.tdiv b.toInt * b.toInt ∧ a.toInt.tdiv b.toInt * b.toInt ≤ 0 := by
      have := Int.tmod_add_mul_tdiv a.toInt b.toInt
      have t5 := tmod_neg h1 hb
      rw [Int.mul_comm] at this
      have h0 : a.toInt.tdiv b.toInt * b.toInt ≤ 0 := Int.mul_nonpos_of_nonpos_of_nonneg t4 (by omega)
      omega
    rw [i32_eq, imul_t (by rw [hdv h1]; omega) (by rw [hdv h1]; omega), hdv h1] at h2
    have e : a / b = fdI a b := by rw [i32_eq, hdv h1, fdI_t hb, t1 h2]
    rw [e]
  · rw [Int32.xor_nonneg' hb] at h1
    obtain ⟨t1, t2, t3, t4⟩ := tdiv_neg' h1 hb
    have hm : a.toInt ≤ a.toInt.tdiv b.toInt * b.toInt ∧ a.toInt.tdiv b.toInt * b.toInt ≤ 0 := by
      have := Int.tmod_add_mul_tdiv a.toInt b.toInt
      have t5 := tmod_neg h1 hb
      rw [Int.mul_comm] at this
      have h0 : a.toInt.tdiv b.toInt * b.toInt ≤ 0 := Int.mul_nonpos_of_nonpos_of_nonneg t4 (by omega)
      omega
    rw [i32_eq, imul_t (by rw [hdv h1]; omega) (by rw [hdv h1]; omega), hdv h1] at h2
    have hne : -2147483648 ≤ a.toInt.tdiv b.toInt - 1 := by
      have : a.toInt ≠ a.toInt.tdiv b.toInt := fun q => by
        have hb1 : b.toInt = 1 ∨ 2 ≤ b.toInt := by omega
        rcases hb1 with hb1 | hb1
        · rw [hb1] at h2; simp at h2
        · have : a.toInt.tdiv b.toInt * b.toInt ≤ a.toInt.tdiv b.toInt * 2 := Int.mul_le_mul_of_nonpos_left t4 hb1
          omega
      omega
    have e : a / b - 1 = fdI a b := by
      have h1' : (1 : Int32).toInt = 1 := rfl
      rw [i32_eq, isub_t (by rw [hdv h1, h1']; omega) (by rw [hdv h1, h1']; omega), hdv h1, fdI_t hb, t2 h2]; rfl
    rw [e]))
end SfLeaf
end
section
-- common(): the greatest common divisor, in the class and in the reference
theorem cm_zero {x y : Int64} (hx : 0 ≤ x.toInt) (hy : y.toInt = 0) : cm x y = x := by
  have := b64 x
  unfold cm
  rw [hy, i64_eq, Int64.toInt_ofNat']
  simp only [Int.natAbs_zero, Nat.gcd_zero_right]
  rw [bm64] <;> omega
theorem gcd_step {x y : Int} (hx : 0 ≤ x) (hy : 0 < y) : Nat.gcd y.natAbs (x % y).natAbs = Nat.gcd x.natAbs y.natAbs := by
  have e : (x % y).natAbs = x.natAbs % y.natAbs := by
    have := Int.natAbs_emod_of_nonneg hx (b := y)
    exact this
  rw [e, Nat.gcd_comm y.natAbs, ← Nat.gcd_rec, Nat.gcd_comm]
theorem cm_step {x y : Int64} (hx : 0 ≤ x.toInt) (hy : 0 < y.toInt) : cm y (x % y) = cm x y := by
  unfold cm
  rw [lrem_p hx, gcd_step hx hy]
theorem cm_neg {x y : Int64} (hx : -9223372036854775807 ≤ x.toInt) : cm (-x) y = cm x y := by
  unfold cm
  rw [lneg_t hx, Int.natAbs_neg]
theorem half_mod {y r : Int} (h0 : 0 < r) (h1 : r < y) : 2 * (y % r) < y := by
  have h2 := Int.emod_nonneg y (Int.ne_of_gt h0)
  have h3 := Int.emod_lt_of_pos y h0
  have h4 := Int.emod_add_mul_ediv y r
  have h5 : 1 ≤ y / r := Int.le_ediv_of_mul_le h0 (by omega)
  have h6 : r * 1 ≤ r * (y / r) := Int.mul_le_mul_of_nonneg_left h5 (by omega)
  omega
theorem i0_t : (0 : Int32).toInt = 0 := rfl
theorem l0_t : (0 : Int64).toInt = 0 := rfl
section Gcd
variable {X : Ctx} {k n : Nat} {Q : Pq} {h : Hp}
theorem common_end (C : C_X9_common X) {x y : Int64} (hx : 0 ≤ x.toInt) (hy : y.toInt = 0) (hpos : 0 < x.toInt) (hq : Q (some (.long (cm x y))) h) : Wj X k n Q 67 [(4, .long x)] [] h := by
  refine V_X9_common_67 C ⟨fun _ => ?_, fun h1 => ?_⟩
  · rw [cm_zero hx hy] at hq; exact hq
  · rw [i64_lt, l0_t] at h1; omega
theorem ii_1 : (Int32.ofInt 1).toInt = 1 := rfl
theorem common_loop (m : Nat) : ∀ {x y : Int64} {i : Int32}, C_X9_common X → 0 ≤ x.toInt → 0 ≤ y.toInt → y.toInt < 2 ^ m → 0 ≤ i.toInt → i.toInt + 2 * m ≤ 200 → (0 < x.toInt ∨ 0 < y.toInt) → Q (some (.long (cm x y))) h → Wj X k n Q 31 [(4, .long x), (6, .long y), (8, .int i)] [] h := by
  have base : ∀ {x y : Int64} {i : Int32}, C_X9_common X → 0 ≤ x.toInt → y.toInt = 0 → 0 < x.toInt → Q (some (.long (cm x y))) h → Wj X k n Q 31 [(4, .long x), (6, .long y), (8, .int i)] [] h := by
    intro x y i C hx hy hp hq
    refine V_X9_common_31 C ⟨fun _ => common_end C hx hy hp hq, fun _ => ⟨fun _ => common_end C hx hy hp hq, fun h1 => ?_⟩⟩
    rw [i64_eq, l0_t] at h1; omega
  induction m with
  | zero =>
    intro x y i C hx hy hm hi him hp hq
    have : y.toInt = 0 := by simp at hm; omega
    exact base C hx this (by omega) hq
  | succ m ih =>
    intro x y i C hx hy hm hi him hp hq
    by_cases h0 : y.toInt = 0
    · exact base C hx h0 (by omega) hq
    · have hyp : 0 < y.toInt := by omega
      have hr := lrem_p (x := x) (y := y) hx
      have hr0 := Int.emod_nonneg x.toInt (Int.ne_of_gt hyp)
      have hr1 := Int.emod_lt_of_pos x.toInt hyp
      have hb := b32 i
      have hi1 : (i + Int32.ofInt 1).toInt = i.toInt + 1 := by rw [iadd_t] <;> rw [ii_1] <;> omega
      refine V_X9_common_31 C ⟨fun h1 => ?_, fun h1 => ⟨fun h2 => ?_, fun h2 => ⟨h2, ?_⟩⟩⟩
      · rw [i32_le] at h1
        have : (200 : Int32).toInt = 200 := rfl
        omega
      · rw [i64_eq, l0_t] at h2; omega
      · rw [← cm_step hx hyp] at hq
        by_cases hz : (x % y).toInt = 0
        · exact base C (by omega) hz hyp hq
        · have hrp : 0 < (x % y).toInt := by omega
          have hs := lrem_p (x := y) (y := x % y) hy
          have hs0 := Int.emod_nonneg y.toInt (Int.ne_of_gt hrp)
          have hs1 := half_mod (y := y.toInt) hrp (by omega)
          refine V_X9_common_31 C ⟨fun h1 => ?_, fun h1 => ⟨fun h2 => ?_, fun h2 => ⟨h2, ?_⟩⟩⟩
          · rw [i32_le] at h1
            have : (200 : Int32).toInt = 200 := rfl
            omega
          · rw [i64_eq, l0_t] at h2; omega
          · have hi2 : (i + Int32.ofInt 1 + Int32.ofInt 1).toInt = i.toInt + 2 := by rw [iadd_t] <;> rw [hi1, ii_1] <;> omega
            refine ih C (by omega) (by omega) ?_ (by omega) (by omega) (by omega) (by rw [cm_step hy hrp]; exact hq)
            rw [Int.pow_succ] at hm
            omega
theorem commonM_loop (m : Nat) : ∀ {x y : Int64}, C_X10_common X → 0 ≤ x.toInt → 0 ≤ y.toInt → y.toInt < m → Q (some (.long (cm x y))) h → Wj X k n Q 17 [(4, .long x), (6, .long y)] [] h := by
  induction m with
  | zero => intro x y C hx hy hm; omega
  | succ m ih =>
    intro x y C hx hy hm hq
    refine V_X10_common_17 C ⟨fun h1 => ?_, fun h1 => ⟨h1, ?_⟩⟩
    · rw [i64_eq, l0_t] at h1
      rw [cm_zero hx h1] at hq; exact hq
    · rw [i64_eq, l0_t] at h1
      have hyp : 0 < y.toInt := by omega
      have hr := lrem_p (x := x) (y := y) hx
      have hr0 := Int.emod_nonneg x.toInt (Int.ne_of_gt hyp)
      have hr1 := Int.emod_lt_of_pos x.toInt hyp
      exact ih C hy (by omega) (by omega) (by rw [cm_step hx hyp]; exact hq)
end Gcd
section Gcd2
variable {l : Launch} {D : Dt} {h : Hp}
theorem sf_X9_common {a b : Int64} (ha : -9223372036854775807 ≤ a.toInt) (hb : 0 < b.toInt) : S_X9_common l D 0 0 [.long a, .long b] h (PF (.long (cm a b)) h) := Sp.of rfl (Nat.le_of_ble_eq_true rfl) (fun X C _ _ _ _ => V_X9_common_0 C (by
  have hbb := b64 b
  have h2 : b.toInt < 2 ^ 63 := by omega
  refine ⟨fun h1 => V_X9_common_12 C ⟨fun _ => ?_, fun h3 => ?_⟩, fun h1 => V_X9_common_12 C ⟨fun _ => ?_, fun h3 => ?_⟩⟩
  · rw [i64_le, l0_t] at h1
    exact common_loop 63 C h1 (by omega) h2 (by decide) (by decide) (by omega) ⟨rfl, rfl⟩
  · rw [i64_le, l0_t] at h3; omega
  · rw [i64_le, l0_t] at h1
    have := lneg_t ha
    refine common_loop 63 C (by omega) (by omega) h2 (by decide) (by decide) (by omega) ?_
    rw [cm_neg ha]; exact ⟨rfl, rfl⟩
  · rw [i64_le, l0_t] at h3; omega))
theorem sf_X10_common {a b : Int64} (ha : -9223372036854775807 ≤ a.toInt) (hb : 0 < b.toInt) : S_X10_common l D 0 0 [.long a, .long b] h (PF (.long (cm a b)) h) := Sp.of rfl (Nat.le_of_ble_eq_true rfl) (fun X C _ _ _ _ => V_X10_common_0 C (by
  have hbb := b64 b
  refine ⟨fun h1 => ?_, fun h1 => ?_⟩
  · rw [i64_le, l0_t] at h1
    exact commonM_loop (b.toInt.toNat + 1) C h1 (by omega) (by omega) ⟨rfl, rfl⟩
  · rw [i64_le, l0_t] at h1
    have := lneg_t ha
    refine commonM_loop (b.toInt.toNat + 1) C (by omega) (by omega) (by omega) ?_
    rw [cm_neg ha]; exact ⟨rfl, rfl⟩))
end Gcd2
end
section
-- fractions compared by whole parts, then turned about: class (compareFractions) and reference (isBelow)
theorem divmod {a b : Int} (hb : 0 < b) : a = a % b + b * (a / b) ∧ 0 ≤ a % b ∧ a % b < b := ⟨(Int.emod_add_mul_ediv a b).symm, Int.emod_nonneg a (Int.ne_of_gt hb), Int.emod_lt_of_pos a hb⟩
/-- whole parts that differ decide -/
theorem q_lt {a b c d : Int} (hb : 0 < b) (hd : 0 < d) (h : a / b < c / d) : a * d < c * b := by
  obtain ⟨h1, h2, h3⟩ := divmod (a := a) hb
  obtain ⟨g1, g2, g3⟩ := divmod (a := c) hd
  have e1 : a < b * (a / b + 1) := by rw [Int.mul_add]; omega
  have e2 : b * (a / b + 1) ≤ b * (c / d) := Int.mul_le_mul_of_nonneg_left (by omega) (by omega)
  have e3 : a * d < (b * (c / d)) * d := Int.mul_lt_mul_of_pos_right (by omega) hd
  have e4 : (d * (c / d)) * b ≤ c * b := Int.mul_le_mul_of_nonneg_right (by omega) (by omega)
  have e5 : (b * (c / d)) * d = (d * (c / d)) * b := by rw [Int.mul_comm b, Int.mul_assoc, Int.mul_comm d, Int.mul_assoc, Int.mul_comm b d]
  omega
/-- whole parts alike: the rests decide -/
theorem q_eq {a b c d : Int} (hb : 0 < b) (hd : 0 < d) (h : a / b = c / d) : a * d - c * b = (a % b) * d - (c % d) * b := by
  obtain ⟨h1, -, -⟩ := divmod (a := a) hb
  obtain ⟨g1, -, -⟩ := divmod (a := c) hd
  have e1 : a * d = (a % b) * d + b * (a / b) * d := by rw [← Int.add_mul, ← h1]
  have e2 : c * b = (c % d) * b + d * (c / d) * b := by rw [← Int.add_mul, ← g1]
  have e3 : b * (a / b) * d = d * (c / d) * b := by rw [h, Int.mul_comm b, Int.mul_assoc, Int.mul_comm d, Int.mul_assoc, Int.mul_comm b d]
  omega
theorem cmpF_of {a b c d x y : Int} (h : a * d - c * b = x - y) : cmpF a b c d = if x < y then -1 else if x = y then 0 else 1 := by
  unfold cmpF
  have h1 : a * d < c * b ↔ x < y := by omega
  have h2 : a * d = c * b ↔ x = y := by omega
  simp only [h1, h2]
theorem cmpL_c (a b : Int64) : cmpL a b = if a.toInt < b.toInt then -1 else if a.toInt = b.toInt then 0 else 1 := by
  unfold cmpL
  simp only [i64_lt, i64_eq]
theorem m1_ne : ¬ (-1 : Int32) = 0 := by decide
theorem p1_ne : ¬ (1 : Int32) = 0 := by decide
section Cmp
variable {X : Ctx} {k n : Nat} {Q : Pq} {h : Hp}
theorem cf_end (C : C_X9_compareFractions X) {w : Int32} {r s : Int64} (hq : Q (some (.int (if w = 0 then cmpL r s else w))) h) : Wj X k n Q 87 [(17, .int w), (18, .long r), (20, .long s)] [] h := by
  refine V_X9_compareFractions_87 C ⟨fun h1 => ?_, fun h1 => ?_⟩
  · rw [if_pos h1] at hq
    exact sf_J13_compare_74951.mono (fun v h' hp => by obtain ⟨rfl, rfl⟩ := hp; exact ⟨_, rfl, hq⟩)
  · rw [if_neg h1] at hq; exact hq
theorem cf_one (C : C_X9_compareFractions X) {a b c d : Int64} {i : Int32} (ha : 0 ≤ a.toInt) (hb : 0 < b.toInt) (hc : 0 ≤ c.toInt) (hd : 0 < d.toInt) (hi : i.toInt < 200) (hq : Q (some (.int (cmpF a.toInt b.toInt c.toInt d.toInt))) h)
    (hnext : a.toInt / b.toInt = c.toInt / d.toInt → ¬ (a % b).toInt = 0 → ¬ (c % d).toInt = 0 → Wj X k n Q 17 [(8, .long d), (10, .long (c % d)), (12, .long b), (14, .long (a % b)), (16, .int (i + Int32.ofInt 1))] [] h) :
    Wj X k n Q 17 [(8, .long a), (10, .long b), (12, .long c), (14, .long d), (16, .int i)] [] h := by
  have hb0 : ¬ b = 0 := by rw [i64_eq, l0_t]; omega
  have hd0 : ¬ d = 0 := by rw [i64_eq, l0_t]; omega
  have e1 := ldiv_p (x := a) (y := b) ha (by omega)
  have e2 := ldiv_p (x := c) (y := d) hc (by omega)
  have e3 := lrem_p (x := a) (y := b) ha
  have e4 := lrem_p (x := c) (y := d) hc
  have q1 : a.toInt / b.toInt = c.toInt / d.toInt → (a % b).toInt * d.toInt - (c % d).toInt * b.toInt = a.toInt * d.toInt - c.toInt * b.toInt := fun e => by rw [e3, e4]; exact (q_eq hb hd e).symm
  refine V_X9_compareFractions_17 C ⟨fun h1 => ?_, fun h1 => ⟨fun h2 => ?_, fun h2 => ⟨fun h3 => ?_, fun h3 => ⟨hb0, hd0, ?_⟩⟩⟩⟩
  · rw [i32_le] at h1
    have : (200 : Int32).toInt = 200 := rfl
    omega
  · rw [i64_le, l0_t] at h2; omega
  · rw [i64_le, l0_t] at h3; omega
  refine sf_J13_compare_74951.mono (fun v h' hp => ?_)
  obtain ⟨rfl, rfl⟩ := hp
  refine ⟨_, rfl, hb0, hd0, fun h4 => ?_, fun h4 => ⟨fun h5 => ?_, fun h5 => ⟨fun h6 => ?_, fun h6 => ?_⟩⟩⟩
  · refine cf_end C ?_
    rw [if_neg h4]
    have ee : cmpL (a / b) (c / d) = cmpF a.toInt b.toInt c.toInt d.toInt := by
      rw [cmpL_c, e1, e2] at h4 ⊢
      rcases Int.lt_trichotomy (a.toInt / b.toInt) (c.toInt / d.toInt) with hl | hl | hl
      · have := q_lt hb hd hl
        unfold cmpF
        rw [if_pos hl, if_pos this]
      · rw [if_neg (by omega), if_pos hl] at h4
        exact absurd rfl h4
      · have := q_lt hd hb hl
        unfold cmpF
        rw [if_neg (by omega), if_neg (by omega), if_neg (by omega), if_neg (by omega)]
    rw [ee]; exact hq
  · have hqe : a.toInt / b.toInt = c.toInt / d.toInt := by
      rw [cmpL_c, e1, e2] at h4
      rcases Int.lt_trichotomy (a.toInt / b.toInt) (c.toInt / d.toInt) with hl | hl | hl
      · rw [if_pos hl] at h4; exact absurd h4 m1_ne
      · exact hl
      · rw [if_neg (by omega), if_neg (by omega)] at h4; exact absurd h4 p1_ne
    rw [i64_eq, l0_t] at h5
    refine cf_end C ?_
    rw [if_pos h4]
    have ee : cmpL (a % b) (c % d) = cmpF a.toInt b.toInt c.toInt d.toInt := by
      have := q1 hqe
      have hn := (divmod (a := c.toInt) hd).2.1
      rw [h5, Int.zero_mul] at this
      rw [cmpL_c, cmpF_of this.symm, h5]
      rw [← e4] at hn
      by_cases hz : (c % d).toInt = 0
      · rw [hz]; simp
      · have : 0 < (c % d).toInt * b.toInt := Int.mul_pos (by omega) hb
        rw [if_pos (by omega), if_pos (by omega)]
    rw [ee]; exact hq
  · have hqe : a.toInt / b.toInt = c.toInt / d.toInt := by
      rw [cmpL_c, e1, e2] at h4
      rcases Int.lt_trichotomy (a.toInt / b.toInt) (c.toInt / d.toInt) with hl | hl | hl
      · rw [if_pos hl] at h4; exact absurd h4 m1_ne
      · exact hl
      · rw [if_neg (by omega), if_neg (by omega)] at h4; exact absurd h4 p1_ne
    rw [i64_eq, l0_t] at h5 h6
    exact hnext hqe h5 h6
  · have hqe : a.toInt / b.toInt = c.toInt / d.toInt := by
      rw [cmpL_c, e1, e2] at h4
      rcases Int.lt_trichotomy (a.toInt / b.toInt) (c.toInt / d.toInt) with hl | hl | hl
      · rw [if_pos hl] at h4; exact absurd h4 m1_ne
      · exact hl
      · rw [if_neg (by omega), if_neg (by omega)] at h4; exact absurd h4 p1_ne
    rw [i64_eq, l0_t] at h5 h6
    refine cf_end C ?_
    rw [if_pos h4]
    have ee : cmpL (a % b) (c % d) = cmpF a.toInt b.toInt c.toInt d.toInt := by
      have := q1 hqe
      have hn := (divmod (a := a.toInt) hb).2.1
      rw [h6, Int.zero_mul] at this
      rw [← e3] at hn
      have h7 : 0 < (a % b).toInt * d.toInt := Int.mul_pos (by omega) hd
      rw [cmpL_c, cmpF_of this.symm, h6]
      rw [if_neg (by omega), if_neg (by omega), if_neg (by omega), if_neg (by omega)]
    rw [ee]; exact hq
theorem cmpF_turn {a b c d : Int} (hb : 0 < b) (hd : 0 < d) (h : a / b = c / d) : cmpF d (c % d) b (a % b) = cmpF a b c d := by
  have e := q_eq hb hd h
  have e2 : d * (a % b) - b * (c % d) = a * d - c * b := by rw [e, Int.mul_comm d, Int.mul_comm b]
  rw [cmpF_of e2]; unfold cmpF; rfl
theorem cf_loop (m : Nat) : ∀ {a b c d : Int64} {i : Int32}, C_X9_compareFractions X → 0 ≤ a.toInt → 0 < b.toInt → 0 ≤ c.toInt → 0 < d.toInt → b.toInt < 2 ^ m → 0 ≤ i.toInt → i.toInt + 2 * m ≤ 200 → Q (some (.int (cmpF a.toInt b.toInt c.toInt d.toInt))) h → Wj X k n Q 17 [(8, .long a), (10, .long b), (12, .long c), (14, .long d), (16, .int i)] [] h := by
  induction m with
  | zero => intro a b c d i C ha hb hc hd hm; simp at hm; omega
  | succ m ih =>
    intro a b c d i C ha hb hc hd hm hi him hq
    have hbi := b32 i
    have hi1 : (i + Int32.ofInt 1).toInt = i.toInt + 1 := by rw [iadd_t] <;> rw [ii_1] <;> omega
    refine cf_one C ha hb hc hd (by omega) hq (fun e1 r1 r2 => ?_)
    have e3 := lrem_p (x := a) (y := b) ha
    have e4 := lrem_p (x := c) (y := d) hc
    obtain ⟨-, n1, n2⟩ := divmod (a := a.toInt) hb
    obtain ⟨-, n3, n4⟩ := divmod (a := c.toInt) hd
    rw [← e3] at n1 n2
    rw [← e4] at n3 n4
    have hq2 : Q (some (.int (cmpF d.toInt (c % d).toInt b.toInt (a % b).toInt))) h := by rw [e3, e4, cmpF_turn hb hd e1]; exact hq
    refine cf_one C (by omega) (by omega) (by omega) (by omega) (by omega) hq2 (fun e2 r3 r4 => ?_)
    have e5 := lrem_p (x := d) (y := c % d) (by omega)
    have e6 := lrem_p (x := b) (y := a % b) (by omega)
    obtain ⟨-, n5, n6⟩ := divmod (a := d.toInt) (b := (c % d).toInt) (by omega)
    obtain ⟨-, n7, n8⟩ := divmod (a := b.toInt) (b := (a % b).toInt) (by omega)
    have n9 := half_mod (y := b.toInt) (r := (a % b).toInt) (by omega) n2
    rw [← e5] at n5 n6
    rw [← e6] at n7 n8 n9
    have hi2 : (i + Int32.ofInt 1 + Int32.ofInt 1).toInt = i.toInt + 2 := by rw [iadd_t] <;> rw [hi1, ii_1] <;> omega
    refine ih C (by omega) (by omega) (by omega) (by omega) ?_ (by omega) (by omega) ?_
    · rw [Int.pow_succ] at hm; omega
    · rw [e5, e6, cmpF_turn (by omega) (by omega) e2]; exact hq2
/-- whether a by b is less than c by d -/
def blw (a b c d : Int) : Int32 := if a * d < c * b then 1 else 0
theorem ib_end (C : C_X10_isBelow X) {w : Int32} {r s : Int64} {z : Int32} (hw : w = 0 ∨ w = 1) (hq : Q (some (.int z)) h) (hz : z = if r = 0 then (if s = 0 then 0 else w) else (if w = 0 then 1 else 0)) : Wj X k n Q 91 [(8, .long r), (12, .long s), (16, .int w)] [] h := by
  refine V_X10_isBelow_91 C ⟨fun h1 => V_X10_isBelow_109 C ⟨fun h2 => ⟨fun h3 => ?_, fun h3 => ?_⟩, fun h2 => absurd h2 h1⟩, fun h1 => ⟨fun h2 => V_X10_isBelow_109 C ⟨fun h3 => absurd h1 h3, fun _ => ⟨fun h4 => ?_, fun h4 => ?_⟩⟩, fun h2 => ?_⟩⟩
  · rw [if_neg h1, if_neg h3] at hz; rw [hz] at hq; exact hq
  · rw [if_neg h1, if_pos h3] at hz; rw [hz] at hq; exact hq
  · rw [if_pos h1, if_neg h2] at hz
    rcases hw with rfl | rfl
    · rw [hz] at hq; exact hq
    · exact absurd rfl h4
  · rw [if_pos h1, if_neg h2] at hz
    rw [hz, h4] at hq; exact hq
  · rw [if_pos h1, if_pos h2] at hz; rw [hz] at hq; exact hq
theorem blw_of {a b c d x y : Int} (h : a * d - c * b = x - y) : blw a b c d = if x < y then 1 else 0 := by
  unfold blw
  have h1 : a * d < c * b ↔ x < y := by omega
  simp only [h1]
theorem ib_loop (m : Nat) : ∀ {a b c d : Int64} {w : Int32}, C_X10_isBelow X → 0 ≤ a.toInt → 0 < b.toInt → 0 ≤ c.toInt → 0 < d.toInt → b.toInt < m → (w = 0 ∨ w = 1) → Q (some (.int (if w = 1 then blw a.toInt b.toInt c.toInt d.toInt else blw c.toInt d.toInt a.toInt b.toInt))) h → Wj X k n Q 17 [(8, .long a), (10, .long b), (12, .long c), (14, .long d), (16, .int w)] [] h := by
  induction m with
  | zero => intro a b c d w C ha hb hc hd hm; omega
  | succ m ih =>
    intro a b c d w C ha hb hc hd hm hw hq
    have hb0 : ¬ b = 0 := by rw [i64_eq, l0_t]; omega
    have hd0 : ¬ d = 0 := by rw [i64_eq, l0_t]; omega
    have e1 := ldiv_p (x := a) (y := b) ha (by omega)
    have e2 := ldiv_p (x := c) (y := d) hc (by omega)
    have e3 := lrem_p (x := a) (y := b) ha
    have e4 := lrem_p (x := c) (y := d) hc
    obtain ⟨-, n1, n2⟩ := divmod (a := a.toInt) hb
    obtain ⟨-, n3, n4⟩ := divmod (a := c.toInt) hd
    rw [← e3] at n1 n2
    rw [← e4] at n3 n4
    have endq : a.toInt / b.toInt = c.toInt / d.toInt → ((a % b).toInt = 0 ∨ (c % d).toInt = 0) → (if w = 1 then blw a.toInt b.toInt c.toInt d.toInt else blw c.toInt d.toInt a.toInt b.toInt) = if (a % b) = 0 then (if (c % d) = 0 then 0 else w) else (if w = 0 then 1 else 0) := by
      intro e hz
      have q1 := q_eq hb hd e
      rw [← e3, ← e4] at q1
      have q2 := q_eq hd hb e.symm
      rw [← e3, ← e4] at q2
      rw [blw_of q1, blw_of q2]
      simp only [i64_eq, l0_t]
      rcases hz with hz | hz
      · rw [hz, Int.zero_mul, if_pos rfl]
        by_cases hz2 : (c % d).toInt = 0
        · rw [hz2]; simp
        · have hp : 0 < (c % d).toInt * b.toInt := Int.mul_pos (by omega) hb
          have hn : ¬ (c % d).toInt * b.toInt < 0 := by omega
          rw [if_pos hp, if_neg hn, if_neg hz2]
          rcases hw with rfl | rfl <;> decide
      · rw [hz, Int.zero_mul]
        by_cases hz2 : (a % b).toInt = 0
        · rw [hz2]; simp
        · have hp : 0 < (a % b).toInt * d.toInt := Int.mul_pos (by omega) hd
          have hn : ¬ (a % b).toInt * d.toInt < 0 := by omega
          rw [if_pos hp, if_neg hn, if_neg hz2]
          rcases hw with rfl | rfl <;> decide
    have turn : a.toInt / b.toInt = c.toInt / d.toInt → blw b.toInt (a % b).toInt d.toInt (c % d).toInt = blw c.toInt d.toInt a.toInt b.toInt ∧ blw d.toInt (c % d).toInt b.toInt (a % b).toInt = blw a.toInt b.toInt c.toInt d.toInt := by
      intro e
      have q1 := q_eq hb hd e
      rw [← e3, ← e4] at q1
      have q2 := q_eq hd hb e.symm
      rw [← e3, ← e4] at q2
      rw [blw_of q1, blw_of q2]
      unfold blw
      rw [Int.mul_comm b.toInt, Int.mul_comm d.toInt]
      exact ⟨rfl, rfl⟩
    refine V_X10_isBelow_17 C ⟨hb0, hd0, fun h1 => ⟨fun h2 => ?_, fun h2 => ⟨fun h3 => ⟨fun h4 => ?_, fun h4 => ?_⟩, fun h3 => ?_⟩⟩, fun h1 => ⟨fun h2 => ⟨fun h3 => ?_, fun h3 => ?_⟩, fun h2 => ⟨fun h3 => ?_, fun h3 => ?_⟩⟩⟩
    all_goals rw [i64_eq, e1, e2] at h1
    · rw [i64_eq, l0_t] at h2
      exact ib_end C hw hq (endq h1 (Or.inl h2))
    · rw [i64_eq, l0_t] at h2 h3
      have hw1 : w = 1 := hw.resolve_left h4
      rw [if_pos hw1, ← (turn h1).2] at hq
      exact ih C (by omega) (by omega) (by omega) (by omega) (by omega) (Or.inl rfl) (by rw [if_neg (by decide)]; exact hq)
    · rw [i64_eq, l0_t] at h2 h3
      rw [if_neg (by rw [h4]; decide), ← (turn h1).1] at hq
      exact ih C (by omega) (by omega) (by omega) (by omega) (by omega) (Or.inr rfl) (by rw [if_pos rfl]; exact hq)
    · rw [i64_eq, l0_t] at h3
      exact ib_end C hw hq (endq h1 (Or.inr h3))
    all_goals rw [i64_le, e1, e2] at h2
    · have hw1 : w = 1 := hw.resolve_left h3
      have := q_lt (a := c.toInt) (c := a.toInt) hd hb (by omega)
      rw [if_pos hw1] at hq
      unfold blw at hq
      rw [if_neg (by omega)] at hq; exact hq
    · have := q_lt (a := c.toInt) (c := a.toInt) hd hb (by omega)
      rw [if_neg (by rw [h3]; decide)] at hq
      unfold blw at hq
      rw [if_pos this] at hq; exact hq
    · have := q_lt (a := a.toInt) (c := c.toInt) hb hd (by omega)
      rw [if_neg h3] at hq
      unfold blw at hq
      rw [if_neg (by omega)] at hq; exact hq
    · have := q_lt (a := a.toInt) (c := c.toInt) hb hd (by omega)
      rw [if_pos h3] at hq
      unfold blw at hq
      rw [if_pos this] at hq; exact hq
end Cmp
section Cmp2
variable {l : Launch} {D : Dt} {h : Hp}
theorem sf_X9_compareFractions {a b c d : Int64} (ha : 0 ≤ a.toInt) (hb : 0 < b.toInt) (hc : 0 ≤ c.toInt) (hd : 0 < d.toInt) : S_X9_compareFractions l D 0 0 [.long a, .long b, .long c, .long d] h (PF (.int (cmpF a.toInt b.toInt c.toInt d.toInt)) h) := Sp.of rfl (Nat.le_of_ble_eq_true rfl) (fun X C _ _ _ _ => V_X9_compareFractions_0 C (by
  have hbb := b64 b
  exact cf_loop 63 C ha hb hc hd (by omega) (by decide) (by decide) ⟨rfl, rfl⟩))
theorem sf_X10_isBelow {a b c d : Int64} (ha : 0 ≤ a.toInt) (hb : 0 < b.toInt) (hc : 0 ≤ c.toInt) (hd : 0 < d.toInt) : S_X10_isBelow l D 0 0 [.long a, .long b, .long c, .long d] h (PF (.int (blw a.toInt b.toInt c.toInt d.toInt)) h) := Sp.of rfl (Nat.le_of_ble_eq_true rfl) (fun X C _ _ _ _ => V_X10_isBelow_0 C (by
  exact ib_loop (b.toInt.toNat + 1) C ha hb hc hd (by omega) (Or.inr rfl) (by rw [if_pos rfl]; exact ⟨rfl, rfl⟩)))
end Cmp2
end
section
-- the objects' shapes (by program: gen_struct.py)
theorem inbd {i : Int32} {N : Nat} (h : 0 ≤ i.toInt ∧ i.toInt < N) : inb i N := h
theorem inbl {i : Int32} {N M : Nat} (e : M = N) (h : inb i N) : inb i M := e ▸ h
def St1 (h : Hp) (a : Nat) : Prop := kd h a = 2 ∧ gr h a 0 = some (a + 1) ∧ kd h (a + 1) = 7
theorem St1_k {h : Hp} {a : Nat} (F : St1 h a) : kd h a = 2 := F.1
theorem St1_r0 {h : Hp} {a : Nat} (F : St1 h a) : gr h a 0 = some (a + 1) := F.2.1
theorem St1_k0 {h : Hp} {a : Nat} (F : St1 h a) : kd h (a + 1) = 7 := F.2.2
theorem St1_same {h h' : Hp} {a : Nat} (F : St1 h a) (e1 : kd h' = kd h) (e2 : ln h' = ln h) (e3 : gr h' = gr h) : St1 h' a := by
  unfold St1 at *
  simp only [e1, e2, e3]
  exact F
def St3 (h : Hp) (a : Nat) : Prop := kd h a = 4 ∧ gr h a 1 = some (a + 1) ∧ kd h (a + 1) = 3 ∧ gr h a 2 = some (a + 2) ∧ kd h (a + 2) = 21 ∧ ln h (a + 2) = 60 ∧ gr h a 3 = some (a + 3) ∧ kd h (a + 3) = 21 ∧ ln h (a + 3) = 60
theorem St3_k {h : Hp} {a : Nat} (F : St3 h a) : kd h a = 4 := F.1
theorem St3_r1 {h : Hp} {a : Nat} (F : St3 h a) : gr h a 1 = some (a + 1) := F.2.1
theorem St3_k1 {h : Hp} {a : Nat} (F : St3 h a) : kd h (a + 1) = 3 := F.2.2.1
theorem St3_r2 {h : Hp} {a : Nat} (F : St3 h a) : gr h a 2 = some (a + 2) := F.2.2.2.1
theorem St3_k2 {h : Hp} {a : Nat} (F : St3 h a) : kd h (a + 2) = 21 := F.2.2.2.2.1
theorem St3_l2 {h : Hp} {a : Nat} (F : St3 h a) : ln h (a + 2) = 60 := F.2.2.2.2.2.1
theorem St3_r3 {h : Hp} {a : Nat} (F : St3 h a) : gr h a 3 = some (a + 3) := F.2.2.2.2.2.2.1
theorem St3_k3 {h : Hp} {a : Nat} (F : St3 h a) : kd h (a + 3) = 21 := F.2.2.2.2.2.2.2.1
theorem St3_l3 {h : Hp} {a : Nat} (F : St3 h a) : ln h (a + 3) = 60 := F.2.2.2.2.2.2.2.2
theorem St3_same {h h' : Hp} {a : Nat} (F : St3 h a) (e1 : kd h' = kd h) (e2 : ln h' = ln h) (e3 : gr h' = gr h) : St3 h' a := by
  unfold St3 at *
  simp only [e1, e2, e3]
  exact F
def St4 (h : Hp) (a : Nat) : Prop := kd h a = 5 ∧ gr h a 8 = some (a + 1) ∧ kd h (a + 1) = 3 ∧ gr h a 9 = some (a + 2) ∧ kd h (a + 2) = 3 ∧ gr h a 10 = some (a + 3) ∧ kd h (a + 3) = 3 ∧ gr h a 11 = some (a + 4) ∧ kd h (a + 4) = 20 ∧ ln h (a + 4) = 18 ∧ gr h a 12 = some (a + 5) ∧ kd h (a + 5) = 20 ∧ ln h (a + 5) = 18 ∧ gr h a 13 = some (a + 6) ∧ kd h (a + 6) = 20 ∧ ln h (a + 6) = 12 ∧ gr h a 14 = some (a + 7) ∧ kd h (a + 7) = 21 ∧ ln h (a + 7) = 60 ∧ gr h a 15 = some (a + 8) ∧ kd h (a + 8) = 21 ∧ ln h (a + 8) = 60
theorem St4_k {h : Hp} {a : Nat} (F : St4 h a) : kd h a = 5 := F.1
theorem St4_r8 {h : Hp} {a : Nat} (F : St4 h a) : gr h a 8 = some (a + 1) := F.2.1
theorem St4_k8 {h : Hp} {a : Nat} (F : St4 h a) : kd h (a + 1) = 3 := F.2.2.1
theorem St4_r9 {h : Hp} {a : Nat} (F : St4 h a) : gr h a 9 = some (a + 2) := F.2.2.2.1
theorem St4_k9 {h : Hp} {a : Nat} (F : St4 h a) : kd h (a + 2) = 3 := F.2.2.2.2.1
theorem St4_r10 {h : Hp} {a : Nat} (F : St4 h a) : gr h a 10 = some (a + 3) := F.2.2.2.2.2.1
theorem St4_k10 {h : Hp} {a : Nat} (F : St4 h a) : kd h (a + 3) = 3 := F.2.2.2.2.2.2.1
theorem St4_r11 {h : Hp} {a : Nat} (F : St4 h a) : gr h a 11 = some (a + 4) := F.2.2.2.2.2.2.2.1
theorem St4_k11 {h : Hp} {a : Nat} (F : St4 h a) : kd h (a + 4) = 20 := F.2.2.2.2.2.2.2.2.1
theorem St4_l11 {h : Hp} {a : Nat} (F : St4 h a) : ln h (a + 4) = 18 := F.2.2.2.2.2.2.2.2.2.1
theorem St4_r12 {h : Hp} {a : Nat} (F : St4 h a) : gr h a 12 = some (a + 5) := F.2.2.2.2.2.2.2.2.2.2.1
theorem St4_k12 {h : Hp} {a : Nat} (F : St4 h a) : kd h (a + 5) = 20 := F.2.2.2.2.2.2.2.2.2.2.2.1
theorem St4_l12 {h : Hp} {a : Nat} (F : St4 h a) : ln h (a + 5) = 18 := F.2.2.2.2.2.2.2.2.2.2.2.2.1
theorem St4_r13 {h : Hp} {a : Nat} (F : St4 h a) : gr h a 13 = some (a + 6) := F.2.2.2.2.2.2.2.2.2.2.2.2.2.1
theorem St4_k13 {h : Hp} {a : Nat} (F : St4 h a) : kd h (a + 6) = 20 := F.2.2.2.2.2.2.2.2.2.2.2.2.2.2.1
theorem St4_l13 {h : Hp} {a : Nat} (F : St4 h a) : ln h (a + 6) = 12 := F.2.2.2.2.2.2.2.2.2.2.2.2.2.2.2.1
theorem St4_r14 {h : Hp} {a : Nat} (F : St4 h a) : gr h a 14 = some (a + 7) := F.2.2.2.2.2.2.2.2.2.2.2.2.2.2.2.2.1
theorem St4_k14 {h : Hp} {a : Nat} (F : St4 h a) : kd h (a + 7) = 21 := F.2.2.2.2.2.2.2.2.2.2.2.2.2.2.2.2.2.1
theorem St4_l14 {h : Hp} {a : Nat} (F : St4 h a) : ln h (a + 7) = 60 := F.2.2.2.2.2.2.2.2.2.2.2.2.2.2.2.2.2.2.1
theorem St4_r15 {h : Hp} {a : Nat} (F : St4 h a) : gr h a 15 = some (a + 8) := F.2.2.2.2.2.2.2.2.2.2.2.2.2.2.2.2.2.2.2.1
theorem St4_k15 {h : Hp} {a : Nat} (F : St4 h a) : kd h (a + 8) = 21 := F.2.2.2.2.2.2.2.2.2.2.2.2.2.2.2.2.2.2.2.2.1
theorem St4_l15 {h : Hp} {a : Nat} (F : St4 h a) : ln h (a + 8) = 60 := F.2.2.2.2.2.2.2.2.2.2.2.2.2.2.2.2.2.2.2.2.2
theorem St4_same {h h' : Hp} {a : Nat} (F : St4 h a) (e1 : kd h' = kd h) (e2 : ln h' = ln h) (e3 : gr h' = gr h) : St4 h' a := by
  unfold St4 at *
  simp only [e1, e2, e3]
  exact F
def St5 (h : Hp) (a : Nat) : Prop := kd h a = 6 ∧ gr h a 2 = some (a + 1) ∧ kd h (a + 1) = 20 ∧ ln h (a + 1) = 12 ∧ gr h a 3 = some (a + 2) ∧ kd h (a + 2) = 20 ∧ ln h (a + 2) = 3102 ∧ gr h a 4 = some (a + 3) ∧ kd h (a + 3) = 20 ∧ ln h (a + 3) = 3102 ∧ gr h a 5 = some (a + 4) ∧ kd h (a + 4) = 20 ∧ ln h (a + 4) = 3102 ∧ gr h a 6 = some (a + 5) ∧ kd h (a + 5) = 20 ∧ ln h (a + 5) = 8192
theorem St5_k {h : Hp} {a : Nat} (F : St5 h a) : kd h a = 6 := F.1
theorem St5_r2 {h : Hp} {a : Nat} (F : St5 h a) : gr h a 2 = some (a + 1) := F.2.1
theorem St5_k2 {h : Hp} {a : Nat} (F : St5 h a) : kd h (a + 1) = 20 := F.2.2.1
theorem St5_l2 {h : Hp} {a : Nat} (F : St5 h a) : ln h (a + 1) = 12 := F.2.2.2.1
theorem St5_r3 {h : Hp} {a : Nat} (F : St5 h a) : gr h a 3 = some (a + 2) := F.2.2.2.2.1
theorem St5_k3 {h : Hp} {a : Nat} (F : St5 h a) : kd h (a + 2) = 20 := F.2.2.2.2.2.1
theorem St5_l3 {h : Hp} {a : Nat} (F : St5 h a) : ln h (a + 2) = 3102 := F.2.2.2.2.2.2.1
theorem St5_r4 {h : Hp} {a : Nat} (F : St5 h a) : gr h a 4 = some (a + 3) := F.2.2.2.2.2.2.2.1
theorem St5_k4 {h : Hp} {a : Nat} (F : St5 h a) : kd h (a + 3) = 20 := F.2.2.2.2.2.2.2.2.1
theorem St5_l4 {h : Hp} {a : Nat} (F : St5 h a) : ln h (a + 3) = 3102 := F.2.2.2.2.2.2.2.2.2.1
theorem St5_r5 {h : Hp} {a : Nat} (F : St5 h a) : gr h a 5 = some (a + 4) := F.2.2.2.2.2.2.2.2.2.2.1
theorem St5_k5 {h : Hp} {a : Nat} (F : St5 h a) : kd h (a + 4) = 20 := F.2.2.2.2.2.2.2.2.2.2.2.1
theorem St5_l5 {h : Hp} {a : Nat} (F : St5 h a) : ln h (a + 4) = 3102 := F.2.2.2.2.2.2.2.2.2.2.2.2.1
theorem St5_r6 {h : Hp} {a : Nat} (F : St5 h a) : gr h a 6 = some (a + 5) := F.2.2.2.2.2.2.2.2.2.2.2.2.2.1
theorem St5_k6 {h : Hp} {a : Nat} (F : St5 h a) : kd h (a + 5) = 20 := F.2.2.2.2.2.2.2.2.2.2.2.2.2.2.1
theorem St5_l6 {h : Hp} {a : Nat} (F : St5 h a) : ln h (a + 5) = 8192 := F.2.2.2.2.2.2.2.2.2.2.2.2.2.2.2
theorem St5_same {h h' : Hp} {a : Nat} (F : St5 h a) (e1 : kd h' = kd h) (e2 : ln h' = ln h) (e3 : gr h' = gr h) : St5 h' a := by
  unfold St5 at *
  simp only [e1, e2, e3]
  exact F
def St7 (h : Hp) (a : Nat) : Prop := kd h a = 8 ∧ gr h a 0 = some (a + 1) ∧ kd h (a + 1) = 22 ∧ ln h (a + 1) = 80
theorem St7_k {h : Hp} {a : Nat} (F : St7 h a) : kd h a = 8 := F.1
theorem St7_r0 {h : Hp} {a : Nat} (F : St7 h a) : gr h a 0 = some (a + 1) := F.2.1
theorem St7_k0 {h : Hp} {a : Nat} (F : St7 h a) : kd h (a + 1) = 22 := F.2.2.1
theorem St7_l0 {h : Hp} {a : Nat} (F : St7 h a) : ln h (a + 1) = 80 := F.2.2.2
theorem St7_same {h h' : Hp} {a : Nat} (F : St7 h a) (e1 : kd h' = kd h) (e2 : ln h' = ln h) (e3 : gr h' = gr h) : St7 h' a := by
  unfold St7 at *
  simp only [e1, e2, e3]
  exact F
def St8 (h : Hp) (a : Nat) : Prop := kd h a = 9 ∧ gr h a 0 = some (a + 1) ∧ kd h (a + 1) = 21 ∧ ln h (a + 1) = 60
theorem St8_k {h : Hp} {a : Nat} (F : St8 h a) : kd h a = 9 := F.1
theorem St8_r0 {h : Hp} {a : Nat} (F : St8 h a) : gr h a 0 = some (a + 1) := F.2.1
theorem St8_k0 {h : Hp} {a : Nat} (F : St8 h a) : kd h (a + 1) = 21 := F.2.2.1
theorem St8_l0 {h : Hp} {a : Nat} (F : St8 h a) : ln h (a + 1) = 60 := F.2.2.2
theorem St8_same {h h' : Hp} {a : Nat} (F : St8 h a) (e1 : kd h' = kd h) (e2 : ln h' = ln h) (e3 : gr h' = gr h) : St8 h' a := by
  unfold St8 at *
  simp only [e1, e2, e3]
  exact F
def St9 (h : Hp) (a : Nat) : Prop := kd h a = 10 ∧ gr h a 0 = some (a + 1) ∧ St7 h (a + 1) ∧ gr h a 1 = some (a + 3) ∧ St8 h (a + 3) ∧ gr h a 2 = some (a + 5) ∧ kd h (a + 5) = 7 ∧ gr h a 3 = some (a + 6) ∧ kd h (a + 6) = 1 ∧ gr h a 4 = some (a + 7) ∧ St1 h (a + 7) ∧ gr h a 5 = some (a + 9) ∧ St3 h (a + 9) ∧ gr h a 6 = some (a + 13) ∧ kd h (a + 13) = 3 ∧ gr h a 7 = some (a + 14) ∧ kd h (a + 14) = 3 ∧ gr h a 8 = some (a + 15) ∧ kd h (a + 15) = 24 ∧ ln h (a + 15) = 7 ∧ gr h a 9 = some (a + 16) ∧ kd h (a + 16) = 24 ∧ ln h (a + 16) = 2
theorem St9_k {h : Hp} {a : Nat} (F : St9 h a) : kd h a = 10 := F.1
theorem St9_r0 {h : Hp} {a : Nat} (F : St9 h a) : gr h a 0 = some (a + 1) := F.2.1
theorem St9_s0 {h : Hp} {a : Nat} (F : St9 h a) : St7 h (a + 1) := F.2.2.1
theorem St9_r1 {h : Hp} {a : Nat} (F : St9 h a) : gr h a 1 = some (a + 3) := F.2.2.2.1
theorem St9_s1 {h : Hp} {a : Nat} (F : St9 h a) : St8 h (a + 3) := F.2.2.2.2.1
theorem St9_r2 {h : Hp} {a : Nat} (F : St9 h a) : gr h a 2 = some (a + 5) := F.2.2.2.2.2.1
theorem St9_k2 {h : Hp} {a : Nat} (F : St9 h a) : kd h (a + 5) = 7 := F.2.2.2.2.2.2.1
theorem St9_r3 {h : Hp} {a : Nat} (F : St9 h a) : gr h a 3 = some (a + 6) := F.2.2.2.2.2.2.2.1
theorem St9_k3 {h : Hp} {a : Nat} (F : St9 h a) : kd h (a + 6) = 1 := F.2.2.2.2.2.2.2.2.1
theorem St9_r4 {h : Hp} {a : Nat} (F : St9 h a) : gr h a 4 = some (a + 7) := F.2.2.2.2.2.2.2.2.2.1
theorem St9_s4 {h : Hp} {a : Nat} (F : St9 h a) : St1 h (a + 7) := F.2.2.2.2.2.2.2.2.2.2.1
theorem St9_r5 {h : Hp} {a : Nat} (F : St9 h a) : gr h a 5 = some (a + 9) := F.2.2.2.2.2.2.2.2.2.2.2.1
theorem St9_s5 {h : Hp} {a : Nat} (F : St9 h a) : St3 h (a + 9) := F.2.2.2.2.2.2.2.2.2.2.2.2.1
theorem St9_r6 {h : Hp} {a : Nat} (F : St9 h a) : gr h a 6 = some (a + 13) := F.2.2.2.2.2.2.2.2.2.2.2.2.2.1
theorem St9_k6 {h : Hp} {a : Nat} (F : St9 h a) : kd h (a + 13) = 3 := F.2.2.2.2.2.2.2.2.2.2.2.2.2.2.1
theorem St9_r7 {h : Hp} {a : Nat} (F : St9 h a) : gr h a 7 = some (a + 14) := F.2.2.2.2.2.2.2.2.2.2.2.2.2.2.2.1
theorem St9_k7 {h : Hp} {a : Nat} (F : St9 h a) : kd h (a + 14) = 3 := F.2.2.2.2.2.2.2.2.2.2.2.2.2.2.2.2.1
theorem St9_r8 {h : Hp} {a : Nat} (F : St9 h a) : gr h a 8 = some (a + 15) := F.2.2.2.2.2.2.2.2.2.2.2.2.2.2.2.2.2.1
theorem St9_k8 {h : Hp} {a : Nat} (F : St9 h a) : kd h (a + 15) = 24 := F.2.2.2.2.2.2.2.2.2.2.2.2.2.2.2.2.2.2.1
theorem St9_l8 {h : Hp} {a : Nat} (F : St9 h a) : ln h (a + 15) = 7 := F.2.2.2.2.2.2.2.2.2.2.2.2.2.2.2.2.2.2.2.1
theorem St9_r9 {h : Hp} {a : Nat} (F : St9 h a) : gr h a 9 = some (a + 16) := F.2.2.2.2.2.2.2.2.2.2.2.2.2.2.2.2.2.2.2.2.1
theorem St9_k9 {h : Hp} {a : Nat} (F : St9 h a) : kd h (a + 16) = 24 := F.2.2.2.2.2.2.2.2.2.2.2.2.2.2.2.2.2.2.2.2.2.1
theorem St9_l9 {h : Hp} {a : Nat} (F : St9 h a) : ln h (a + 16) = 2 := F.2.2.2.2.2.2.2.2.2.2.2.2.2.2.2.2.2.2.2.2.2.2
theorem St9_same {h h' : Hp} {a : Nat} (F : St9 h a) (e1 : kd h' = kd h) (e2 : ln h' = ln h) (e3 : gr h' = gr h) : St9 h' a := by
  unfold St9 St7 St8 St1 St3 at *
  simp only [e1, e2, e3]
  exact F
def St10 (h : Hp) (a : Nat) : Prop := kd h a = 11 ∧ gr h a 2 = some (a + 1) ∧ kd h (a + 1) = 21 ∧ ln h (a + 1) = 64 ∧ gr h a 3 = some (a + 2) ∧ kd h (a + 2) = 20 ∧ ln h (a + 2) = 80 ∧ gr h a 7 = some (a + 3) ∧ kd h (a + 3) = 20 ∧ ln h (a + 3) = 732 ∧ gr h a 8 = some (a + 4) ∧ kd h (a + 4) = 21 ∧ ln h (a + 4) = 1464 ∧ gr h a 10 = some (a + 5) ∧ kd h (a + 5) = 20 ∧ ln h (a + 5) = 18 ∧ gr h a 11 = some (a + 6) ∧ kd h (a + 6) = 20 ∧ ln h (a + 6) = 12 ∧ gr h a 17 = some (a + 7) ∧ kd h (a + 7) = 20 ∧ ln h (a + 7) = 4 ∧ gr h a 19 = some (a + 8) ∧ kd h (a + 8) = 20 ∧ ln h (a + 8) = 4 ∧ gr h a 27 = some (a + 9) ∧ kd h (a + 9) = 21 ∧ ln h (a + 9) = 12100 ∧ gr h a 35 = some (a + 10) ∧ kd h (a + 10) = 21 ∧ ln h (a + 10) = 120 ∧ gr h a 36 = some (a + 11) ∧ kd h (a + 11) = 21 ∧ ln h (a + 11) = 60 ∧ gr h a 37 = some (a + 12) ∧ kd h (a + 12) = 20 ∧ ln h (a + 12) = 80 ∧ gr h a 38 = some (a + 13) ∧ kd h (a + 13) = 20 ∧ ln h (a + 13) = 80 ∧ gr h a 39 = some (a + 14) ∧ kd h (a + 14) = 20 ∧ ln h (a + 14) = 80 ∧ gr h a 40 = some (a + 15) ∧ kd h (a + 15) = 20 ∧ ln h (a + 15) = 80 ∧ gr h a 42 = some (a + 16) ∧ kd h (a + 16) = 23 ∧ ln h (a + 16) = 2
theorem St10_k {h : Hp} {a : Nat} (F : St10 h a) : kd h a = 11 := F.1
theorem St10_r2 {h : Hp} {a : Nat} (F : St10 h a) : gr h a 2 = some (a + 1) := F.2.1
theorem St10_k2 {h : Hp} {a : Nat} (F : St10 h a) : kd h (a + 1) = 21 := F.2.2.1
theorem St10_l2 {h : Hp} {a : Nat} (F : St10 h a) : ln h (a + 1) = 64 := F.2.2.2.1
theorem St10_r3 {h : Hp} {a : Nat} (F : St10 h a) : gr h a 3 = some (a + 2) := F.2.2.2.2.1
theorem St10_k3 {h : Hp} {a : Nat} (F : St10 h a) : kd h (a + 2) = 20 := F.2.2.2.2.2.1
theorem St10_l3 {h : Hp} {a : Nat} (F : St10 h a) : ln h (a + 2) = 80 := F.2.2.2.2.2.2.1
theorem St10_r7 {h : Hp} {a : Nat} (F : St10 h a) : gr h a 7 = some (a + 3) := F.2.2.2.2.2.2.2.1
theorem St10_k7 {h : Hp} {a : Nat} (F : St10 h a) : kd h (a + 3) = 20 := F.2.2.2.2.2.2.2.2.1
theorem St10_l7 {h : Hp} {a : Nat} (F : St10 h a) : ln h (a + 3) = 732 := F.2.2.2.2.2.2.2.2.2.1
theorem St10_r8 {h : Hp} {a : Nat} (F : St10 h a) : gr h a 8 = some (a + 4) := F.2.2.2.2.2.2.2.2.2.2.1
theorem St10_k8 {h : Hp} {a : Nat} (F : St10 h a) : kd h (a + 4) = 21 := F.2.2.2.2.2.2.2.2.2.2.2.1
theorem St10_l8 {h : Hp} {a : Nat} (F : St10 h a) : ln h (a + 4) = 1464 := F.2.2.2.2.2.2.2.2.2.2.2.2.1
theorem St10_r10 {h : Hp} {a : Nat} (F : St10 h a) : gr h a 10 = some (a + 5) := F.2.2.2.2.2.2.2.2.2.2.2.2.2.1
theorem St10_k10 {h : Hp} {a : Nat} (F : St10 h a) : kd h (a + 5) = 20 := F.2.2.2.2.2.2.2.2.2.2.2.2.2.2.1
theorem St10_l10 {h : Hp} {a : Nat} (F : St10 h a) : ln h (a + 5) = 18 := F.2.2.2.2.2.2.2.2.2.2.2.2.2.2.2.1
theorem St10_r11 {h : Hp} {a : Nat} (F : St10 h a) : gr h a 11 = some (a + 6) := F.2.2.2.2.2.2.2.2.2.2.2.2.2.2.2.2.1
theorem St10_k11 {h : Hp} {a : Nat} (F : St10 h a) : kd h (a + 6) = 20 := F.2.2.2.2.2.2.2.2.2.2.2.2.2.2.2.2.2.1
theorem St10_l11 {h : Hp} {a : Nat} (F : St10 h a) : ln h (a + 6) = 12 := F.2.2.2.2.2.2.2.2.2.2.2.2.2.2.2.2.2.2.1
theorem St10_r17 {h : Hp} {a : Nat} (F : St10 h a) : gr h a 17 = some (a + 7) := F.2.2.2.2.2.2.2.2.2.2.2.2.2.2.2.2.2.2.2.1
theorem St10_k17 {h : Hp} {a : Nat} (F : St10 h a) : kd h (a + 7) = 20 := F.2.2.2.2.2.2.2.2.2.2.2.2.2.2.2.2.2.2.2.2.1
theorem St10_l17 {h : Hp} {a : Nat} (F : St10 h a) : ln h (a + 7) = 4 := F.2.2.2.2.2.2.2.2.2.2.2.2.2.2.2.2.2.2.2.2.2.1
theorem St10_r19 {h : Hp} {a : Nat} (F : St10 h a) : gr h a 19 = some (a + 8) := F.2.2.2.2.2.2.2.2.2.2.2.2.2.2.2.2.2.2.2.2.2.2.1
theorem St10_k19 {h : Hp} {a : Nat} (F : St10 h a) : kd h (a + 8) = 20 := F.2.2.2.2.2.2.2.2.2.2.2.2.2.2.2.2.2.2.2.2.2.2.2.1
theorem St10_l19 {h : Hp} {a : Nat} (F : St10 h a) : ln h (a + 8) = 4 := F.2.2.2.2.2.2.2.2.2.2.2.2.2.2.2.2.2.2.2.2.2.2.2.2.1
theorem St10_r27 {h : Hp} {a : Nat} (F : St10 h a) : gr h a 27 = some (a + 9) := F.2.2.2.2.2.2.2.2.2.2.2.2.2.2.2.2.2.2.2.2.2.2.2.2.2.1
theorem St10_k27 {h : Hp} {a : Nat} (F : St10 h a) : kd h (a + 9) = 21 := F.2.2.2.2.2.2.2.2.2.2.2.2.2.2.2.2.2.2.2.2.2.2.2.2.2.2.1
theorem St10_l27 {h : Hp} {a : Nat} (F : St10 h a) : ln h (a + 9) = 12100 := F.2.2.2.2.2.2.2.2.2.2.2.2.2.2.2.2.2.2.2.2.2.2.2.2.2.2.2.1
theorem St10_r35 {h : Hp} {a : Nat} (F : St10 h a) : gr h a 35 = some (a + 10) := F.2.2.2.2.2.2.2.2.2.2.2.2.2.2.2.2.2.2.2.2.2.2.2.2.2.2.2.2.1
theorem St10_k35 {h : Hp} {a : Nat} (F : St10 h a) : kd h (a + 10) = 21 := F.2.2.2.2.2.2.2.2.2.2.2.2.2.2.2.2.2.2.2.2.2.2.2.2.2.2.2.2.2.1
theorem St10_l35 {h : Hp} {a : Nat} (F : St10 h a) : ln h (a + 10) = 120 := F.2.2.2.2.2.2.2.2.2.2.2.2.2.2.2.2.2.2.2.2.2.2.2.2.2.2.2.2.2.2.1
theorem St10_r36 {h : Hp} {a : Nat} (F : St10 h a) : gr h a 36 = some (a + 11) := F.2.2.2.2.2.2.2.2.2.2.2.2.2.2.2.2.2.2.2.2.2.2.2.2.2.2.2.2.2.2.2.1
theorem St10_k36 {h : Hp} {a : Nat} (F : St10 h a) : kd h (a + 11) = 21 := F.2.2.2.2.2.2.2.2.2.2.2.2.2.2.2.2.2.2.2.2.2.2.2.2.2.2.2.2.2.2.2.2.1
theorem St10_l36 {h : Hp} {a : Nat} (F : St10 h a) : ln h (a + 11) = 60 := F.2.2.2.2.2.2.2.2.2.2.2.2.2.2.2.2.2.2.2.2.2.2.2.2.2.2.2.2.2.2.2.2.2.1
theorem St10_r37 {h : Hp} {a : Nat} (F : St10 h a) : gr h a 37 = some (a + 12) := F.2.2.2.2.2.2.2.2.2.2.2.2.2.2.2.2.2.2.2.2.2.2.2.2.2.2.2.2.2.2.2.2.2.2.1
theorem St10_k37 {h : Hp} {a : Nat} (F : St10 h a) : kd h (a + 12) = 20 := F.2.2.2.2.2.2.2.2.2.2.2.2.2.2.2.2.2.2.2.2.2.2.2.2.2.2.2.2.2.2.2.2.2.2.2.1
theorem St10_l37 {h : Hp} {a : Nat} (F : St10 h a) : ln h (a + 12) = 80 := F.2.2.2.2.2.2.2.2.2.2.2.2.2.2.2.2.2.2.2.2.2.2.2.2.2.2.2.2.2.2.2.2.2.2.2.2.1
theorem St10_r38 {h : Hp} {a : Nat} (F : St10 h a) : gr h a 38 = some (a + 13) := F.2.2.2.2.2.2.2.2.2.2.2.2.2.2.2.2.2.2.2.2.2.2.2.2.2.2.2.2.2.2.2.2.2.2.2.2.2.1
theorem St10_k38 {h : Hp} {a : Nat} (F : St10 h a) : kd h (a + 13) = 20 := F.2.2.2.2.2.2.2.2.2.2.2.2.2.2.2.2.2.2.2.2.2.2.2.2.2.2.2.2.2.2.2.2.2.2.2.2.2.2.1
theorem St10_l38 {h : Hp} {a : Nat} (F : St10 h a) : ln h (a + 13) = 80 := F.2.2.2.2.2.2.2.2.2.2.2.2.2.2.2.2.2.2.2.2.2.2.2.2.2.2.2.2.2.2.2.2.2.2.2.2.2.2.2.1
theorem St10_r39 {h : Hp} {a : Nat} (F : St10 h a) : gr h a 39 = some (a + 14) := F.2.2.2.2.2.2.2.2.2.2.2.2.2.2.2.2.2.2.2.2.2.2.2.2.2.2.2.2.2.2.2.2.2.2.2.2.2.2.2.2.1
theorem St10_k39 {h : Hp} {a : Nat} (F : St10 h a) : kd h (a + 14) = 20 := F.2.2.2.2.2.2.2.2.2.2.2.2.2.2.2.2.2.2.2.2.2.2.2.2.2.2.2.2.2.2.2.2.2.2.2.2.2.2.2.2.2.1
theorem St10_l39 {h : Hp} {a : Nat} (F : St10 h a) : ln h (a + 14) = 80 := F.2.2.2.2.2.2.2.2.2.2.2.2.2.2.2.2.2.2.2.2.2.2.2.2.2.2.2.2.2.2.2.2.2.2.2.2.2.2.2.2.2.2.1
theorem St10_r40 {h : Hp} {a : Nat} (F : St10 h a) : gr h a 40 = some (a + 15) := F.2.2.2.2.2.2.2.2.2.2.2.2.2.2.2.2.2.2.2.2.2.2.2.2.2.2.2.2.2.2.2.2.2.2.2.2.2.2.2.2.2.2.2.1
theorem St10_k40 {h : Hp} {a : Nat} (F : St10 h a) : kd h (a + 15) = 20 := F.2.2.2.2.2.2.2.2.2.2.2.2.2.2.2.2.2.2.2.2.2.2.2.2.2.2.2.2.2.2.2.2.2.2.2.2.2.2.2.2.2.2.2.2.1
theorem St10_l40 {h : Hp} {a : Nat} (F : St10 h a) : ln h (a + 15) = 80 := F.2.2.2.2.2.2.2.2.2.2.2.2.2.2.2.2.2.2.2.2.2.2.2.2.2.2.2.2.2.2.2.2.2.2.2.2.2.2.2.2.2.2.2.2.2.1
theorem St10_r42 {h : Hp} {a : Nat} (F : St10 h a) : gr h a 42 = some (a + 16) := F.2.2.2.2.2.2.2.2.2.2.2.2.2.2.2.2.2.2.2.2.2.2.2.2.2.2.2.2.2.2.2.2.2.2.2.2.2.2.2.2.2.2.2.2.2.2.1
theorem St10_k42 {h : Hp} {a : Nat} (F : St10 h a) : kd h (a + 16) = 23 := F.2.2.2.2.2.2.2.2.2.2.2.2.2.2.2.2.2.2.2.2.2.2.2.2.2.2.2.2.2.2.2.2.2.2.2.2.2.2.2.2.2.2.2.2.2.2.2.1
theorem St10_l42 {h : Hp} {a : Nat} (F : St10 h a) : ln h (a + 16) = 2 := F.2.2.2.2.2.2.2.2.2.2.2.2.2.2.2.2.2.2.2.2.2.2.2.2.2.2.2.2.2.2.2.2.2.2.2.2.2.2.2.2.2.2.2.2.2.2.2.2
theorem St10_same {h h' : Hp} {a : Nat} (F : St10 h a) (e1 : kd h' = kd h) (e2 : ln h' = ln h) (e3 : gr h' = gr h) : St10 h' a := by
  unfold St10 at *
  simp only [e1, e2, e3]
  exact F
end
section
-- readers and small writers (by program: gen_parts.py)
theorem dX2_init_0 : decode cX2_init 0 = .ok (.aload_n 0, 1) := by decide +kernel
theorem dX2_init_1 : decode cX2_init 1 = .ok (.invokespecial 1, 3) := by decide +kernel
theorem dX2_init_4 : decode cX2_init 4 = .ok (.aload_n 0, 1) := by decide +kernel
theorem dX2_init_5 : decode cX2_init 5 = .ok (.lconst 0, 1) := by decide +kernel
theorem dX2_init_6 : decode cX2_init 6 = .ok (.putfield 7, 3) := by decide +kernel
theorem dX2_init_9 : decode cX2_init 9 = .ok (.aload_n 0, 1) := by decide +kernel
theorem dX2_init_10 : decode cX2_init 10 = .ok (.lconst 1, 1) := by decide +kernel
theorem dX2_init_11 : decode cX2_init 11 = .ok (.putfield 13, 3) := by decide +kernel
theorem dX2_init_14 : decode cX2_init 14 = .ok (.return_, 1) := by decide +kernel
set_option maxRecDepth 20000 in
set_option maxHeartbeats 2000000 in
theorem V_X2_init_0 {X : Ctx} (C : C_X2_init X) {k n : Nat} {Q : Pq} {h : Hp} {v0 : Nat}
    (hv : kd h v0 = 3 ∧ Q none (sl (sl h v0 0 0) v0 1 1)) :
    Wj X k n Q 0 [(0, .ref v0)] [] h := by
  refine w_aload_n (pc := 0) C dX2_init_0 rfl ?_
  refine w_objInit (pc := 1) C oi_X2_1 ow_1 ow_2 dX2_init_1 (by decide) (Nat.le_of_ble_eq_true rfl) ?_
  refine w_aload_n (pc := 4) C dX2_init_4 rfl ?_
  refine w_lconst (pc := 5) C (v := 0) dX2_init_5 (by decide) ?_
  obtain ⟨f1, hv⟩ := hv
  refine w_putL (pc := 6) C fl_X2_7 rfl rfl dX2_init_6 f1 ?_
  refine w_aload_n (pc := 9) C dX2_init_9 rfl ?_
  refine w_lconst (pc := 10) C (v := 1) dX2_init_10 (by decide) ?_
  refine w_putL (pc := 11) C fl_X2_13 rfl rfl dX2_init_11 f1 ?_
  exact w_vret (pc := 14) C dX2_init_14 hv
theorem dX2_put_0 : decode cX2_put 0 = .ok (.lload_n 3, 1) := by decide +kernel
theorem dX2_put_1 : decode cX2_put 1 = .ok (.lconst 0, 1) := by decide +kernel
theorem dX2_put_2 : decode cX2_put 2 = .ok (.lcmp, 1) := by decide +kernel
theorem dX2_put_3 : decode cX2_put 3 = .ok (.ifCond .gt 14, 3) := by decide +kernel
theorem dX2_put_6 : decode cX2_put 6 = .ok (.aload_n 0, 1) := by decide +kernel
theorem dX2_put_7 : decode cX2_put 7 = .ok (.lconst 0, 1) := by decide +kernel
theorem dX2_put_8 : decode cX2_put 8 = .ok (.putfield 7, 3) := by decide +kernel
theorem dX2_put_11 : decode cX2_put 11 = .ok (.aload_n 0, 1) := by decide +kernel
theorem dX2_put_12 : decode cX2_put 12 = .ok (.lconst 1, 1) := by decide +kernel
theorem dX2_put_13 : decode cX2_put 13 = .ok (.putfield 13, 3) := by decide +kernel
theorem dX2_put_16 : decode cX2_put 16 = .ok (.return_, 1) := by decide +kernel
theorem dX2_put_17 : decode cX2_put 17 = .ok (.lload_n 1, 1) := by decide +kernel
theorem dX2_put_18 : decode cX2_put 18 = .ok (.lload_n 3, 1) := by decide +kernel
theorem dX2_put_19 : decode cX2_put 19 = .ok (.invokestatic 16, 3) := by decide +kernel
theorem dX2_put_22 : decode cX2_put 22 = .ok (.lstore 5, 2) := by decide +kernel
theorem dX2_put_24 : decode cX2_put 24 = .ok (.aload_n 0, 1) := by decide +kernel
theorem dX2_put_25 : decode cX2_put 25 = .ok (.lload_n 1, 1) := by decide +kernel
theorem dX2_put_26 : decode cX2_put 26 = .ok (.lload 5, 2) := by decide +kernel
theorem dX2_put_28 : decode cX2_put 28 = .ok (.ldiv, 1) := by decide +kernel
theorem dX2_put_29 : decode cX2_put 29 = .ok (.putfield 7, 3) := by decide +kernel
theorem dX2_put_32 : decode cX2_put 32 = .ok (.aload_n 0, 1) := by decide +kernel
theorem dX2_put_33 : decode cX2_put 33 = .ok (.lload_n 3, 1) := by decide +kernel
theorem dX2_put_34 : decode cX2_put 34 = .ok (.lload 5, 2) := by decide +kernel
theorem dX2_put_36 : decode cX2_put 36 = .ok (.ldiv, 1) := by decide +kernel
theorem dX2_put_37 : decode cX2_put 37 = .ok (.putfield 13, 3) := by decide +kernel
theorem dX2_put_40 : decode cX2_put 40 = .ok (.return_, 1) := by decide +kernel
set_option maxRecDepth 20000 in
set_option maxHeartbeats 2000000 in
theorem V_X2_put_0 {X : Ctx} (C : C_X2_put X) {k n : Nat} {Q : Pq} {h : Hp} {v0 : Nat} {v1 v3 : Int64}
    (hv : ((0 < v3 → -9223372036854775807 ≤ (v1).toInt ∧ 0 < (v3).toInt ∧ ¬ (cm v1 v3) = 0 ∧ kd h v0 = 3 ∧ Q none (sl (sl h v0 0 (v1 / (cm v1 v3))) v0 1 (v3 / (cm v1 v3)))) ∧
    (¬ 0 < v3 → kd h v0 = 3 ∧ Q none (sl (sl h v0 0 0) v0 1 1)))) :
    Wj X k n Q 0 [(0, .ref v0), (1, .long v1), (3, .long v3)] [] h := by
  refine w_lload_n (pc := 0) C dX2_put_0 rfl ?_
  refine w_lconst (pc := 1) C (v := 0) dX2_put_1 (by decide) ?_
  refine w_lcmp_gt (pc := 2) C (tgt := 17) dX2_put_2 dX2_put_3 (by decide) ?_
  obtain ⟨hv1, hv2⟩ := hv
  refine ⟨fun c6 => ?_, fun c6 => ?_⟩
  · have hv := hv1 c6
    refine w_lload_n (pc := 17) C dX2_put_17 rfl ?_
    refine w_lload_n (pc := 18) C dX2_put_18 rfl ?_
    obtain ⟨f1, hv⟩ := hv
    obtain ⟨f2, hv⟩ := hv
    refine w_cSN0_2 (pc := 19) C cl_X2_16 ls_X9_common (by decide) dX2_put_19 (Nat.le_of_ble_eq_true rfl) ((sf_X9_common f1 f2).mono (fun v h9 hp => ?_))
    obtain ⟨rfl, rfl⟩ := hp
    refine w_lstore (pc := 22) C dX2_put_22 (by decide) ?_
    refine w_aload_n (pc := 24) C dX2_put_24 rfl ?_
    refine w_lload_n (pc := 25) C dX2_put_25 rfl ?_
    refine w_lload (pc := 26) C dX2_put_26 rfl ?_
    obtain ⟨f3, hv⟩ := hv
    refine w_ldiv (pc := 28) C dX2_put_28 f3 ?_
    obtain ⟨f4, hv⟩ := hv
    refine w_putL (pc := 29) C fl_X2_7 rfl rfl dX2_put_29 f4 ?_
    refine w_aload_n (pc := 32) C dX2_put_32 rfl ?_
    refine w_lload_n (pc := 33) C dX2_put_33 rfl ?_
    refine w_lload (pc := 34) C dX2_put_34 rfl ?_
    refine w_ldiv (pc := 36) C dX2_put_36 f3 ?_
    refine w_putL (pc := 37) C fl_X2_13 rfl rfl dX2_put_37 f4 ?_
    exact w_vret (pc := 40) C dX2_put_40 hv
  · have hv := hv2 c6
    refine w_aload_n (pc := 6) C dX2_put_6 rfl ?_
    refine w_lconst (pc := 7) C (v := 0) dX2_put_7 (by decide) ?_
    obtain ⟨f5, hv⟩ := hv
    refine w_putL (pc := 8) C fl_X2_7 rfl rfl dX2_put_8 f5 ?_
    refine w_aload_n (pc := 11) C dX2_put_11 rfl ?_
    refine w_lconst (pc := 12) C (v := 1) dX2_put_12 (by decide) ?_
    refine w_putL (pc := 13) C fl_X2_13 rfl rfl dX2_put_13 f5 ?_
    exact w_vret (pc := 16) C dX2_put_16 hv
theorem dX2_copyFrom_0 : decode cX2_copyFrom 0 = .ok (.aload_n 0, 1) := by decide +kernel
theorem dX2_copyFrom_1 : decode cX2_copyFrom 1 = .ok (.aload_n 1, 1) := by decide +kernel
theorem dX2_copyFrom_2 : decode cX2_copyFrom 2 = .ok (.getfield 7, 3) := by decide +kernel
theorem dX2_copyFrom_5 : decode cX2_copyFrom 5 = .ok (.putfield 7, 3) := by decide +kernel
theorem dX2_copyFrom_8 : decode cX2_copyFrom 8 = .ok (.aload_n 0, 1) := by decide +kernel
theorem dX2_copyFrom_9 : decode cX2_copyFrom 9 = .ok (.aload_n 1, 1) := by decide +kernel
theorem dX2_copyFrom_10 : decode cX2_copyFrom 10 = .ok (.getfield 13, 3) := by decide +kernel
theorem dX2_copyFrom_13 : decode cX2_copyFrom 13 = .ok (.putfield 13, 3) := by decide +kernel
theorem dX2_copyFrom_16 : decode cX2_copyFrom 16 = .ok (.return_, 1) := by decide +kernel
set_option maxRecDepth 20000 in
set_option maxHeartbeats 2000000 in
theorem V_X2_copyFrom_0 {X : Ctx} (C : C_X2_copyFrom X) {k n : Nat} {Q : Pq} {h : Hp} {v0 v1 : Nat}
    (hv : kd h v1 = 3 ∧ kd h v0 = 3 ∧ Q none (sl (sl h v0 0 (gl h v1 0)) v0 1 (gl (sl h v0 0 (gl h v1 0)) v1 1))) :
    Wj X k n Q 0 [(0, .ref v0), (1, .ref v1)] [] h := by
  refine w_aload_n (pc := 0) C dX2_copyFrom_0 rfl ?_
  refine w_aload_n (pc := 1) C dX2_copyFrom_1 rfl ?_
  obtain ⟨f1, hv⟩ := hv
  refine w_getL (pc := 2) C fl_X2_7 rfl dX2_copyFrom_2 f1 ?_
  obtain ⟨f2, hv⟩ := hv
  refine w_putL (pc := 5) C fl_X2_7 rfl rfl dX2_copyFrom_5 f2 ?_
  refine w_aload_n (pc := 8) C dX2_copyFrom_8 rfl ?_
  refine w_aload_n (pc := 9) C dX2_copyFrom_9 rfl ?_
  refine w_getL (pc := 10) C fl_X2_13 rfl dX2_copyFrom_10 f1 ?_
  refine w_putL (pc := 13) C fl_X2_13 rfl rfl dX2_copyFrom_13 f2 ?_
  exact w_vret (pc := 16) C dX2_copyFrom_16 hv
theorem dX7_init_0 : decode cX7_init 0 = .ok (.aload_n 0, 1) := by decide +kernel
theorem dX7_init_1 : decode cX7_init 1 = .ok (.invokespecial 3, 3) := by decide +kernel
theorem dX7_init_4 : decode cX7_init 4 = .ok (.aload_n 0, 1) := by decide +kernel
theorem dX7_init_5 : decode cX7_init 5 = .ok (.bipush 80, 2) := by decide +kernel
theorem dX7_init_7 : decode cX7_init 7 = .ok (.newarray .char, 2) := by decide +kernel
theorem dX7_init_9 : decode cX7_init 9 = .ok (.putfield 9, 3) := by decide +kernel
theorem dX7_init_12 : decode cX7_init 12 = .ok (.aload_n 0, 1) := by decide +kernel
theorem dX7_init_13 : decode cX7_init 13 = .ok (.iconst 0, 1) := by decide +kernel
theorem dX7_init_14 : decode cX7_init 14 = .ok (.putfield 15, 3) := by decide +kernel
theorem dX7_init_17 : decode cX7_init 17 = .ok (.return_, 1) := by decide +kernel
set_option maxRecDepth 20000 in
set_option maxHeartbeats 2000000 in
theorem V_X7_init_0 {X : Ctx} (C : C_X7_init X) {k n : Nat} {Q : Pq} {h : Hp} {v0 : Nat}
    (hv : k + 1 ≤ mcX X ∧ n + 80 ≤ msX X ∧ kd (nw h 22 80) v0 = 8 ∧ Q none (si (sr (nw h 22 80) v0 0 (some (hn h))) v0 1 0)) :
    Wj X k n Q 0 [(0, .ref v0)] [] h := by
  refine w_aload_n (pc := 0) C dX7_init_0 rfl ?_
  refine w_objInit (pc := 1) C oi_X7_3 ow_1 ow_2 dX7_init_1 (by decide) (Nat.le_of_ble_eq_true rfl) ?_
  refine w_aload_n (pc := 4) C dX7_init_4 rfl ?_
  refine w_bipush (pc := 5) C (v := 80) dX7_init_5 (by decide) ?_
  obtain ⟨f1, hv⟩ := hv
  obtain ⟨f2, hv⟩ := hv
  refine w_newa (pc := 7) (atype := .char) 2 (N := 80) C ac_char rfl rfl (by decide) dX7_init_7 (by decide) (by decide) (Nat.le_of_ble_eq_true rfl) f1 f2 ?_
  obtain ⟨f3, hv⟩ := hv
  refine w_putRF (pc := 9) C fl_X7_9 rfl rfl rfl dX7_init_9 f3 ?_
  refine w_aload_n (pc := 12) C dX7_init_12 rfl ?_
  refine w_iconst (pc := 13) C (v := 0) dX7_init_13 (by decide) ?_
  refine w_putI (pc := 14) C fl_X7_15 rfl rfl dX7_init_14 f3 ?_
  exact w_vret (pc := 17) C dX7_init_17 hv
theorem dX7_at_0 : decode cX7_at 0 = .ok (.iload_n 1, 1) := by decide +kernel
theorem dX7_at_1 : decode cX7_at 1 = .ok (.ifCond .lt 29, 3) := by decide +kernel
theorem dX7_at_4 : decode cX7_at 4 = .ok (.iload_n 1, 1) := by decide +kernel
theorem dX7_at_5 : decode cX7_at 5 = .ok (.aload_n 0, 1) := by decide +kernel
theorem dX7_at_6 : decode cX7_at 6 = .ok (.getfield 15, 3) := by decide +kernel
theorem dX7_at_9 : decode cX7_at 9 = .ok (.if_icmp .ge 21, 3) := by decide +kernel
theorem dX7_at_12 : decode cX7_at 12 = .ok (.iload_n 1, 1) := by decide +kernel
theorem dX7_at_13 : decode cX7_at 13 = .ok (.aload_n 0, 1) := by decide +kernel
theorem dX7_at_14 : decode cX7_at 14 = .ok (.getfield 9, 3) := by decide +kernel
theorem dX7_at_17 : decode cX7_at 17 = .ok (.arraylength, 1) := by decide +kernel
theorem dX7_at_18 : decode cX7_at 18 = .ok (.if_icmp .ge 12, 3) := by decide +kernel
theorem dX7_at_21 : decode cX7_at 21 = .ok (.aload_n 0, 1) := by decide +kernel
theorem dX7_at_22 : decode cX7_at 22 = .ok (.getfield 9, 3) := by decide +kernel
theorem dX7_at_25 : decode cX7_at 25 = .ok (.iload_n 1, 1) := by decide +kernel
theorem dX7_at_26 : decode cX7_at 26 = .ok (.caload, 1) := by decide +kernel
theorem dX7_at_27 : decode cX7_at 27 = .ok (.goto 4, 3) := by decide +kernel
theorem dX7_at_30 : decode cX7_at 30 = .ok (.iconst (-1), 1) := by decide +kernel
theorem dX7_at_31 : decode cX7_at 31 = .ok (.ireturn, 1) := by decide +kernel
set_option maxRecDepth 20000 in
set_option maxHeartbeats 2000000 in
theorem V_X7_at_0 {X : Ctx} (C : C_X7_at X) {k n : Nat} {Q : Pq} {h : Hp} {v0 : Nat} {v1 : Int32}
    (hv : ((v1 < 0 → Q (some (.int (-1))) h) ∧
    (¬ v1 < 0 → St7 h v0 ∧ (((gi h v0 1) ≤ v1 → Q (some (.int (-1))) h) ∧
    (¬ (gi h v0 1) ≤ v1 → (((Int32.ofNat 80) ≤ v1 → Q (some (.int (-1))) h) ∧
    (¬ (Int32.ofNat 80) ≤ v1 → inb v1 80 ∧ Q (some (.int (gi h (v0 + 1) (ix v1)))) h))))))) :
    Wj X k n Q 0 [(0, .ref v0), (1, .int v1)] [] h := by
  refine w_iload_n (pc := 0) C dX7_at_0 rfl ?_
  refine w_if_lt (pc := 1) C (tgt := 30) dX7_at_1 (by decide) ?_
  obtain ⟨hv1, hv2⟩ := hv
  refine ⟨fun c5 => ?_, fun c5 => ?_⟩
  · have hv := hv1 c5
    refine w_iconst (pc := 30) C (v := (-1)) dX7_at_30 (by decide) ?_
    exact w_iret (pc := 31) C dX7_at_31 hv
  · have hv := hv2 c5
    refine w_iload_n (pc := 4) C dX7_at_4 rfl ?_
    refine w_aload_n (pc := 5) C dX7_at_5 rfl ?_
    obtain ⟨f1, hv⟩ := hv
    refine w_getI (pc := 6) C fl_X7_15 rfl dX7_at_6 (St7_k f1) ?_
    refine w_icmp_ge (pc := 9) C (tgt := 30) dX7_at_9 (by decide) ?_
    obtain ⟨hv1, hv2⟩ := hv
    refine ⟨fun c4 => ?_, fun c4 => ?_⟩
    · have hv := hv1 c4
      refine w_iconst (pc := 30) C (v := (-1)) dX7_at_30 (by decide) ?_
      exact w_iret (pc := 31) C dX7_at_31 hv
    · have hv := hv2 c4
      refine w_iload_n (pc := 12) C dX7_at_12 rfl ?_
      refine w_aload_n (pc := 13) C dX7_at_13 rfl ?_
      refine w_getR (pc := 14) C fl_X7_9 rfl dX7_at_14 (St7_k f1) (St7_r0 f1) ?_
      refine w_alen (pc := 17) 2 (by decide) C dX7_at_17 (St7_k0 f1) ?_
      rw [(St7_l0 f1)]
      refine w_icmp_ge (pc := 18) C (tgt := 30) dX7_at_18 (by decide) ?_
      obtain ⟨hv1, hv2⟩ := hv
      refine ⟨fun c3 => ?_, fun c3 => ?_⟩
      · have hv := hv1 c3
        refine w_iconst (pc := 30) C (v := (-1)) dX7_at_30 (by decide) ?_
        exact w_iret (pc := 31) C dX7_at_31 hv
      · have hv := hv2 c3
        refine w_aload_n (pc := 21) C dX7_at_21 rfl ?_
        refine w_getR (pc := 22) C fl_X7_9 rfl dX7_at_22 (St7_k f1) (St7_r0 f1) ?_
        refine w_iload_n (pc := 25) C dX7_at_25 rfl ?_
        obtain ⟨f2, hv⟩ := hv
        refine w_cald (pc := 26) C dX7_at_26 (St7_k0 f1) (inbl (St7_l0 f1) f2) ?_
        refine w_goto (pc := 27) C (tgt := 31) dX7_at_27 (by decide) ?_
        exact w_iret (pc := 31) C dX7_at_31 hv
theorem dX7_isDigit_0 : decode cX7_isDigit 0 = .ok (.aload_n 0, 1) := by decide +kernel
theorem dX7_isDigit_1 : decode cX7_isDigit 1 = .ok (.iload_n 1, 1) := by decide +kernel
theorem dX7_isDigit_2 : decode cX7_isDigit 2 = .ok (.invokevirtual 19, 3) := by decide +kernel
theorem dX7_isDigit_5 : decode cX7_isDigit 5 = .ok (.bipush 48, 2) := by decide +kernel
theorem dX7_isDigit_7 : decode cX7_isDigit 7 = .ok (.if_icmp .lt 17, 3) := by decide +kernel
theorem dX7_isDigit_10 : decode cX7_isDigit 10 = .ok (.aload_n 0, 1) := by decide +kernel
theorem dX7_isDigit_11 : decode cX7_isDigit 11 = .ok (.iload_n 1, 1) := by decide +kernel
theorem dX7_isDigit_12 : decode cX7_isDigit 12 = .ok (.invokevirtual 19, 3) := by decide +kernel
theorem dX7_isDigit_15 : decode cX7_isDigit 15 = .ok (.bipush 57, 2) := by decide +kernel
theorem dX7_isDigit_17 : decode cX7_isDigit 17 = .ok (.if_icmp .gt 7, 3) := by decide +kernel
theorem dX7_isDigit_20 : decode cX7_isDigit 20 = .ok (.iconst 1, 1) := by decide +kernel
theorem dX7_isDigit_21 : decode cX7_isDigit 21 = .ok (.goto 4, 3) := by decide +kernel
theorem dX7_isDigit_24 : decode cX7_isDigit 24 = .ok (.iconst 0, 1) := by decide +kernel
theorem dX7_isDigit_25 : decode cX7_isDigit 25 = .ok (.ireturn, 1) := by decide +kernel
set_option maxRecDepth 20000 in
set_option maxHeartbeats 2000000 in
theorem V_X7_isDigit_0 {X : Ctx} (C : C_X7_isDigit X) {k n : Nat} {Q : Pq} {h : Hp} {v0 : Nat} {v1 : Int32}
    (hv : St7 h v0 ∧ S_X7_at (lX X) (dtX X) 0 0 [.ref v0, .int v1] h (QI fun x3 h2 =>
    ((x3 < 48 → Q (some (.int 0)) h2) ∧
    (¬ x3 < 48 → St7 h2 v0 ∧ S_X7_at (lX X) (dtX X) 0 0 [.ref v0, .int v1] h2 (QI fun x6 h5 =>
    ((57 < x6 → Q (some (.int 0)) h5) ∧
    (¬ 57 < x6 → Q (some (.int 1)) h5))))))) :
    Wj X k n Q 0 [(0, .ref v0), (1, .int v1)] [] h := by
  refine w_aload_n (pc := 0) C dX7_isDigit_0 rfl ?_
  refine w_iload_n (pc := 1) C dX7_isDigit_1 rfl ?_
  obtain ⟨f1, hv⟩ := hv
  refine w_cV0_1 (pc := 2) C cl_X7_19 lv_X7_at (by decide) dX7_isDigit_2 (Nat.le_of_ble_eq_true rfl) (c := 7) rfl (St7_k f1) (hv.mono (fun v h2 hp => ?_))
  obtain ⟨x3, rfl, hv⟩ := hp
  refine w_bipush (pc := 5) C (v := 48) dX7_isDigit_5 (by decide) ?_
  refine w_icmp_lt (pc := 7) C (tgt := 24) dX7_isDigit_7 (by decide) ?_
  obtain ⟨hv1, hv2⟩ := hv
  refine ⟨fun c8 => ?_, fun c8 => ?_⟩
  · have hv := hv1 c8
    refine w_iconst (pc := 24) C (v := 0) dX7_isDigit_24 (by decide) ?_
    exact w_zret (pc := 25) C dX7_isDigit_25 (by decide) hv
  · have hv := hv2 c8
    refine w_aload_n (pc := 10) C dX7_isDigit_10 rfl ?_
    refine w_iload_n (pc := 11) C dX7_isDigit_11 rfl ?_
    obtain ⟨f4, hv⟩ := hv
    refine w_cV0_1 (pc := 12) C cl_X7_19 lv_X7_at (by decide) dX7_isDigit_12 (Nat.le_of_ble_eq_true rfl) (c := 7) rfl (St7_k f4) (hv.mono (fun v h5 hp => ?_))
    obtain ⟨x6, rfl, hv⟩ := hp
    refine w_bipush (pc := 15) C (v := 57) dX7_isDigit_15 (by decide) ?_
    refine w_icmp_gt (pc := 17) C (tgt := 24) dX7_isDigit_17 (by decide) ?_
    obtain ⟨hv1, hv2⟩ := hv
    refine ⟨fun c7 => ?_, fun c7 => ?_⟩
    · have hv := hv1 c7
      refine w_iconst (pc := 24) C (v := 0) dX7_isDigit_24 (by decide) ?_
      exact w_zret (pc := 25) C dX7_isDigit_25 (by decide) hv
    · have hv := hv2 c7
      refine w_iconst (pc := 20) C (v := 1) dX7_isDigit_20 (by decide) ?_
      refine w_goto (pc := 21) C (tgt := 25) dX7_isDigit_21 (by decide) ?_
      exact w_zret (pc := 25) C dX7_isDigit_25 (by decide) hv
theorem dX8_init_0 : decode cX8_init 0 = .ok (.aload_n 0, 1) := by decide +kernel
theorem dX8_init_1 : decode cX8_init 1 = .ok (.invokespecial 3, 3) := by decide +kernel
theorem dX8_init_4 : decode cX8_init 4 = .ok (.aload_n 0, 1) := by decide +kernel
theorem dX8_init_5 : decode cX8_init 5 = .ok (.bipush 60, 2) := by decide +kernel
theorem dX8_init_7 : decode cX8_init 7 = .ok (.newarray .long, 2) := by decide +kernel
theorem dX8_init_9 : decode cX8_init 9 = .ok (.putfield 9, 3) := by decide +kernel
theorem dX8_init_12 : decode cX8_init 12 = .ok (.aload_n 0, 1) := by decide +kernel
theorem dX8_init_13 : decode cX8_init 13 = .ok (.iconst 0, 1) := by decide +kernel
theorem dX8_init_14 : decode cX8_init 14 = .ok (.putfield 15, 3) := by decide +kernel
theorem dX8_init_17 : decode cX8_init 17 = .ok (.return_, 1) := by decide +kernel
set_option maxRecDepth 20000 in
set_option maxHeartbeats 2000000 in
theorem V_X8_init_0 {X : Ctx} (C : C_X8_init X) {k n : Nat} {Q : Pq} {h : Hp} {v0 : Nat}
    (hv : k + 1 ≤ mcX X ∧ n + 60 ≤ msX X ∧ kd (nw h 21 60) v0 = 9 ∧ Q none (si (sr (nw h 21 60) v0 0 (some (hn h))) v0 1 0)) :
    Wj X k n Q 0 [(0, .ref v0)] [] h := by
  refine w_aload_n (pc := 0) C dX8_init_0 rfl ?_
  refine w_objInit (pc := 1) C oi_X8_3 ow_1 ow_2 dX8_init_1 (by decide) (Nat.le_of_ble_eq_true rfl) ?_
  refine w_aload_n (pc := 4) C dX8_init_4 rfl ?_
  refine w_bipush (pc := 5) C (v := 60) dX8_init_5 (by decide) ?_
  obtain ⟨f1, hv⟩ := hv
  obtain ⟨f2, hv⟩ := hv
  refine w_newa (pc := 7) (atype := .long) 1 (N := 60) C ac_long rfl rfl (by decide) dX8_init_7 (by decide) (by decide) (Nat.le_of_ble_eq_true rfl) f1 f2 ?_
  obtain ⟨f3, hv⟩ := hv
  refine w_putRF (pc := 9) C fl_X8_9 rfl rfl rfl dX8_init_9 f3 ?_
  refine w_aload_n (pc := 12) C dX8_init_12 rfl ?_
  refine w_iconst (pc := 13) C (v := 0) dX8_init_13 (by decide) ?_
  refine w_putI (pc := 14) C fl_X8_15 rfl rfl dX8_init_14 f3 ?_
  exact w_vret (pc := 17) C dX8_init_17 hv
theorem dX8_clear_0 : decode cX8_clear 0 = .ok (.aload_n 0, 1) := by decide +kernel
theorem dX8_clear_1 : decode cX8_clear 1 = .ok (.iconst 0, 1) := by decide +kernel
theorem dX8_clear_2 : decode cX8_clear 2 = .ok (.putfield 15, 3) := by decide +kernel
theorem dX8_clear_5 : decode cX8_clear 5 = .ok (.return_, 1) := by decide +kernel
set_option maxRecDepth 20000 in
set_option maxHeartbeats 2000000 in
theorem V_X8_clear_0 {X : Ctx} (C : C_X8_clear X) {k n : Nat} {Q : Pq} {h : Hp} {v0 : Nat}
    (hv : St8 h v0 ∧ Q none (si h v0 1 0)) :
    Wj X k n Q 0 [(0, .ref v0)] [] h := by
  refine w_aload_n (pc := 0) C dX8_clear_0 rfl ?_
  refine w_iconst (pc := 1) C (v := 0) dX8_clear_1 (by decide) ?_
  obtain ⟨f1, hv⟩ := hv
  refine w_putI (pc := 2) C fl_X8_15 rfl rfl dX8_clear_2 (St8_k f1) ?_
  exact w_vret (pc := 5) C dX8_clear_5 hv
theorem dX8_add_0 : decode cX8_add 0 = .ok (.aload_n 0, 1) := by decide +kernel
theorem dX8_add_1 : decode cX8_add 1 = .ok (.getfield 15, 3) := by decide +kernel
theorem dX8_add_4 : decode cX8_add 4 = .ok (.ifCond .lt 35, 3) := by decide +kernel
theorem dX8_add_7 : decode cX8_add 7 = .ok (.aload_n 0, 1) := by decide +kernel
theorem dX8_add_8 : decode cX8_add 8 = .ok (.getfield 15, 3) := by decide +kernel
theorem dX8_add_11 : decode cX8_add 11 = .ok (.aload_n 0, 1) := by decide +kernel
theorem dX8_add_12 : decode cX8_add 12 = .ok (.getfield 9, 3) := by decide +kernel
theorem dX8_add_15 : decode cX8_add 15 = .ok (.arraylength, 1) := by decide +kernel
theorem dX8_add_16 : decode cX8_add 16 = .ok (.if_icmp .ge 23, 3) := by decide +kernel
theorem dX8_add_19 : decode cX8_add 19 = .ok (.aload_n 0, 1) := by decide +kernel
theorem dX8_add_20 : decode cX8_add 20 = .ok (.getfield 9, 3) := by decide +kernel
theorem dX8_add_23 : decode cX8_add 23 = .ok (.aload_n 0, 1) := by decide +kernel
theorem dX8_add_24 : decode cX8_add 24 = .ok (.getfield 15, 3) := by decide +kernel
theorem dX8_add_27 : decode cX8_add 27 = .ok (.lload_n 1, 1) := by decide +kernel
theorem dX8_add_28 : decode cX8_add 28 = .ok (.lastore, 1) := by decide +kernel
theorem dX8_add_29 : decode cX8_add 29 = .ok (.aload_n 0, 1) := by decide +kernel
theorem dX8_add_30 : decode cX8_add 30 = .ok (.dup, 1) := by decide +kernel
theorem dX8_add_31 : decode cX8_add 31 = .ok (.getfield 15, 3) := by decide +kernel
theorem dX8_add_34 : decode cX8_add 34 = .ok (.iconst 1, 1) := by decide +kernel
theorem dX8_add_35 : decode cX8_add 35 = .ok (.iadd, 1) := by decide +kernel
theorem dX8_add_36 : decode cX8_add 36 = .ok (.putfield 15, 3) := by decide +kernel
theorem dX8_add_39 : decode cX8_add 39 = .ok (.return_, 1) := by decide +kernel
set_option maxRecDepth 20000 in
set_option maxHeartbeats 2000000 in
theorem V_X8_add_0 {X : Ctx} (C : C_X8_add X) {k n : Nat} {Q : Pq} {h : Hp} {v0 : Nat} {v1 : Int64}
    (hv : St8 h v0 ∧ (((gi h v0 1) < 0 → Q none h) ∧
    (¬ (gi h v0 1) < 0 → (((Int32.ofNat 60) ≤ (gi h v0 1) → Q none h) ∧
    (¬ (Int32.ofNat 60) ≤ (gi h v0 1) → inb (gi h v0 1) 60 ∧ Q none (si (sl h (v0 + 1) (ix (gi h v0 1)) v1) v0 1 ((gi h v0 1) + 1))))))) :
    Wj X k n Q 0 [(0, .ref v0), (1, .long v1)] [] h := by
  refine w_aload_n (pc := 0) C dX8_add_0 rfl ?_
  obtain ⟨f1, hv⟩ := hv
  refine w_getI (pc := 1) C fl_X8_15 rfl dX8_add_1 (St8_k f1) ?_
  refine w_if_lt (pc := 4) C (tgt := 39) dX8_add_4 (by decide) ?_
  obtain ⟨hv1, hv2⟩ := hv
  refine ⟨fun c4 => ?_, fun c4 => ?_⟩
  · have hv := hv1 c4
    exact w_vret (pc := 39) C dX8_add_39 hv
  · have hv := hv2 c4
    refine w_aload_n (pc := 7) C dX8_add_7 rfl ?_
    refine w_getI (pc := 8) C fl_X8_15 rfl dX8_add_8 (St8_k f1) ?_
    refine w_aload_n (pc := 11) C dX8_add_11 rfl ?_
    refine w_getR (pc := 12) C fl_X8_9 rfl dX8_add_12 (St8_k f1) (St8_r0 f1) ?_
    refine w_alen (pc := 15) 1 (by decide) C dX8_add_15 (St8_k0 f1) ?_
    rw [(St8_l0 f1)]
    refine w_icmp_ge (pc := 16) C (tgt := 39) dX8_add_16 (by decide) ?_
    obtain ⟨hv1, hv2⟩ := hv
    refine ⟨fun c3 => ?_, fun c3 => ?_⟩
    · have hv := hv1 c3
      exact w_vret (pc := 39) C dX8_add_39 hv
    · have hv := hv2 c3
      refine w_aload_n (pc := 19) C dX8_add_19 rfl ?_
      refine w_getR (pc := 20) C fl_X8_9 rfl dX8_add_20 (St8_k f1) (St8_r0 f1) ?_
      refine w_aload_n (pc := 23) C dX8_add_23 rfl ?_
      refine w_getI (pc := 24) C fl_X8_15 rfl dX8_add_24 (St8_k f1) ?_
      refine w_lload_n (pc := 27) C dX8_add_27 rfl ?_
      obtain ⟨f2, hv⟩ := hv
      refine w_last (pc := 28) C dX8_add_28 (St8_k0 f1) (inbl (St8_l0 f1) f2) ?_
      refine w_aload_n (pc := 29) C dX8_add_29 rfl ?_
      refine w_dup (pc := 30) C dX8_add_30 rfl ?_
      refine w_getI (pc := 31) C fl_X8_15 rfl dX8_add_31 (St8_k f1) ?_
      refine w_iconst (pc := 34) C (v := 1) dX8_add_34 (by decide) ?_
      refine w_iadd (pc := 35) C dX8_add_35 ?_
      refine w_putI (pc := 36) C fl_X8_15 rfl rfl dX8_add_36 (St8_k f1) ?_
      exact w_vret (pc := 39) C dX8_add_39 hv
theorem dX8_number_0 : decode cX8_number 0 = .ok (.iload_n 1, 1) := by decide +kernel
theorem dX8_number_1 : decode cX8_number 1 = .ok (.ifCond .lt 21, 3) := by decide +kernel
theorem dX8_number_4 : decode cX8_number 4 = .ok (.iload_n 1, 1) := by decide +kernel
theorem dX8_number_5 : decode cX8_number 5 = .ok (.aload_n 0, 1) := by decide +kernel
theorem dX8_number_6 : decode cX8_number 6 = .ok (.getfield 9, 3) := by decide +kernel
theorem dX8_number_9 : decode cX8_number 9 = .ok (.arraylength, 1) := by decide +kernel
theorem dX8_number_10 : decode cX8_number 10 = .ok (.if_icmp .ge 12, 3) := by decide +kernel
theorem dX8_number_13 : decode cX8_number 13 = .ok (.aload_n 0, 1) := by decide +kernel
theorem dX8_number_14 : decode cX8_number 14 = .ok (.getfield 9, 3) := by decide +kernel
theorem dX8_number_17 : decode cX8_number 17 = .ok (.iload_n 1, 1) := by decide +kernel
theorem dX8_number_18 : decode cX8_number 18 = .ok (.laload, 1) := by decide +kernel
theorem dX8_number_19 : decode cX8_number 19 = .ok (.goto 4, 3) := by decide +kernel
theorem dX8_number_22 : decode cX8_number 22 = .ok (.lconst 0, 1) := by decide +kernel
theorem dX8_number_23 : decode cX8_number 23 = .ok (.lreturn, 1) := by decide +kernel
set_option maxRecDepth 20000 in
set_option maxHeartbeats 2000000 in
theorem V_X8_number_0 {X : Ctx} (C : C_X8_number X) {k n : Nat} {Q : Pq} {h : Hp} {v0 : Nat} {v1 : Int32}
    (hv : ((v1 < 0 → Q (some (.long 0)) h) ∧
    (¬ v1 < 0 → St8 h v0 ∧ (((Int32.ofNat 60) ≤ v1 → Q (some (.long 0)) h) ∧
    (¬ (Int32.ofNat 60) ≤ v1 → inb v1 60 ∧ Q (some (.long (gl h (v0 + 1) (ix v1)))) h))))) :
    Wj X k n Q 0 [(0, .ref v0), (1, .int v1)] [] h := by
  refine w_iload_n (pc := 0) C dX8_number_0 rfl ?_
  refine w_if_lt (pc := 1) C (tgt := 22) dX8_number_1 (by decide) ?_
  obtain ⟨hv1, hv2⟩ := hv
  refine ⟨fun c4 => ?_, fun c4 => ?_⟩
  · have hv := hv1 c4
    refine w_lconst (pc := 22) C (v := 0) dX8_number_22 (by decide) ?_
    exact w_lret (pc := 23) C dX8_number_23 hv
  · have hv := hv2 c4
    refine w_iload_n (pc := 4) C dX8_number_4 rfl ?_
    refine w_aload_n (pc := 5) C dX8_number_5 rfl ?_
    obtain ⟨f1, hv⟩ := hv
    refine w_getR (pc := 6) C fl_X8_9 rfl dX8_number_6 (St8_k f1) (St8_r0 f1) ?_
    refine w_alen (pc := 9) 1 (by decide) C dX8_number_9 (St8_k0 f1) ?_
    rw [(St8_l0 f1)]
    refine w_icmp_ge (pc := 10) C (tgt := 22) dX8_number_10 (by decide) ?_
    obtain ⟨hv1, hv2⟩ := hv
    refine ⟨fun c3 => ?_, fun c3 => ?_⟩
    · have hv := hv1 c3
      refine w_lconst (pc := 22) C (v := 0) dX8_number_22 (by decide) ?_
      exact w_lret (pc := 23) C dX8_number_23 hv
    · have hv := hv2 c3
      refine w_aload_n (pc := 13) C dX8_number_13 rfl ?_
      refine w_getR (pc := 14) C fl_X8_9 rfl dX8_number_14 (St8_k f1) (St8_r0 f1) ?_
      refine w_iload_n (pc := 17) C dX8_number_17 rfl ?_
      obtain ⟨f2, hv⟩ := hv
      refine w_lald (pc := 18) C dX8_number_18 (St8_k0 f1) (inbl (St8_l0 f1) f2) ?_
      refine w_goto (pc := 19) C (tgt := 23) dX8_number_19 (by decide) ?_
      exact w_lret (pc := 23) C dX8_number_23 hv
theorem dX4_isCircle_0 : decode cX4_isCircle 0 = .ok (.iload_n 1, 1) := by decide +kernel
theorem dX4_isCircle_1 : decode cX4_isCircle 1 = .ok (.ifCond .lt 15, 3) := by decide +kernel
theorem dX4_isCircle_4 : decode cX4_isCircle 4 = .ok (.iload_n 1, 1) := by decide +kernel
theorem dX4_isCircle_5 : decode cX4_isCircle 5 = .ok (.aload_n 0, 1) := by decide +kernel
theorem dX4_isCircle_6 : decode cX4_isCircle 6 = .ok (.getfield 21, 3) := by decide +kernel
theorem dX4_isCircle_9 : decode cX4_isCircle 9 = .ok (.if_icmp .ge 7, 3) := by decide +kernel
theorem dX4_isCircle_12 : decode cX4_isCircle 12 = .ok (.iconst 1, 1) := by decide +kernel
theorem dX4_isCircle_13 : decode cX4_isCircle 13 = .ok (.goto 4, 3) := by decide +kernel
theorem dX4_isCircle_16 : decode cX4_isCircle 16 = .ok (.iconst 0, 1) := by decide +kernel
theorem dX4_isCircle_17 : decode cX4_isCircle 17 = .ok (.ireturn, 1) := by decide +kernel
set_option maxRecDepth 20000 in
set_option maxHeartbeats 2000000 in
theorem V_X4_isCircle_0 {X : Ctx} (C : C_X4_isCircle X) {k n : Nat} {Q : Pq} {h : Hp} {v0 : Nat} {v1 : Int32}
    (hv : ((v1 < 0 → Q (some (.int 0)) h) ∧
    (¬ v1 < 0 → St4 h v0 ∧ (((gi h v0 3) ≤ v1 → Q (some (.int 0)) h) ∧
    (¬ (gi h v0 3) ≤ v1 → Q (some (.int 1)) h))))) :
    Wj X k n Q 0 [(0, .ref v0), (1, .int v1)] [] h := by
  refine w_iload_n (pc := 0) C dX4_isCircle_0 rfl ?_
  refine w_if_lt (pc := 1) C (tgt := 16) dX4_isCircle_1 (by decide) ?_
  obtain ⟨hv1, hv2⟩ := hv
  refine ⟨fun c3 => ?_, fun c3 => ?_⟩
  · have hv := hv1 c3
    refine w_iconst (pc := 16) C (v := 0) dX4_isCircle_16 (by decide) ?_
    exact w_zret (pc := 17) C dX4_isCircle_17 (by decide) hv
  · have hv := hv2 c3
    refine w_iload_n (pc := 4) C dX4_isCircle_4 rfl ?_
    refine w_aload_n (pc := 5) C dX4_isCircle_5 rfl ?_
    obtain ⟨f1, hv⟩ := hv
    refine w_getI (pc := 6) C fl_X4_21 rfl dX4_isCircle_6 (St4_k f1) ?_
    refine w_icmp_ge (pc := 9) C (tgt := 16) dX4_isCircle_9 (by decide) ?_
    obtain ⟨hv1, hv2⟩ := hv
    refine ⟨fun c2 => ?_, fun c2 => ?_⟩
    · have hv := hv1 c2
      refine w_iconst (pc := 16) C (v := 0) dX4_isCircle_16 (by decide) ?_
      exact w_zret (pc := 17) C dX4_isCircle_17 (by decide) hv
    · have hv := hv2 c2
      refine w_iconst (pc := 12) C (v := 1) dX4_isCircle_12 (by decide) ?_
      refine w_goto (pc := 13) C (tgt := 17) dX4_isCircle_13 (by decide) ?_
      exact w_zret (pc := 17) C dX4_isCircle_17 (by decide) hv
theorem dX4_isGear_0 : decode cX4_isGear 0 = .ok (.iload_n 1, 1) := by decide +kernel
theorem dX4_isGear_1 : decode cX4_isGear 1 = .ok (.ifCond .lt 15, 3) := by decide +kernel
theorem dX4_isGear_4 : decode cX4_isGear 4 = .ok (.iload_n 1, 1) := by decide +kernel
theorem dX4_isGear_5 : decode cX4_isGear 5 = .ok (.aload_n 0, 1) := by decide +kernel
theorem dX4_isGear_6 : decode cX4_isGear 6 = .ok (.getfield 24, 3) := by decide +kernel
theorem dX4_isGear_9 : decode cX4_isGear 9 = .ok (.if_icmp .ge 7, 3) := by decide +kernel
theorem dX4_isGear_12 : decode cX4_isGear 12 = .ok (.iconst 1, 1) := by decide +kernel
theorem dX4_isGear_13 : decode cX4_isGear 13 = .ok (.goto 4, 3) := by decide +kernel
theorem dX4_isGear_16 : decode cX4_isGear 16 = .ok (.iconst 0, 1) := by decide +kernel
theorem dX4_isGear_17 : decode cX4_isGear 17 = .ok (.ireturn, 1) := by decide +kernel
set_option maxRecDepth 20000 in
set_option maxHeartbeats 2000000 in
theorem V_X4_isGear_0 {X : Ctx} (C : C_X4_isGear X) {k n : Nat} {Q : Pq} {h : Hp} {v0 : Nat} {v1 : Int32}
    (hv : ((v1 < 0 → Q (some (.int 0)) h) ∧
    (¬ v1 < 0 → St4 h v0 ∧ (((gi h v0 4) ≤ v1 → Q (some (.int 0)) h) ∧
    (¬ (gi h v0 4) ≤ v1 → Q (some (.int 1)) h))))) :
    Wj X k n Q 0 [(0, .ref v0), (1, .int v1)] [] h := by
  refine w_iload_n (pc := 0) C dX4_isGear_0 rfl ?_
  refine w_if_lt (pc := 1) C (tgt := 16) dX4_isGear_1 (by decide) ?_
  obtain ⟨hv1, hv2⟩ := hv
  refine ⟨fun c3 => ?_, fun c3 => ?_⟩
  · have hv := hv1 c3
    refine w_iconst (pc := 16) C (v := 0) dX4_isGear_16 (by decide) ?_
    exact w_zret (pc := 17) C dX4_isGear_17 (by decide) hv
  · have hv := hv2 c3
    refine w_iload_n (pc := 4) C dX4_isGear_4 rfl ?_
    refine w_aload_n (pc := 5) C dX4_isGear_5 rfl ?_
    obtain ⟨f1, hv⟩ := hv
    refine w_getI (pc := 6) C fl_X4_24 rfl dX4_isGear_6 (St4_k f1) ?_
    refine w_icmp_ge (pc := 9) C (tgt := 16) dX4_isGear_9 (by decide) ?_
    obtain ⟨hv1, hv2⟩ := hv
    refine ⟨fun c2 => ?_, fun c2 => ?_⟩
    · have hv := hv1 c2
      refine w_iconst (pc := 16) C (v := 0) dX4_isGear_16 (by decide) ?_
      exact w_zret (pc := 17) C dX4_isGear_17 (by decide) hv
    · have hv := hv2 c2
      refine w_iconst (pc := 12) C (v := 1) dX4_isGear_12 (by decide) ?_
      refine w_goto (pc := 13) C (tgt := 17) dX4_isGear_13 (by decide) ?_
      exact w_zret (pc := 17) C dX4_isGear_17 (by decide) hv
theorem dX4_isMark_0 : decode cX4_isMark 0 = .ok (.iload_n 1, 1) := by decide +kernel
theorem dX4_isMark_1 : decode cX4_isMark 1 = .ok (.ifCond .lt 15, 3) := by decide +kernel
theorem dX4_isMark_4 : decode cX4_isMark 4 = .ok (.iload_n 1, 1) := by decide +kernel
theorem dX4_isMark_5 : decode cX4_isMark 5 = .ok (.aload_n 0, 1) := by decide +kernel
theorem dX4_isMark_6 : decode cX4_isMark 6 = .ok (.getfield 33, 3) := by decide +kernel
theorem dX4_isMark_9 : decode cX4_isMark 9 = .ok (.if_icmp .ge 7, 3) := by decide +kernel
theorem dX4_isMark_12 : decode cX4_isMark 12 = .ok (.iconst 1, 1) := by decide +kernel
theorem dX4_isMark_13 : decode cX4_isMark 13 = .ok (.goto 4, 3) := by decide +kernel
theorem dX4_isMark_16 : decode cX4_isMark 16 = .ok (.iconst 0, 1) := by decide +kernel
theorem dX4_isMark_17 : decode cX4_isMark 17 = .ok (.ireturn, 1) := by decide +kernel
set_option maxRecDepth 20000 in
set_option maxHeartbeats 2000000 in
theorem V_X4_isMark_0 {X : Ctx} (C : C_X4_isMark X) {k n : Nat} {Q : Pq} {h : Hp} {v0 : Nat} {v1 : Int32}
    (hv : ((v1 < 0 → Q (some (.int 0)) h) ∧
    (¬ v1 < 0 → St4 h v0 ∧ (((gi h v0 7) ≤ v1 → Q (some (.int 0)) h) ∧
    (¬ (gi h v0 7) ≤ v1 → Q (some (.int 1)) h))))) :
    Wj X k n Q 0 [(0, .ref v0), (1, .int v1)] [] h := by
  refine w_iload_n (pc := 0) C dX4_isMark_0 rfl ?_
  refine w_if_lt (pc := 1) C (tgt := 16) dX4_isMark_1 (by decide) ?_
  obtain ⟨hv1, hv2⟩ := hv
  refine ⟨fun c3 => ?_, fun c3 => ?_⟩
  · have hv := hv1 c3
    refine w_iconst (pc := 16) C (v := 0) dX4_isMark_16 (by decide) ?_
    exact w_zret (pc := 17) C dX4_isMark_17 (by decide) hv
  · have hv := hv2 c3
    refine w_iload_n (pc := 4) C dX4_isMark_4 rfl ?_
    refine w_aload_n (pc := 5) C dX4_isMark_5 rfl ?_
    obtain ⟨f1, hv⟩ := hv
    refine w_getI (pc := 6) C fl_X4_33 rfl dX4_isMark_6 (St4_k f1) ?_
    refine w_icmp_ge (pc := 9) C (tgt := 16) dX4_isMark_9 (by decide) ?_
    obtain ⟨hv1, hv2⟩ := hv
    refine ⟨fun c2 => ?_, fun c2 => ?_⟩
    · have hv := hv1 c2
      refine w_iconst (pc := 16) C (v := 0) dX4_isMark_16 (by decide) ?_
      exact w_zret (pc := 17) C dX4_isMark_17 (by decide) hv
    · have hv := hv2 c2
      refine w_iconst (pc := 12) C (v := 1) dX4_isMark_12 (by decide) ?_
      refine w_goto (pc := 13) C (tgt := 17) dX4_isMark_13 (by decide) ?_
      exact w_zret (pc := 17) C dX4_isMark_17 (by decide) hv
theorem dX5_tooth_0 : decode cX5_tooth 0 = .ok (.iload_n 1, 1) := by decide +kernel
theorem dX5_tooth_1 : decode cX5_tooth 1 = .ok (.ifCond .lt 18, 3) := by decide +kernel
theorem dX5_tooth_4 : decode cX5_tooth 4 = .ok (.iload_n 1, 1) := by decide +kernel
theorem dX5_tooth_5 : decode cX5_tooth 5 = .ok (.bipush 12, 2) := by decide +kernel
theorem dX5_tooth_7 : decode cX5_tooth 7 = .ok (.if_icmp .ge 12, 3) := by decide +kernel
theorem dX5_tooth_10 : decode cX5_tooth 10 = .ok (.aload_n 0, 1) := by decide +kernel
theorem dX5_tooth_11 : decode cX5_tooth 11 = .ok (.getfield 18, 3) := by decide +kernel
theorem dX5_tooth_14 : decode cX5_tooth 14 = .ok (.iload_n 1, 1) := by decide +kernel
theorem dX5_tooth_15 : decode cX5_tooth 15 = .ok (.iaload, 1) := by decide +kernel
theorem dX5_tooth_16 : decode cX5_tooth 16 = .ok (.goto 4, 3) := by decide +kernel
theorem dX5_tooth_19 : decode cX5_tooth 19 = .ok (.iconst 0, 1) := by decide +kernel
theorem dX5_tooth_20 : decode cX5_tooth 20 = .ok (.ireturn, 1) := by decide +kernel
set_option maxRecDepth 20000 in
set_option maxHeartbeats 2000000 in
theorem V_X5_tooth_0 {X : Ctx} (C : C_X5_tooth X) {k n : Nat} {Q : Pq} {h : Hp} {v0 : Nat} {v1 : Int32}
    (hv : ((v1 < 0 → Q (some (.int 0)) h) ∧
    (¬ v1 < 0 → ((12 ≤ v1 → Q (some (.int 0)) h) ∧
    (¬ 12 ≤ v1 → St5 h v0 ∧ inb v1 12 ∧ Q (some (.int (gi h (v0 + 1) (ix v1)))) h))))) :
    Wj X k n Q 0 [(0, .ref v0), (1, .int v1)] [] h := by
  refine w_iload_n (pc := 0) C dX5_tooth_0 rfl ?_
  refine w_if_lt (pc := 1) C (tgt := 19) dX5_tooth_1 (by decide) ?_
  obtain ⟨hv1, hv2⟩ := hv
  refine ⟨fun c4 => ?_, fun c4 => ?_⟩
  · have hv := hv1 c4
    refine w_iconst (pc := 19) C (v := 0) dX5_tooth_19 (by decide) ?_
    exact w_iret (pc := 20) C dX5_tooth_20 hv
  · have hv := hv2 c4
    refine w_iload_n (pc := 4) C dX5_tooth_4 rfl ?_
    refine w_bipush (pc := 5) C (v := 12) dX5_tooth_5 (by decide) ?_
    refine w_icmp_ge (pc := 7) C (tgt := 19) dX5_tooth_7 (by decide) ?_
    obtain ⟨hv1, hv2⟩ := hv
    refine ⟨fun c3 => ?_, fun c3 => ?_⟩
    · have hv := hv1 c3
      refine w_iconst (pc := 19) C (v := 0) dX5_tooth_19 (by decide) ?_
      exact w_iret (pc := 20) C dX5_tooth_20 hv
    · have hv := hv2 c3
      refine w_aload_n (pc := 10) C dX5_tooth_10 rfl ?_
      obtain ⟨f1, hv⟩ := hv
      refine w_getR (pc := 11) C fl_X5_18 rfl dX5_tooth_11 (St5_k f1) (St5_r2 f1) ?_
      refine w_iload_n (pc := 14) C dX5_tooth_14 rfl ?_
      obtain ⟨f2, hv⟩ := hv
      refine w_iald (pc := 15) C dX5_tooth_15 (St5_k2 f1) (inbl (St5_l2 f1) f2) ?_
      refine w_goto (pc := 16) C (tgt := 20) dX5_tooth_16 (by decide) ?_
      exact w_iret (pc := 20) C dX5_tooth_20 hv
theorem dX5_pack_0 : decode cX5_pack 0 = .ok (.iload_n 0, 1) := by decide +kernel
theorem dX5_pack_1 : decode cX5_pack 1 = .ok (.iload_n 1, 1) := by decide +kernel
theorem dX5_pack_2 : decode cX5_pack 2 = .ok (.iconst 4, 1) := by decide +kernel
theorem dX5_pack_3 : decode cX5_pack 3 = .ok (.ishl, 1) := by decide +kernel
theorem dX5_pack_4 : decode cX5_pack 4 = .ok (.ior, 1) := by decide +kernel
theorem dX5_pack_5 : decode cX5_pack 5 = .ok (.iload_n 2, 1) := by decide +kernel
theorem dX5_pack_6 : decode cX5_pack 6 = .ok (.bipush 8, 2) := by decide +kernel
theorem dX5_pack_8 : decode cX5_pack 8 = .ok (.ishl, 1) := by decide +kernel
theorem dX5_pack_9 : decode cX5_pack 9 = .ok (.ior, 1) := by decide +kernel
theorem dX5_pack_10 : decode cX5_pack 10 = .ok (.iload_n 3, 1) := by decide +kernel
theorem dX5_pack_11 : decode cX5_pack 11 = .ok (.bipush 12, 2) := by decide +kernel
theorem dX5_pack_13 : decode cX5_pack 13 = .ok (.ishl, 1) := by decide +kernel
theorem dX5_pack_14 : decode cX5_pack 14 = .ok (.ior, 1) := by decide +kernel
theorem dX5_pack_15 : decode cX5_pack 15 = .ok (.ireturn, 1) := by decide +kernel
set_option maxRecDepth 20000 in
set_option maxHeartbeats 2000000 in
theorem V_X5_pack_0 {X : Ctx} (C : C_X5_pack X) {k n : Nat} {Q : Pq} {h : Hp} {v0 v1 v2 v3 : Int32}
    (hv : Q (some (.int (((v0 ||| (v1 <<< (4 &&& 31))) ||| (v2 <<< (8 &&& 31))) ||| (v3 <<< (12 &&& 31))))) h) :
    Wj X k n Q 0 [(0, .int v0), (1, .int v1), (2, .int v2), (3, .int v3)] [] h := by
  refine w_iload_n (pc := 0) C dX5_pack_0 rfl ?_
  refine w_iload_n (pc := 1) C dX5_pack_1 rfl ?_
  refine w_iconst (pc := 2) C (v := 4) dX5_pack_2 (by decide) ?_
  refine w_ishl (pc := 3) C dX5_pack_3 ?_
  refine w_ior (pc := 4) C dX5_pack_4 ?_
  refine w_iload_n (pc := 5) C dX5_pack_5 rfl ?_
  refine w_bipush (pc := 6) C (v := 8) dX5_pack_6 (by decide) ?_
  refine w_ishl (pc := 8) C dX5_pack_8 ?_
  refine w_ior (pc := 9) C dX5_pack_9 ?_
  refine w_iload_n (pc := 10) C dX5_pack_10 rfl ?_
  refine w_bipush (pc := 11) C (v := 12) dX5_pack_11 (by decide) ?_
  refine w_ishl (pc := 13) C dX5_pack_13 ?_
  refine w_ior (pc := 14) C dX5_pack_14 ?_
  exact w_iret (pc := 15) C dX5_pack_15 hv
theorem dX5_up_0 : decode cX5_up 0 = .ok (.iload_n 1, 1) := by decide +kernel
theorem dX5_up_1 : decode cX5_up 1 = .ok (.ifCond .lt 19, 3) := by decide +kernel
theorem dX5_up_4 : decode cX5_up 4 = .ok (.iload_n 1, 1) := by decide +kernel
theorem dX5_up_5 : decode cX5_up 5 = .ok (.sipush 3102, 3) := by decide +kernel
theorem dX5_up_8 : decode cX5_up 8 = .ok (.if_icmp .ge 12, 3) := by decide +kernel
theorem dX5_up_11 : decode cX5_up 11 = .ok (.aload_n 0, 1) := by decide +kernel
theorem dX5_up_12 : decode cX5_up 12 = .ok (.getfield 22, 3) := by decide +kernel
theorem dX5_up_15 : decode cX5_up 15 = .ok (.iload_n 1, 1) := by decide +kernel
theorem dX5_up_16 : decode cX5_up 16 = .ok (.iaload, 1) := by decide +kernel
theorem dX5_up_17 : decode cX5_up 17 = .ok (.goto 4, 3) := by decide +kernel
theorem dX5_up_20 : decode cX5_up 20 = .ok (.iconst 0, 1) := by decide +kernel
theorem dX5_up_21 : decode cX5_up 21 = .ok (.ireturn, 1) := by decide +kernel
set_option maxRecDepth 20000 in
set_option maxHeartbeats 2000000 in
theorem V_X5_up_0 {X : Ctx} (C : C_X5_up X) {k n : Nat} {Q : Pq} {h : Hp} {v0 : Nat} {v1 : Int32}
    (hv : ((v1 < 0 → Q (some (.int 0)) h) ∧
    (¬ v1 < 0 → ((3102 ≤ v1 → Q (some (.int 0)) h) ∧
    (¬ 3102 ≤ v1 → St5 h v0 ∧ inb v1 3102 ∧ Q (some (.int (gi h (v0 + 2) (ix v1)))) h))))) :
    Wj X k n Q 0 [(0, .ref v0), (1, .int v1)] [] h := by
  refine w_iload_n (pc := 0) C dX5_up_0 rfl ?_
  refine w_if_lt (pc := 1) C (tgt := 20) dX5_up_1 (by decide) ?_
  obtain ⟨hv1, hv2⟩ := hv
  refine ⟨fun c4 => ?_, fun c4 => ?_⟩
  · have hv := hv1 c4
    refine w_iconst (pc := 20) C (v := 0) dX5_up_20 (by decide) ?_
    exact w_iret (pc := 21) C dX5_up_21 hv
  · have hv := hv2 c4
    refine w_iload_n (pc := 4) C dX5_up_4 rfl ?_
    refine w_sipush (pc := 5) C (v := 3102) dX5_up_5 (by decide) ?_
    refine w_icmp_ge (pc := 8) C (tgt := 20) dX5_up_8 (by decide) ?_
    obtain ⟨hv1, hv2⟩ := hv
    refine ⟨fun c3 => ?_, fun c3 => ?_⟩
    · have hv := hv1 c3
      refine w_iconst (pc := 20) C (v := 0) dX5_up_20 (by decide) ?_
      exact w_iret (pc := 21) C dX5_up_21 hv
    · have hv := hv2 c3
      refine w_aload_n (pc := 11) C dX5_up_11 rfl ?_
      obtain ⟨f1, hv⟩ := hv
      refine w_getR (pc := 12) C fl_X5_22 rfl dX5_up_12 (St5_k f1) (St5_r3 f1) ?_
      refine w_iload_n (pc := 15) C dX5_up_15 rfl ?_
      obtain ⟨f2, hv⟩ := hv
      refine w_iald (pc := 16) C dX5_up_16 (St5_k3 f1) (inbl (St5_l3 f1) f2) ?_
      refine w_goto (pc := 17) C (tgt := 21) dX5_up_17 (by decide) ?_
      exact w_iret (pc := 21) C dX5_up_21 hv
theorem dX5_low_0 : decode cX5_low 0 = .ok (.iload_n 1, 1) := by decide +kernel
theorem dX5_low_1 : decode cX5_low 1 = .ok (.ifCond .lt 19, 3) := by decide +kernel
theorem dX5_low_4 : decode cX5_low 4 = .ok (.iload_n 1, 1) := by decide +kernel
theorem dX5_low_5 : decode cX5_low 5 = .ok (.sipush 3102, 3) := by decide +kernel
theorem dX5_low_8 : decode cX5_low 8 = .ok (.if_icmp .ge 12, 3) := by decide +kernel
theorem dX5_low_11 : decode cX5_low 11 = .ok (.aload_n 0, 1) := by decide +kernel
theorem dX5_low_12 : decode cX5_low 12 = .ok (.getfield 25, 3) := by decide +kernel
theorem dX5_low_15 : decode cX5_low 15 = .ok (.iload_n 1, 1) := by decide +kernel
theorem dX5_low_16 : decode cX5_low 16 = .ok (.iaload, 1) := by decide +kernel
theorem dX5_low_17 : decode cX5_low 17 = .ok (.goto 4, 3) := by decide +kernel
theorem dX5_low_20 : decode cX5_low 20 = .ok (.iconst 1, 1) := by decide +kernel
theorem dX5_low_21 : decode cX5_low 21 = .ok (.ireturn, 1) := by decide +kernel
set_option maxRecDepth 20000 in
set_option maxHeartbeats 2000000 in
theorem V_X5_low_0 {X : Ctx} (C : C_X5_low X) {k n : Nat} {Q : Pq} {h : Hp} {v0 : Nat} {v1 : Int32}
    (hv : ((v1 < 0 → Q (some (.int 1)) h) ∧
    (¬ v1 < 0 → ((3102 ≤ v1 → Q (some (.int 1)) h) ∧
    (¬ 3102 ≤ v1 → St5 h v0 ∧ inb v1 3102 ∧ Q (some (.int (gi h (v0 + 3) (ix v1)))) h))))) :
    Wj X k n Q 0 [(0, .ref v0), (1, .int v1)] [] h := by
  refine w_iload_n (pc := 0) C dX5_low_0 rfl ?_
  refine w_if_lt (pc := 1) C (tgt := 20) dX5_low_1 (by decide) ?_
  obtain ⟨hv1, hv2⟩ := hv
  refine ⟨fun c4 => ?_, fun c4 => ?_⟩
  · have hv := hv1 c4
    refine w_iconst (pc := 20) C (v := 1) dX5_low_20 (by decide) ?_
    exact w_iret (pc := 21) C dX5_low_21 hv
  · have hv := hv2 c4
    refine w_iload_n (pc := 4) C dX5_low_4 rfl ?_
    refine w_sipush (pc := 5) C (v := 3102) dX5_low_5 (by decide) ?_
    refine w_icmp_ge (pc := 8) C (tgt := 20) dX5_low_8 (by decide) ?_
    obtain ⟨hv1, hv2⟩ := hv
    refine ⟨fun c3 => ?_, fun c3 => ?_⟩
    · have hv := hv1 c3
      refine w_iconst (pc := 20) C (v := 1) dX5_low_20 (by decide) ?_
      exact w_iret (pc := 21) C dX5_low_21 hv
    · have hv := hv2 c3
      refine w_aload_n (pc := 11) C dX5_low_11 rfl ?_
      obtain ⟨f1, hv⟩ := hv
      refine w_getR (pc := 12) C fl_X5_25 rfl dX5_low_12 (St5_k f1) (St5_r4 f1) ?_
      refine w_iload_n (pc := 15) C dX5_low_15 rfl ?_
      obtain ⟨f2, hv⟩ := hv
      refine w_iald (pc := 16) C dX5_low_16 (St5_k4 f1) (inbl (St5_l4 f1) f2) ?_
      refine w_goto (pc := 17) C (tgt := 21) dX5_low_17 (by decide) ?_
      exact w_iret (pc := 21) C dX5_low_21 hv
theorem dX10_enters_0 : decode cX10_enters 0 = .ok (.aload_n 0, 1) := by decide +kernel
theorem dX10_enters_1 : decode cX10_enters 1 = .ok (.getfield 7, 3) := by decide +kernel
theorem dX10_enters_4 : decode cX10_enters 4 = .ok (.aload_n 0, 1) := by decide +kernel
theorem dX10_enters_5 : decode cX10_enters 5 = .ok (.getfield 11, 3) := by decide +kernel
theorem dX10_enters_8 : decode cX10_enters 8 = .ok (.lload_n 1, 1) := by decide +kernel
theorem dX10_enters_9 : decode cX10_enters 9 = .ok (.lastore, 1) := by decide +kernel
theorem dX10_enters_10 : decode cX10_enters 10 = .ok (.aload_n 0, 1) := by decide +kernel
theorem dX10_enters_11 : decode cX10_enters 11 = .ok (.dup, 1) := by decide +kernel
theorem dX10_enters_12 : decode cX10_enters 12 = .ok (.getfield 11, 3) := by decide +kernel
theorem dX10_enters_15 : decode cX10_enters 15 = .ok (.iconst 1, 1) := by decide +kernel
theorem dX10_enters_16 : decode cX10_enters 16 = .ok (.iadd, 1) := by decide +kernel
theorem dX10_enters_17 : decode cX10_enters 17 = .ok (.putfield 11, 3) := by decide +kernel
theorem dX10_enters_20 : decode cX10_enters 20 = .ok (.return_, 1) := by decide +kernel
set_option maxRecDepth 20000 in
set_option maxHeartbeats 2000000 in
theorem V_X10_enters_0 {X : Ctx} (C : C_X10_enters X) {k n : Nat} {Q : Pq} {h : Hp} {v0 : Nat} {v1 : Int64}
    (hv : St10 h v0 ∧ inb (gi h v0 1) 64 ∧ Q none (si (sl h (v0 + 1) (ix (gi h v0 1)) v1) v0 1 ((gi h v0 1) + 1))) :
    Wj X k n Q 0 [(0, .ref v0), (1, .long v1)] [] h := by
  refine w_aload_n (pc := 0) C dX10_enters_0 rfl ?_
  obtain ⟨f1, hv⟩ := hv
  refine w_getR (pc := 1) C fl_X10_7 rfl dX10_enters_1 (St10_k f1) (St10_r2 f1) ?_
  refine w_aload_n (pc := 4) C dX10_enters_4 rfl ?_
  refine w_getI (pc := 5) C fl_X10_11 rfl dX10_enters_5 (St10_k f1) ?_
  refine w_lload_n (pc := 8) C dX10_enters_8 rfl ?_
  obtain ⟨f2, hv⟩ := hv
  refine w_last (pc := 9) C dX10_enters_9 (St10_k2 f1) (inbl (St10_l2 f1) f2) ?_
  refine w_aload_n (pc := 10) C dX10_enters_10 rfl ?_
  refine w_dup (pc := 11) C dX10_enters_11 rfl ?_
  refine w_getI (pc := 12) C fl_X10_11 rfl dX10_enters_12 (St10_k f1) ?_
  refine w_iconst (pc := 15) C (v := 1) dX10_enters_15 (by decide) ?_
  refine w_iadd (pc := 16) C dX10_enters_16 ?_
  refine w_putI (pc := 17) C fl_X10_11 rfl rfl dX10_enters_17 (St10_k f1) ?_
  exact w_vret (pc := 20) C dX10_enters_20 hv
theorem dX10_reads_0 : decode cX10_reads 0 = .ok (.aload_n 0, 1) := by decide +kernel
theorem dX10_reads_1 : decode cX10_reads 1 = .ok (.aload_n 0, 1) := by decide +kernel
theorem dX10_reads_2 : decode cX10_reads 2 = .ok (.getfield 22, 3) := by decide +kernel
theorem dX10_reads_5 : decode cX10_reads 5 = .ok (.putfield 33, 3) := by decide +kernel
theorem dX10_reads_8 : decode cX10_reads 8 = .ok (.aload_n 0, 1) := by decide +kernel
theorem dX10_reads_9 : decode cX10_reads 9 = .ok (.iconst 0, 1) := by decide +kernel
theorem dX10_reads_10 : decode cX10_reads 10 = .ok (.putfield 22, 3) := by decide +kernel
theorem dX10_reads_13 : decode cX10_reads 13 = .ok (.aload_n 0, 1) := by decide +kernel
theorem dX10_reads_14 : decode cX10_reads 14 = .ok (.iconst 0, 1) := by decide +kernel
theorem dX10_reads_15 : decode cX10_reads 15 = .ok (.putfield 36, 3) := by decide +kernel
theorem dX10_reads_18 : decode cX10_reads 18 = .ok (.return_, 1) := by decide +kernel
set_option maxRecDepth 20000 in
set_option maxHeartbeats 2000000 in
theorem V_X10_reads_0 {X : Ctx} (C : C_X10_reads X) {k n : Nat} {Q : Pq} {h : Hp} {v0 : Nat}
    (hv : St10 h v0 ∧ Q none (si (si (si h v0 6 (gi h v0 4)) v0 4 0) v0 5 0)) :
    Wj X k n Q 0 [(0, .ref v0)] [] h := by
  refine w_aload_n (pc := 0) C dX10_reads_0 rfl ?_
  refine w_aload_n (pc := 1) C dX10_reads_1 rfl ?_
  obtain ⟨f1, hv⟩ := hv
  refine w_getI (pc := 2) C fl_X10_22 rfl dX10_reads_2 (St10_k f1) ?_
  refine w_putI (pc := 5) C fl_X10_33 rfl rfl dX10_reads_5 (St10_k f1) ?_
  refine w_aload_n (pc := 8) C dX10_reads_8 rfl ?_
  refine w_iconst (pc := 9) C (v := 0) dX10_reads_9 (by decide) ?_
  refine w_putI (pc := 10) C fl_X10_22 rfl rfl dX10_reads_10 (St10_k f1) ?_
  refine w_aload_n (pc := 13) C dX10_reads_13 rfl ?_
  refine w_iconst (pc := 14) C (v := 0) dX10_reads_14 (by decide) ?_
  refine w_putI (pc := 15) C fl_X10_36 rfl rfl dX10_reads_15 (St10_k f1) ?_
  exact w_vret (pc := 18) C dX10_reads_18 hv
theorem dX10_worm_0 : decode cX10_worm 0 = .ok (.aload_n 0, 1) := by decide +kernel
theorem dX10_worm_1 : decode cX10_worm 1 = .ok (.getfield 68, 3) := by decide +kernel
theorem dX10_worm_4 : decode cX10_worm 4 = .ok (.iconst 0, 1) := by decide +kernel
theorem dX10_worm_5 : decode cX10_worm 5 = .ok (.iaload, 1) := by decide +kernel
theorem dX10_worm_6 : decode cX10_worm 6 = .ok (.ireturn, 1) := by decide +kernel
set_option maxRecDepth 20000 in
set_option maxHeartbeats 2000000 in
theorem V_X10_worm_0 {X : Ctx} (C : C_X10_worm X) {k n : Nat} {Q : Pq} {h : Hp} {v0 : Nat}
    (hv : St10 h v0 ∧ Q (some (.int (gi h (v0 + 3) (ix 0)))) h) :
    Wj X k n Q 0 [(0, .ref v0)] [] h := by
  refine w_aload_n (pc := 0) C dX10_worm_0 rfl ?_
  obtain ⟨f1, hv⟩ := hv
  refine w_getR (pc := 1) C fl_X10_68 rfl dX10_worm_1 (St10_k f1) (St10_r7 f1) ?_
  refine w_iconst (pc := 4) C (v := 0) dX10_worm_4 (by decide) ?_
  refine w_iald (pc := 5) C dX10_worm_5 (St10_k7 f1) (inbl (St10_l7 f1) (inbd (by decide))) ?_
  exact w_iret (pc := 6) C dX10_worm_6 hv
theorem dX10_circles_0 : decode cX10_circles 0 = .ok (.aload_n 0, 1) := by decide +kernel
theorem dX10_circles_1 : decode cX10_circles 1 = .ok (.getfield 68, 3) := by decide +kernel
theorem dX10_circles_4 : decode cX10_circles 4 = .ok (.iconst 3, 1) := by decide +kernel
theorem dX10_circles_5 : decode cX10_circles 5 = .ok (.iaload, 1) := by decide +kernel
theorem dX10_circles_6 : decode cX10_circles 6 = .ok (.ireturn, 1) := by decide +kernel
set_option maxRecDepth 20000 in
set_option maxHeartbeats 2000000 in
theorem V_X10_circles_0 {X : Ctx} (C : C_X10_circles X) {k n : Nat} {Q : Pq} {h : Hp} {v0 : Nat}
    (hv : St10 h v0 ∧ Q (some (.int (gi h (v0 + 3) (ix 3)))) h) :
    Wj X k n Q 0 [(0, .ref v0)] [] h := by
  refine w_aload_n (pc := 0) C dX10_circles_0 rfl ?_
  obtain ⟨f1, hv⟩ := hv
  refine w_getR (pc := 1) C fl_X10_68 rfl dX10_circles_1 (St10_k f1) (St10_r7 f1) ?_
  refine w_iconst (pc := 4) C (v := 3) dX10_circles_4 (by decide) ?_
  refine w_iald (pc := 5) C dX10_circles_5 (St10_k7 f1) (inbl (St10_l7 f1) (inbd (by decide))) ?_
  exact w_iret (pc := 6) C dX10_circles_6 hv
theorem dX10_holes_0 : decode cX10_holes 0 = .ok (.aload_n 0, 1) := by decide +kernel
theorem dX10_holes_1 : decode cX10_holes 1 = .ok (.getfield 68, 3) := by decide +kernel
theorem dX10_holes_4 : decode cX10_holes 4 = .ok (.bipush 23, 2) := by decide +kernel
theorem dX10_holes_6 : decode cX10_holes 6 = .ok (.iload_n 1, 1) := by decide +kernel
theorem dX10_holes_7 : decode cX10_holes 7 = .ok (.iadd, 1) := by decide +kernel
theorem dX10_holes_8 : decode cX10_holes 8 = .ok (.iaload, 1) := by decide +kernel
theorem dX10_holes_9 : decode cX10_holes 9 = .ok (.ireturn, 1) := by decide +kernel
set_option maxRecDepth 20000 in
set_option maxHeartbeats 2000000 in
theorem V_X10_holes_0 {X : Ctx} (C : C_X10_holes X) {k n : Nat} {Q : Pq} {h : Hp} {v0 : Nat} {v1 : Int32}
    (hv : St10 h v0 ∧ inb (23 + v1) 732 ∧ Q (some (.int (gi h (v0 + 3) (ix (23 + v1))))) h) :
    Wj X k n Q 0 [(0, .ref v0), (1, .int v1)] [] h := by
  refine w_aload_n (pc := 0) C dX10_holes_0 rfl ?_
  obtain ⟨f1, hv⟩ := hv
  refine w_getR (pc := 1) C fl_X10_68 rfl dX10_holes_1 (St10_k f1) (St10_r7 f1) ?_
  refine w_bipush (pc := 4) C (v := 23) dX10_holes_4 (by decide) ?_
  refine w_iload_n (pc := 6) C dX10_holes_6 rfl ?_
  refine w_iadd (pc := 7) C dX10_holes_7 ?_
  obtain ⟨f2, hv⟩ := hv
  refine w_iald (pc := 8) C dX10_holes_8 (St10_k7 f1) (inbl (St10_l7 f1) f2) ?_
  exact w_iret (pc := 9) C dX10_holes_9 hv
theorem dX10_gearMany_0 : decode cX10_gearMany 0 = .ok (.aload_n 0, 1) := by decide +kernel
theorem dX10_gearMany_1 : decode cX10_gearMany 1 = .ok (.getfield 68, 3) := by decide +kernel
theorem dX10_gearMany_4 : decode cX10_gearMany 4 = .ok (.iconst 4, 1) := by decide +kernel
theorem dX10_gearMany_5 : decode cX10_gearMany 5 = .ok (.iaload, 1) := by decide +kernel
theorem dX10_gearMany_6 : decode cX10_gearMany 6 = .ok (.ireturn, 1) := by decide +kernel
set_option maxRecDepth 20000 in
set_option maxHeartbeats 2000000 in
theorem V_X10_gearMany_0 {X : Ctx} (C : C_X10_gearMany X) {k n : Nat} {Q : Pq} {h : Hp} {v0 : Nat}
    (hv : St10 h v0 ∧ Q (some (.int (gi h (v0 + 3) (ix 4)))) h) :
    Wj X k n Q 0 [(0, .ref v0)] [] h := by
  refine w_aload_n (pc := 0) C dX10_gearMany_0 rfl ?_
  obtain ⟨f1, hv⟩ := hv
  refine w_getR (pc := 1) C fl_X10_68 rfl dX10_gearMany_1 (St10_k f1) (St10_r7 f1) ?_
  refine w_iconst (pc := 4) C (v := 4) dX10_gearMany_4 (by decide) ?_
  refine w_iald (pc := 5) C dX10_gearMany_5 (St10_k7 f1) (inbl (St10_l7 f1) (inbd (by decide))) ?_
  exact w_iret (pc := 6) C dX10_gearMany_6 hv
theorem dX10_teeth_0 : decode cX10_teeth 0 = .ok (.aload_n 0, 1) := by decide +kernel
theorem dX10_teeth_1 : decode cX10_teeth 1 = .ok (.getfield 68, 3) := by decide +kernel
theorem dX10_teeth_4 : decode cX10_teeth 4 = .ok (.bipush 41, 2) := by decide +kernel
theorem dX10_teeth_6 : decode cX10_teeth 6 = .ok (.iload_n 1, 1) := by decide +kernel
theorem dX10_teeth_7 : decode cX10_teeth 7 = .ok (.iadd, 1) := by decide +kernel
theorem dX10_teeth_8 : decode cX10_teeth 8 = .ok (.iaload, 1) := by decide +kernel
theorem dX10_teeth_9 : decode cX10_teeth 9 = .ok (.ireturn, 1) := by decide +kernel
set_option maxRecDepth 20000 in
set_option maxHeartbeats 2000000 in
theorem V_X10_teeth_0 {X : Ctx} (C : C_X10_teeth X) {k n : Nat} {Q : Pq} {h : Hp} {v0 : Nat} {v1 : Int32}
    (hv : St10 h v0 ∧ inb (41 + v1) 732 ∧ Q (some (.int (gi h (v0 + 3) (ix (41 + v1))))) h) :
    Wj X k n Q 0 [(0, .ref v0), (1, .int v1)] [] h := by
  refine w_aload_n (pc := 0) C dX10_teeth_0 rfl ?_
  obtain ⟨f1, hv⟩ := hv
  refine w_getR (pc := 1) C fl_X10_68 rfl dX10_teeth_1 (St10_k f1) (St10_r7 f1) ?_
  refine w_bipush (pc := 4) C (v := 41) dX10_teeth_4 (by decide) ?_
  refine w_iload_n (pc := 6) C dX10_teeth_6 rfl ?_
  refine w_iadd (pc := 7) C dX10_teeth_7 ?_
  obtain ⟨f2, hv⟩ := hv
  refine w_iald (pc := 8) C dX10_teeth_8 (St10_k7 f1) (inbl (St10_l7 f1) f2) ?_
  exact w_iret (pc := 9) C dX10_teeth_9 hv
theorem dX10_isNumber_0 : decode cX10_isNumber 0 = .ok (.iload_n 0, 1) := by decide +kernel
theorem dX10_isNumber_1 : decode cX10_isNumber 1 = .ok (.i2l, 1) := by decide +kernel
theorem dX10_isNumber_2 : decode cX10_isNumber 2 = .ok (.ldc2_w 175, 3) := by decide +kernel
theorem dX10_isNumber_5 : decode cX10_isNumber 5 = .ok (.ldc2_w 177, 3) := by decide +kernel
theorem dX10_isNumber_8 : decode cX10_isNumber 8 = .ok (.invokestatic 29, 3) := by decide +kernel
theorem dX10_isNumber_11 : decode cX10_isNumber 11 = .ok (.ireturn, 1) := by decide +kernel
set_option maxRecDepth 20000 in
set_option maxHeartbeats 2000000 in
theorem V_X10_isNumber_0 {X : Ctx} (C : C_X10_isNumber X) {k n : Nat} {Q : Pq} {h : Hp} {v0 : Int32}
    (hv : ((btL (Int32.toInt64 v0) 2 400) = 0 ∨ (btL (Int32.toInt64 v0) 2 400) = 1) ∧ Q (some (.int (btL (Int32.toInt64 v0) 2 400))) h) :
    Wj X k n Q 0 [(0, .int v0)] [] h := by
  refine w_iload_n (pc := 0) C dX10_isNumber_0 rfl ?_
  refine w_i2l (pc := 1) C dX10_isNumber_1 ?_
  refine w_ldc2 (pc := 2) C ctl_X10_175 dX10_isNumber_2 ?_
  refine w_ldc2 (pc := 5) C ctl_X10_177 dX10_isNumber_5 ?_
  refine w_cS0_3 (pc := 8) C cl_X10_29 ls_X10_in (by decide) dX10_isNumber_8 (Nat.le_of_ble_eq_true rfl) ((sf_X10_in ).mono (fun v h9 hp => ?_))
  obtain ⟨rfl, rfl⟩ := hp
  obtain ⟨f1, hv⟩ := hv
  exact w_zret (pc := 11) C dX10_isNumber_11 f1 hv
theorem dX10_isRatio_0 : decode cX10_isRatio 0 = .ok (.iload_n 0, 1) := by decide +kernel
theorem dX10_isRatio_1 : decode cX10_isRatio 1 = .ok (.i2l, 1) := by decide +kernel
theorem dX10_isRatio_2 : decode cX10_isRatio 2 = .ok (.lconst 1, 1) := by decide +kernel
theorem dX10_isRatio_3 : decode cX10_isRatio 3 = .ok (.ldc2_w 177, 3) := by decide +kernel
theorem dX10_isRatio_6 : decode cX10_isRatio 6 = .ok (.invokestatic 29, 3) := by decide +kernel
theorem dX10_isRatio_9 : decode cX10_isRatio 9 = .ok (.ifCond .eq 19, 3) := by decide +kernel
theorem dX10_isRatio_12 : decode cX10_isRatio 12 = .ok (.iload_n 1, 1) := by decide +kernel
theorem dX10_isRatio_13 : decode cX10_isRatio 13 = .ok (.i2l, 1) := by decide +kernel
theorem dX10_isRatio_14 : decode cX10_isRatio 14 = .ok (.lconst 1, 1) := by decide +kernel
theorem dX10_isRatio_15 : decode cX10_isRatio 15 = .ok (.ldc2_w 177, 3) := by decide +kernel
theorem dX10_isRatio_18 : decode cX10_isRatio 18 = .ok (.invokestatic 29, 3) := by decide +kernel
theorem dX10_isRatio_21 : decode cX10_isRatio 21 = .ok (.ifCond .eq 7, 3) := by decide +kernel
theorem dX10_isRatio_24 : decode cX10_isRatio 24 = .ok (.iconst 1, 1) := by decide +kernel
theorem dX10_isRatio_25 : decode cX10_isRatio 25 = .ok (.goto 4, 3) := by decide +kernel
theorem dX10_isRatio_28 : decode cX10_isRatio 28 = .ok (.iconst 0, 1) := by decide +kernel
theorem dX10_isRatio_29 : decode cX10_isRatio 29 = .ok (.ireturn, 1) := by decide +kernel
set_option maxRecDepth 20000 in
set_option maxHeartbeats 2000000 in
theorem V_X10_isRatio_0 {X : Ctx} (C : C_X10_isRatio X) {k n : Nat} {Q : Pq} {h : Hp} {v0 v1 : Int32}
    (hv : (((btL (Int32.toInt64 v0) 1 400) = 0 → Q (some (.int 0)) h) ∧
    (¬ (btL (Int32.toInt64 v0) 1 400) = 0 → (((btL (Int32.toInt64 v1) 1 400) = 0 → Q (some (.int 0)) h) ∧
    (¬ (btL (Int32.toInt64 v1) 1 400) = 0 → Q (some (.int 1)) h))))) :
    Wj X k n Q 0 [(0, .int v0), (1, .int v1)] [] h := by
  refine w_iload_n (pc := 0) C dX10_isRatio_0 rfl ?_
  refine w_i2l (pc := 1) C dX10_isRatio_1 ?_
  refine w_lconst (pc := 2) C (v := 1) dX10_isRatio_2 (by decide) ?_
  refine w_ldc2 (pc := 3) C ctl_X10_177 dX10_isRatio_3 ?_
  refine w_cS0_3 (pc := 6) C cl_X10_29 ls_X10_in (by decide) dX10_isRatio_6 (Nat.le_of_ble_eq_true rfl) ((sf_X10_in ).mono (fun v h9 hp => ?_))
  obtain ⟨rfl, rfl⟩ := hp
  refine w_if_eq (pc := 9) C (tgt := 28) dX10_isRatio_9 (by decide) ?_
  obtain ⟨hv1, hv2⟩ := hv
  refine ⟨fun c2 => ?_, fun c2 => ?_⟩
  · have hv := hv1 c2
    refine w_iconst (pc := 28) C (v := 0) dX10_isRatio_28 (by decide) ?_
    exact w_zret (pc := 29) C dX10_isRatio_29 (by decide) hv
  · have hv := hv2 c2
    refine w_iload_n (pc := 12) C dX10_isRatio_12 rfl ?_
    refine w_i2l (pc := 13) C dX10_isRatio_13 ?_
    refine w_lconst (pc := 14) C (v := 1) dX10_isRatio_14 (by decide) ?_
    refine w_ldc2 (pc := 15) C ctl_X10_177 dX10_isRatio_15 ?_
    refine w_cS0_3 (pc := 18) C cl_X10_29 ls_X10_in (by decide) dX10_isRatio_18 (Nat.le_of_ble_eq_true rfl) ((sf_X10_in ).mono (fun v h9 hp => ?_))
    obtain ⟨rfl, rfl⟩ := hp
    refine w_if_eq (pc := 21) C (tgt := 28) dX10_isRatio_21 (by decide) ?_
    obtain ⟨hv1, hv2⟩ := hv
    refine ⟨fun c1 => ?_, fun c1 => ?_⟩
    · have hv := hv1 c1
      refine w_iconst (pc := 28) C (v := 0) dX10_isRatio_28 (by decide) ?_
      exact w_zret (pc := 29) C dX10_isRatio_29 (by decide) hv
    · have hv := hv2 c1
      refine w_iconst (pc := 24) C (v := 1) dX10_isRatio_24 (by decide) ?_
      refine w_goto (pc := 25) C (tgt := 29) dX10_isRatio_25 (by decide) ?_
      exact w_zret (pc := 29) C dX10_isRatio_29 (by decide) hv
theorem dX10_circlesOf_0 : decode cX10_circlesOf 0 = .ok (.aload_n 0, 1) := by decide +kernel
theorem dX10_circlesOf_1 : decode cX10_circlesOf 1 = .ok (.getfield 68, 3) := by decide +kernel
theorem dX10_circlesOf_4 : decode cX10_circlesOf 4 = .ok (.iload_n 1, 1) := by decide +kernel
theorem dX10_circlesOf_5 : decode cX10_circlesOf 5 = .ok (.bipush 61, 2) := by decide +kernel
theorem dX10_circlesOf_7 : decode cX10_circlesOf 7 = .ok (.imul, 1) := by decide +kernel
theorem dX10_circlesOf_8 : decode cX10_circlesOf 8 = .ok (.iconst 3, 1) := by decide +kernel
theorem dX10_circlesOf_9 : decode cX10_circlesOf 9 = .ok (.iadd, 1) := by decide +kernel
theorem dX10_circlesOf_10 : decode cX10_circlesOf 10 = .ok (.iaload, 1) := by decide +kernel
theorem dX10_circlesOf_11 : decode cX10_circlesOf 11 = .ok (.ireturn, 1) := by decide +kernel
set_option maxRecDepth 20000 in
set_option maxHeartbeats 2000000 in
theorem V_X10_circlesOf_0 {X : Ctx} (C : C_X10_circlesOf X) {k n : Nat} {Q : Pq} {h : Hp} {v0 : Nat} {v1 : Int32}
    (hv : St10 h v0 ∧ inb ((v1 * 61) + 3) 732 ∧ Q (some (.int (gi h (v0 + 3) (ix ((v1 * 61) + 3))))) h) :
    Wj X k n Q 0 [(0, .ref v0), (1, .int v1)] [] h := by
  refine w_aload_n (pc := 0) C dX10_circlesOf_0 rfl ?_
  obtain ⟨f1, hv⟩ := hv
  refine w_getR (pc := 1) C fl_X10_68 rfl dX10_circlesOf_1 (St10_k f1) (St10_r7 f1) ?_
  refine w_iload_n (pc := 4) C dX10_circlesOf_4 rfl ?_
  refine w_bipush (pc := 5) C (v := 61) dX10_circlesOf_5 (by decide) ?_
  refine w_imul (pc := 7) C dX10_circlesOf_7 ?_
  refine w_iconst (pc := 8) C (v := 3) dX10_circlesOf_8 (by decide) ?_
  refine w_iadd (pc := 9) C dX10_circlesOf_9 ?_
  obtain ⟨f2, hv⟩ := hv
  refine w_iald (pc := 10) C dX10_circlesOf_10 (St10_k7 f1) (inbl (St10_l7 f1) f2) ?_
  exact w_iret (pc := 11) C dX10_circlesOf_11 hv
theorem dX10_marks_0 : decode cX10_marks 0 = .ok (.aload_n 0, 1) := by decide +kernel
theorem dX10_marks_1 : decode cX10_marks 1 = .ok (.getfield 68, 3) := by decide +kernel
theorem dX10_marks_4 : decode cX10_marks 4 = .ok (.bipush 60, 2) := by decide +kernel
theorem dX10_marks_6 : decode cX10_marks 6 = .ok (.iaload, 1) := by decide +kernel
theorem dX10_marks_7 : decode cX10_marks 7 = .ok (.ireturn, 1) := by decide +kernel
set_option maxRecDepth 20000 in
set_option maxHeartbeats 2000000 in
theorem V_X10_marks_0 {X : Ctx} (C : C_X10_marks X) {k n : Nat} {Q : Pq} {h : Hp} {v0 : Nat}
    (hv : St10 h v0 ∧ Q (some (.int (gi h (v0 + 3) (ix 60)))) h) :
    Wj X k n Q 0 [(0, .ref v0)] [] h := by
  refine w_aload_n (pc := 0) C dX10_marks_0 rfl ?_
  obtain ⟨f1, hv⟩ := hv
  refine w_getR (pc := 1) C fl_X10_68 rfl dX10_marks_1 (St10_k f1) (St10_r7 f1) ?_
  refine w_bipush (pc := 4) C (v := 60) dX10_marks_4 (by decide) ?_
  refine w_iald (pc := 6) C dX10_marks_6 (St10_k7 f1) (inbl (St10_l7 f1) (inbd (by decide))) ?_
  exact w_iret (pc := 7) C dX10_marks_7 hv
theorem dX10_markUp_0 : decode cX10_markUp 0 = .ok (.aload_n 0, 1) := by decide +kernel
theorem dX10_markUp_1 : decode cX10_markUp 1 = .ok (.getfield 71, 3) := by decide +kernel
theorem dX10_markUp_4 : decode cX10_markUp 4 = .ok (.iconst 2, 1) := by decide +kernel
theorem dX10_markUp_5 : decode cX10_markUp 5 = .ok (.iconst 2, 1) := by decide +kernel
theorem dX10_markUp_6 : decode cX10_markUp 6 = .ok (.iload_n 1, 1) := by decide +kernel
theorem dX10_markUp_7 : decode cX10_markUp 7 = .ok (.imul, 1) := by decide +kernel
theorem dX10_markUp_8 : decode cX10_markUp 8 = .ok (.iadd, 1) := by decide +kernel
theorem dX10_markUp_9 : decode cX10_markUp 9 = .ok (.laload, 1) := by decide +kernel
theorem dX10_markUp_10 : decode cX10_markUp 10 = .ok (.lreturn, 1) := by decide +kernel
set_option maxRecDepth 20000 in
set_option maxHeartbeats 2000000 in
theorem V_X10_markUp_0 {X : Ctx} (C : C_X10_markUp X) {k n : Nat} {Q : Pq} {h : Hp} {v0 : Nat} {v1 : Int32}
    (hv : St10 h v0 ∧ inb (2 + (2 * v1)) 1464 ∧ Q (some (.long (gl h (v0 + 4) (ix (2 + (2 * v1)))))) h) :
    Wj X k n Q 0 [(0, .ref v0), (1, .int v1)] [] h := by
  refine w_aload_n (pc := 0) C dX10_markUp_0 rfl ?_
  obtain ⟨f1, hv⟩ := hv
  refine w_getR (pc := 1) C fl_X10_71 rfl dX10_markUp_1 (St10_k f1) (St10_r8 f1) ?_
  refine w_iconst (pc := 4) C (v := 2) dX10_markUp_4 (by decide) ?_
  refine w_iconst (pc := 5) C (v := 2) dX10_markUp_5 (by decide) ?_
  refine w_iload_n (pc := 6) C dX10_markUp_6 rfl ?_
  refine w_imul (pc := 7) C dX10_markUp_7 ?_
  refine w_iadd (pc := 8) C dX10_markUp_8 ?_
  obtain ⟨f2, hv⟩ := hv
  refine w_lald (pc := 9) C dX10_markUp_9 (St10_k8 f1) (inbl (St10_l8 f1) f2) ?_
  exact w_lret (pc := 10) C dX10_markUp_10 hv
theorem dX10_markLow_0 : decode cX10_markLow 0 = .ok (.aload_n 0, 1) := by decide +kernel
theorem dX10_markLow_1 : decode cX10_markLow 1 = .ok (.getfield 71, 3) := by decide +kernel
theorem dX10_markLow_4 : decode cX10_markLow 4 = .ok (.iconst 2, 1) := by decide +kernel
theorem dX10_markLow_5 : decode cX10_markLow 5 = .ok (.iconst 2, 1) := by decide +kernel
theorem dX10_markLow_6 : decode cX10_markLow 6 = .ok (.iload_n 1, 1) := by decide +kernel
theorem dX10_markLow_7 : decode cX10_markLow 7 = .ok (.imul, 1) := by decide +kernel
theorem dX10_markLow_8 : decode cX10_markLow 8 = .ok (.iadd, 1) := by decide +kernel
theorem dX10_markLow_9 : decode cX10_markLow 9 = .ok (.iconst 1, 1) := by decide +kernel
theorem dX10_markLow_10 : decode cX10_markLow 10 = .ok (.iadd, 1) := by decide +kernel
theorem dX10_markLow_11 : decode cX10_markLow 11 = .ok (.laload, 1) := by decide +kernel
theorem dX10_markLow_12 : decode cX10_markLow 12 = .ok (.lreturn, 1) := by decide +kernel
set_option maxRecDepth 20000 in
set_option maxHeartbeats 2000000 in
theorem V_X10_markLow_0 {X : Ctx} (C : C_X10_markLow X) {k n : Nat} {Q : Pq} {h : Hp} {v0 : Nat} {v1 : Int32}
    (hv : St10 h v0 ∧ inb ((2 + (2 * v1)) + 1) 1464 ∧ Q (some (.long (gl h (v0 + 4) (ix ((2 + (2 * v1)) + 1))))) h) :
    Wj X k n Q 0 [(0, .ref v0), (1, .int v1)] [] h := by
  refine w_aload_n (pc := 0) C dX10_markLow_0 rfl ?_
  obtain ⟨f1, hv⟩ := hv
  refine w_getR (pc := 1) C fl_X10_71 rfl dX10_markLow_1 (St10_k f1) (St10_r8 f1) ?_
  refine w_iconst (pc := 4) C (v := 2) dX10_markLow_4 (by decide) ?_
  refine w_iconst (pc := 5) C (v := 2) dX10_markLow_5 (by decide) ?_
  refine w_iload_n (pc := 6) C dX10_markLow_6 rfl ?_
  refine w_imul (pc := 7) C dX10_markLow_7 ?_
  refine w_iadd (pc := 8) C dX10_markLow_8 ?_
  refine w_iconst (pc := 9) C (v := 1) dX10_markLow_9 (by decide) ?_
  refine w_iadd (pc := 10) C dX10_markLow_10 ?_
  obtain ⟨f2, hv⟩ := hv
  refine w_lald (pc := 11) C dX10_markLow_11 (St10_k8 f1) (inbl (St10_l8 f1) f2) ?_
  exact w_lret (pc := 12) C dX10_markLow_12 hv
end
section
-- contracts of readers and small writers
def tAt (h : Hp) (t : Nat) (p : Int32) : Int32 := if 0 ≤ p.toInt ∧ p.toInt < (gi h t 1).toInt ∧ p.toInt < 80 then gi h (t + 1) (ix p) else -1
def tDg (h : Hp) (t : Nat) (p : Int32) : Int32 := if 48 ≤ (tAt h t p).toInt ∧ (tAt h t p).toInt ≤ 57 then 1 else 0
def tNo (h : Hp) (t : Nat) (i : Int32) : Int64 := if 0 ≤ i.toInt ∧ i.toInt < 60 then gl h (t + 1) (ix i) else 0
def fpt (h : Hp) (a : Nat) (u w : Int64) : Hp := sl (sl h a 0 (u / cm u w)) a 1 (w / cm u w)
def fcp (h : Hp) (a b : Nat) : Hp := sl (sl h a 0 (gl h b 0)) a 1 (gl h b 1)
def tcl (h : Hp) (t : Nat) : Hp := si h t 1 0
def tad (h : Hp) (t : Nat) (v : Int64) : Hp := si (sl h (t + 1) (ix (gi h t 1)) v) t 1 (gi h t 1 + 1)
def taf (h : Hp) (t f : Nat) : Hp := tad (tad h t (gl h f 0)) t (gl h f 1)
def men (h : Hp) (m : Nat) (v : Int64) : Hp := si (sl h (m + 1) (ix (gi h m 1)) v) m 1 (gi h m 1 + 1)
def hIs (h : Hp) (a f : Nat) (k : Int32) : Int32 := if 0 ≤ k.toInt ∧ k.toInt < (gi h a f).toInt then 1 else 0
def sTo (h : Hp) (s : Nat) (k : Int32) : Int32 := if 0 ≤ k.toInt ∧ k.toInt < 12 then gi h (s + 1) (ix k) else 0
def sUp (h : Hp) (s : Nat) (k : Int32) : Int32 := if 0 ≤ k.toInt ∧ k.toInt < 3102 then gi h (s + 2) (ix k) else 0
def sLo (h : Hp) (s : Nat) (k : Int32) : Int32 := if 0 ≤ k.toInt ∧ k.toInt < 3102 then gi h (s + 3) (ix k) else 1
def sPk (a b c d : Int32) : Int32 := ((a ||| (b <<< (4 &&& 31))) ||| (c <<< (8 &&& 31))) ||| (d <<< (12 &&& 31))
def iRt (p q : Int32) : Int32 := if 1 ≤ p.toInt ∧ p.toInt ≤ 400 ∧ 1 ≤ q.toInt ∧ q.toInt ≤ 400 then 1 else 0
theorem i12_t : (12 : Int32).toInt = 12 := rfl
theorem i48_t : (48 : Int32).toInt = 48 := rfl
theorem i57_t : (57 : Int32).toInt = 57 := rfl
theorem i60_t : (Int32.ofNat 60).toInt = 60 := rfl
theorem i80_t : (Int32.ofNat 80).toInt = 80 := rfl
theorem i3102_t : (3102 : Int32).toInt = 3102 := rfl
theorem l1_t : (1 : Int64).toInt = 1 := rfl
theorem l2_t : (2 : Int64).toInt = 2 := rfl
theorem l400_t : (400 : Int64).toInt = 400 := rfl
theorem btL_1 {x a b : Int64} : btL x a b = 1 ↔ a.toInt ≤ x.toInt ∧ x.toInt ≤ b.toInt := by
  unfold btL
  simp only [i64_le]
  split <;> simp_all
theorem btL_0 {x a b : Int64} : btL x a b = 0 ↔ ¬ (a.toInt ≤ x.toInt ∧ x.toInt ≤ b.toInt) := by
  unfold btL
  simp only [i64_le]
  split <;> simp_all
theorem bt_1 {x a b : Int32} : bt x a b = 1 ↔ a.toInt ≤ x.toInt ∧ x.toInt ≤ b.toInt := by
  unfold bt
  simp only [i32_le]
  split <;> simp_all
theorem bt_0 {x a b : Int32} : bt x a b = 0 ↔ ¬ (a.toInt ≤ x.toInt ∧ x.toInt ≤ b.toInt) := by
  unfold bt
  simp only [i32_le]
  split <;> simp_all
theorem bt_01 (x a b : Int32) : bt x a b = 0 ∨ bt x a b = 1 := by unfold bt; split <;> simp
theorem btL_01 (x a b : Int64) : btL x a b = 0 ∨ btL x a b = 1 := by unfold btL; split <;> simp
theorem flg_01 (x : Int32) : flg x = 0 ∨ flg x = 1 := by unfold flg; split <;> simp
section Sfb
variable {l : Launch} {D : Dt} {h : Hp} {a b : Nat} {k : Int32}
theorem sf_X7_at (F : St7 h a) : S_X7_at l D 0 0 [.ref a, .int k] h (PF (.int (tAt h a k)) h) := Sp.of rfl (Nat.le_of_ble_eq_true rfl) (fun X C _ _ _ _ => V_X7_at_0 C (by
  unfold tAt PF
  simp only [i32_lt, i32_le, i0_t, i80_t]
  refine ⟨fun h1 => ⟨?_, trivial⟩, fun h1 => ⟨F, fun h2 => ⟨?_, trivial⟩, fun h2 => ⟨fun h3 => ⟨?_, trivial⟩, fun h3 => ⟨⟨by omega, by omega⟩, ?_, trivial⟩⟩⟩⟩
  · rw [if_neg (by omega)]
  · rw [if_neg (by omega)]
  · rw [if_neg (by omega)]
  · rw [if_pos (by omega)]))
theorem sf_X7_isDigit (F : St7 h a) : S_X7_isDigit l D 0 0 [.ref a, .int k] h (PF (.int (tDg h a k)) h) := Sp.of rfl (Nat.le_of_ble_eq_true rfl) (fun X C _ _ _ _ => V_X7_isDigit_0 C (by
  refine ⟨F, (sf_X7_at F).mono (fun v h' hp => ?_)⟩
  obtain ⟨rfl, rfl⟩ := hp
  refine ⟨_, rfl, ?_⟩
  simp only [i32_lt, i48_t, i57_t]
  refine ⟨fun h1 => ⟨?_, rfl⟩, fun h1 => ⟨F, (sf_X7_at F).mono (fun v h' hp => ?_)⟩⟩
  · unfold tDg; rw [if_neg (by omega)]
  · obtain ⟨rfl, rfl⟩ := hp
    refine ⟨_, rfl, fun h2 => ⟨?_, rfl⟩, fun h2 => ⟨?_, rfl⟩⟩
    · unfold tDg; rw [if_neg (by omega)]
    · unfold tDg; rw [if_pos (by omega)]))
theorem sf_X8_number (F : St8 h a) : S_X8_number l D 0 0 [.ref a, .int k] h (PF (.long (tNo h a k)) h) := Sp.of rfl (Nat.le_of_ble_eq_true rfl) (fun X C _ _ _ _ => V_X8_number_0 C (by
  unfold tNo PF
  simp only [i32_lt, i32_le, i0_t, i60_t]
  refine ⟨fun h1 => ⟨?_, trivial⟩, fun h1 => ⟨F, fun h2 => ⟨?_, trivial⟩, fun h2 => ⟨⟨by omega, by omega⟩, ?_, trivial⟩⟩⟩
  · rw [if_neg (by omega)]
  · rw [if_neg (by omega)]
  · rw [if_pos (by omega)]))
def PH (h : Hp) : Pq := fun v h' => v = none ∧ h' = h
theorem sf_X2_put {u w : Int64} (F : kd h a = 3) (hu : -9223372036854775807 ≤ u.toInt) (hw : 0 < w.toInt) : S_X2_put l D 0 0 [.ref a, .long u, .long w] h (PH (fpt h a u w)) := Sp.of rfl (Nat.le_of_ble_eq_true rfl) (fun X C _ _ _ _ => V_X2_put_0 C (by
  refine ⟨fun h1 => ⟨hu, hw, ?_, F, rfl, rfl⟩, fun h1 => ?_⟩
  · rw [i64_eq, l0_t, cm_t hw]
    have : 0 < Nat.gcd u.toInt.natAbs w.toInt.natAbs := Nat.gcd_pos_of_pos_right _ (by omega)
    omega
  · rw [i64_lt, l0_t] at h1; omega))
theorem sf_X2_copyFrom (F1 : kd h a = 3) (F2 : kd h b = 3) : S_X2_copyFrom l D 0 0 [.ref a, .ref b] h (PH (fcp h a b)) := Sp.of rfl (Nat.le_of_ble_eq_true rfl) (fun X C _ _ _ _ => V_X2_copyFrom_0 C (by
  refine ⟨F2, F1, rfl, ?_⟩
  unfold fcp
  rw [gl_sl, if_neg (fun e => by cases e.2)]))
theorem sf_X8_clear (F : St8 h a) : S_X8_clear l D 0 0 [.ref a] h (PH (tcl h a)) := Sp.of rfl (Nat.le_of_ble_eq_true rfl) (fun X C _ _ _ _ => V_X8_clear_0 C ⟨F, rfl, rfl⟩)
theorem sf_X8_add {v : Int64} (F : St8 h a) (hi : inb (gi h a 1) 60) : S_X8_add l D 0 0 [.ref a, .long v] h (PH (tad h a v)) := Sp.of rfl (Nat.le_of_ble_eq_true rfl) (fun X C _ _ _ _ => V_X8_add_0 C (by
  have hi2 := hi
  unfold inb at hi2
  simp only [i32_lt, i32_le, i0_t, i60_t]
  exact ⟨F, fun h1 => by omega, fun h1 => ⟨fun h2 => by omega, fun h2 => ⟨hi, rfl, rfl⟩⟩⟩))
theorem sf_X4_isCircle (F : St4 h a) : S_X4_isCircle l D 0 0 [.ref a, .int k] h (PF (.int (hIs h a 3 k)) h) := Sp.of rfl (Nat.le_of_ble_eq_true rfl) (fun X C _ _ _ _ => V_X4_isCircle_0 C (by
  unfold hIs PF
  simp only [i32_lt, i32_le, i0_t]
  refine ⟨fun h1 => ⟨?_, trivial⟩, fun h1 => ⟨F, fun h2 => ⟨?_, trivial⟩, fun h2 => ⟨?_, trivial⟩⟩⟩
  · rw [if_neg (by omega)]
  · rw [if_neg (by omega)]
  · rw [if_pos (by omega)]))
theorem sf_X4_isGear (F : St4 h a) : S_X4_isGear l D 0 0 [.ref a, .int k] h (PF (.int (hIs h a 4 k)) h) := Sp.of rfl (Nat.le_of_ble_eq_true rfl) (fun X C _ _ _ _ => V_X4_isGear_0 C (by
  unfold hIs PF
  simp only [i32_lt, i32_le, i0_t]
  refine ⟨fun h1 => ⟨?_, trivial⟩, fun h1 => ⟨F, fun h2 => ⟨?_, trivial⟩, fun h2 => ⟨?_, trivial⟩⟩⟩
  · rw [if_neg (by omega)]
  · rw [if_neg (by omega)]
  · rw [if_pos (by omega)]))
theorem sf_X4_isMark (F : St4 h a) : S_X4_isMark l D 0 0 [.ref a, .int k] h (PF (.int (hIs h a 7 k)) h) := Sp.of rfl (Nat.le_of_ble_eq_true rfl) (fun X C _ _ _ _ => V_X4_isMark_0 C (by
  unfold hIs PF
  simp only [i32_lt, i32_le, i0_t]
  refine ⟨fun h1 => ⟨?_, trivial⟩, fun h1 => ⟨F, fun h2 => ⟨?_, trivial⟩, fun h2 => ⟨?_, trivial⟩⟩⟩
  · rw [if_neg (by omega)]
  · rw [if_neg (by omega)]
  · rw [if_pos (by omega)]))
theorem sf_X5_tooth (F : St5 h a) : S_X5_tooth l D 0 0 [.ref a, .int k] h (PF (.int (sTo h a k)) h) := Sp.of rfl (Nat.le_of_ble_eq_true rfl) (fun X C _ _ _ _ => V_X5_tooth_0 C (by
  unfold sTo PF
  simp only [i32_lt, i32_le, i0_t, i12_t]
  refine ⟨fun h1 => ⟨?_, trivial⟩, fun h1 => ⟨fun h2 => ⟨?_, trivial⟩, fun h2 => ⟨F, ⟨by omega, by omega⟩, ?_, trivial⟩⟩⟩
  · rw [if_neg (by omega)]
  · rw [if_neg (by omega)]
  · rw [if_pos (by omega)]))
theorem sf_X5_up (F : St5 h a) : S_X5_up l D 0 0 [.ref a, .int k] h (PF (.int (sUp h a k)) h) := Sp.of rfl (Nat.le_of_ble_eq_true rfl) (fun X C _ _ _ _ => V_X5_up_0 C (by
  unfold sUp PF
  simp only [i32_lt, i32_le, i0_t, i3102_t]
  refine ⟨fun h1 => ⟨?_, trivial⟩, fun h1 => ⟨fun h2 => ⟨?_, trivial⟩, fun h2 => ⟨F, ⟨by omega, by omega⟩, ?_, trivial⟩⟩⟩
  · rw [if_neg (by omega)]
  · rw [if_neg (by omega)]
  · rw [if_pos (by omega)]))
theorem sf_X5_low (F : St5 h a) : S_X5_low l D 0 0 [.ref a, .int k] h (PF (.int (sLo h a k)) h) := Sp.of rfl (Nat.le_of_ble_eq_true rfl) (fun X C _ _ _ _ => V_X5_low_0 C (by
  unfold sLo PF
  simp only [i32_lt, i32_le, i0_t, i3102_t]
  refine ⟨fun h1 => ⟨?_, trivial⟩, fun h1 => ⟨fun h2 => ⟨?_, trivial⟩, fun h2 => ⟨F, ⟨by omega, by omega⟩, ?_, trivial⟩⟩⟩
  · rw [if_neg (by omega)]
  · rw [if_neg (by omega)]
  · rw [if_pos (by omega)]))
theorem sf_X5_pack {x y z w : Int32} : S_X5_pack l D 0 0 [.int x, .int y, .int z, .int w] h (PF (.int (sPk x y z w)) h) := Sp.of rfl (Nat.le_of_ble_eq_true rfl) (fun X C _ _ _ _ => V_X5_pack_0 C ⟨rfl, rfl⟩)
theorem sf_X10_enters {v : Int64} (F : St10 h a) (hi : inb (gi h a 1) 64) : S_X10_enters l D 0 0 [.ref a, .long v] h (PH (men h a v)) := Sp.of rfl (Nat.le_of_ble_eq_true rfl) (fun X C _ _ _ _ => V_X10_enters_0 C ⟨F, hi, rfl, rfl⟩)
theorem sf_X10_reads (F : St10 h a) : S_X10_reads l D 0 0 [.ref a] h (PH (si (si (si h a 6 (gi h a 4)) a 4 0) a 5 0)) := Sp.of rfl (Nat.le_of_ble_eq_true rfl) (fun X C _ _ _ _ => V_X10_reads_0 C ⟨F, rfl, rfl⟩)
theorem sf_X10_thrown (F : St10 h a) : S_X10_thrown l D 0 0 [.ref a] h (PF (.int (gi h a 0)) h) := Sp.of rfl (Nat.le_of_ble_eq_true rfl) (fun X C _ _ _ _ => V_X10_thrown_0 C ⟨St10_k F, rfl, rfl⟩)
theorem sf_X10_worm (F : St10 h a) : S_X10_worm l D 0 0 [.ref a] h (PF (.int (gi h (a + 3) (ix 0))) h) := Sp.of rfl (Nat.le_of_ble_eq_true rfl) (fun X C _ _ _ _ => V_X10_worm_0 C ⟨F, rfl, rfl⟩)
theorem sf_X10_circles (F : St10 h a) : S_X10_circles l D 0 0 [.ref a] h (PF (.int (gi h (a + 3) (ix 3))) h) := Sp.of rfl (Nat.le_of_ble_eq_true rfl) (fun X C _ _ _ _ => V_X10_circles_0 C ⟨F, rfl, rfl⟩)
theorem sf_X10_gearMany (F : St10 h a) : S_X10_gearMany l D 0 0 [.ref a] h (PF (.int (gi h (a + 3) (ix 4))) h) := Sp.of rfl (Nat.le_of_ble_eq_true rfl) (fun X C _ _ _ _ => V_X10_gearMany_0 C ⟨F, rfl, rfl⟩)
theorem sf_X10_marks (F : St10 h a) : S_X10_marks l D 0 0 [.ref a] h (PF (.int (gi h (a + 3) (ix 60))) h) := Sp.of rfl (Nat.le_of_ble_eq_true rfl) (fun X C _ _ _ _ => V_X10_marks_0 C ⟨F, rfl, rfl⟩)
theorem sf_X10_holes (F : St10 h a) (hi : inb (23 + k) 732) : S_X10_holes l D 0 0 [.ref a, .int k] h (PF (.int (gi h (a + 3) (ix (23 + k)))) h) := Sp.of rfl (Nat.le_of_ble_eq_true rfl) (fun X C _ _ _ _ => V_X10_holes_0 C ⟨F, hi, rfl, rfl⟩)
theorem sf_X10_teeth (F : St10 h a) (hi : inb (41 + k) 732) : S_X10_teeth l D 0 0 [.ref a, .int k] h (PF (.int (gi h (a + 3) (ix (41 + k)))) h) := Sp.of rfl (Nat.le_of_ble_eq_true rfl) (fun X C _ _ _ _ => V_X10_teeth_0 C ⟨F, hi, rfl, rfl⟩)
theorem sf_X10_circlesOf (F : St10 h a) (hi : inb (k * 61 + 3) 732) : S_X10_circlesOf l D 0 0 [.ref a, .int k] h (PF (.int (gi h (a + 3) (ix (k * 61 + 3)))) h) := Sp.of rfl (Nat.le_of_ble_eq_true rfl) (fun X C _ _ _ _ => V_X10_circlesOf_0 C ⟨F, hi, rfl, rfl⟩)
theorem sf_X10_markUp (F : St10 h a) (hi : inb (2 + 2 * k) 1464) : S_X10_markUp l D 0 0 [.ref a, .int k] h (PF (.long (gl h (a + 4) (ix (2 + 2 * k)))) h) := Sp.of rfl (Nat.le_of_ble_eq_true rfl) (fun X C _ _ _ _ => V_X10_markUp_0 C ⟨F, hi, rfl, rfl⟩)
theorem sf_X10_markLow (F : St10 h a) (hi : inb (2 + 2 * k + 1) 1464) : S_X10_markLow l D 0 0 [.ref a, .int k] h (PF (.long (gl h (a + 4) (ix (2 + 2 * k + 1)))) h) := Sp.of rfl (Nat.le_of_ble_eq_true rfl) (fun X C _ _ _ _ => V_X10_markLow_0 C ⟨F, hi, rfl, rfl⟩)
theorem sf_X10_isNumber : S_X10_isNumber l D 0 0 [.int k] h (PF (.int (btL k.toInt64 2 400)) h) := Sp.of rfl (Nat.le_of_ble_eq_true rfl) (fun X C _ _ _ _ => V_X10_isNumber_0 C ⟨btL_01 _ _ _, rfl, rfl⟩)
theorem sf_X10_isRatio {p q : Int32} : S_X10_isRatio l D 0 0 [.int p, .int q] h (PF (.int (iRt p q)) h) := Sp.of rfl (Nat.le_of_ble_eq_true rfl) (fun X C _ _ _ _ => V_X10_isRatio_0 C (by
  unfold iRt PF
  simp only [btL_0, i2l_t, l1_t, l400_t]
  refine ⟨fun h1 => ⟨?_, trivial⟩, fun h1 => ⟨fun h2 => ⟨?_, trivial⟩, fun h2 => ⟨?_, trivial⟩⟩⟩
  · rw [if_neg (by omega)]
  · rw [if_neg (by omega)]
  · rw [if_pos (by omega)]))
end Sfb
end
