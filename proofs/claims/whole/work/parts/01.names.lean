-- the tables' words, names and fields: by program (wip/whole/gen/gen_names.py) out of what TURN printed
/-- a private method of a class that the tables say can be made, by its rows of tables_1 -/
def lw_okq (q : MethodName × Nat) : Prop := (q.1.cls ≠ "java/lang/invoke/MethodHandle" ∧ q.1.cls ≠ "java/lang/invoke/VarHandle") ∧ Cond.instantiable q.1.cls q.2 ∈ tables_1 ∧ Cond.privateMethod q.1 ∈ tables_1 ∧ Cond.instanceMethod q.1 ∈ tables_1
theorem lw_p0 : lw_okq (⟨"DividingHead", "readPlates", "()I"⟩, 15) := ⟨⟨by decide +kernel, by decide +kernel⟩, List.mem_of_getElem? (i := 26) (by decide +kernel), List.mem_of_getElem? (i := 359) (by decide +kernel), List.mem_of_getElem? (i := 360) (by decide +kernel)⟩
theorem lw_p1 : lw_okq (⟨"DividingHead", "adopt", "(I)I"⟩, 15) := ⟨⟨by decide +kernel, by decide +kernel⟩, List.mem_of_getElem? (i := 26) (by decide +kernel), List.mem_of_getElem? (i := 401) (by decide +kernel), List.mem_of_getElem? (i := 402) (by decide +kernel)⟩
theorem lw_p2 : lw_okq (⟨"DividingHead", "readGears", "()I"⟩, 15) := ⟨⟨by decide +kernel, by decide +kernel⟩, List.mem_of_getElem? (i := 26) (by decide +kernel), List.mem_of_getElem? (i := 409) (by decide +kernel), List.mem_of_getElem? (i := 410) (by decide +kernel)⟩
theorem lw_p3 : lw_okq (⟨"DividingHead$CompoundWay", "tryPair", "(LDividingHead$Head;III)V"⟩, 6) := ⟨⟨by decide +kernel, by decide +kernel⟩, List.mem_of_getElem? (i := 88) (by decide +kernel), List.mem_of_getElem? (i := 466) (by decide +kernel), List.mem_of_getElem? (i := 467) (by decide +kernel)⟩
theorem lw_p4 : lw_okq (⟨"DividingHead$CompoundWay", "offer", "(III)Z"⟩, 6) := ⟨⟨by decide +kernel, by decide +kernel⟩, List.mem_of_getElem? (i := 88) (by decide +kernel), List.mem_of_getElem? (i := 471) (by decide +kernel), List.mem_of_getElem? (i := 472) (by decide +kernel)⟩
theorem lw_p5 : lw_okq (⟨"DividingHead$CompoundWay", "take", "(III)Z"⟩, 6) := ⟨⟨by decide +kernel, by decide +kernel⟩, List.mem_of_getElem? (i := 88) (by decide +kernel), List.mem_of_getElem? (i := 481) (by decide +kernel), List.mem_of_getElem? (i := 482) (by decide +kernel)⟩
theorem lw_p6 : lw_okq (⟨"DividingHead", "fittedShelf", "()LDividingHead$Shelf;"⟩, 15) := ⟨⟨by decide +kernel, by decide +kernel⟩, List.mem_of_getElem? (i := 26) (by decide +kernel), List.mem_of_getElem? (i := 492) (by decide +kernel), List.mem_of_getElem? (i := 493) (by decide +kernel)⟩
theorem lw_p7 : lw_okq (⟨"DividingHead$Shelf", "addTwos", "()V"⟩, 7) := ⟨⟨by decide +kernel, by decide +kernel⟩, List.mem_of_getElem? (i := 496) (by decide +kernel), List.mem_of_getElem? (i := 540) (by decide +kernel), List.mem_of_getElem? (i := 541) (by decide +kernel)⟩
theorem lw_p8 : lw_okq (⟨"DividingHead$Shelf", "tooth", "(I)I"⟩, 7) := ⟨⟨by decide +kernel, by decide +kernel⟩, List.mem_of_getElem? (i := 496) (by decide +kernel), List.mem_of_getElem? (i := 544) (by decide +kernel), List.mem_of_getElem? (i := 545) (by decide +kernel)⟩
theorem lw_p9 : lw_okq (⟨"DividingHead$Shelf", "add", "(III)V"⟩, 7) := ⟨⟨by decide +kernel, by decide +kernel⟩, List.mem_of_getElem? (i := 496) (by decide +kernel), List.mem_of_getElem? (i := 551) (by decide +kernel), List.mem_of_getElem? (i := 552) (by decide +kernel)⟩
theorem lw_p10 : lw_okq (⟨"DividingHead$Shelf", "slotOf", "(II)I"⟩, 7) := ⟨⟨by decide +kernel, by decide +kernel⟩, List.mem_of_getElem? (i := 496) (by decide +kernel), List.mem_of_getElem? (i := 556) (by decide +kernel), List.mem_of_getElem? (i := 557) (by decide +kernel)⟩
theorem lw_p11 : lw_okq (⟨"DividingHead$Shelf", "addFours", "()V"⟩, 7) := ⟨⟨by decide +kernel, by decide +kernel⟩, List.mem_of_getElem? (i := 496) (by decide +kernel), List.mem_of_getElem? (i := 562) (by decide +kernel), List.mem_of_getElem? (i := 563) (by decide +kernel)⟩
theorem lw_p12 : lw_okq (⟨"DividingHead$DifferentialWay", "tryNumber", "(LDividingHead$Head;LDividingHead$Shelf;III)V"⟩, 4) := ⟨⟨by decide +kernel, by decide +kernel⟩, List.mem_of_getElem? (i := 119) (by decide +kernel), List.mem_of_getElem? (i := 570) (by decide +kernel), List.mem_of_getElem? (i := 571) (by decide +kernel)⟩
theorem lw_p13 : lw_okq (⟨"DividingHead", "hasWay", "(II)Z"⟩, 15) := ⟨⟨by decide +kernel, by decide +kernel⟩, List.mem_of_getElem? (i := 26) (by decide +kernel), List.mem_of_getElem? (i := 587) (by decide +kernel), List.mem_of_getElem? (i := 588) (by decide +kernel)⟩
theorem lw_p14 : lw_okq (⟨"DividingHead", "tellWheels", "(LDividingHead$Shelf;I)I"⟩, 15) := ⟨⟨by decide +kernel, by decide +kernel⟩, List.mem_of_getElem? (i := 26) (by decide +kernel), List.mem_of_getElem? (i := 607) (by decide +kernel), List.mem_of_getElem? (i := 608) (by decide +kernel)⟩
theorem lw_p15 : lw_okq (⟨"DividingHead", "tellClosest", "(JJJ)I"⟩, 15) := ⟨⟨by decide +kernel, by decide +kernel⟩, List.mem_of_getElem? (i := 26) (by decide +kernel), List.mem_of_getElem? (i := 620) (by decide +kernel), List.mem_of_getElem? (i := 621) (by decide +kernel)⟩
def lw_privs_1 : List (MethodName × Nat) := [(⟨"DividingHead", "readPlates", "()I"⟩, 15), (⟨"DividingHead", "adopt", "(I)I"⟩, 15), (⟨"DividingHead", "readGears", "()I"⟩, 15), (⟨"DividingHead$CompoundWay", "tryPair", "(LDividingHead$Head;III)V"⟩, 6), (⟨"DividingHead$CompoundWay", "offer", "(III)Z"⟩, 6), (⟨"DividingHead$CompoundWay", "take", "(III)Z"⟩, 6), (⟨"DividingHead", "fittedShelf", "()LDividingHead$Shelf;"⟩, 15), (⟨"DividingHead$Shelf", "addTwos", "()V"⟩, 7), (⟨"DividingHead$Shelf", "tooth", "(I)I"⟩, 7), (⟨"DividingHead$Shelf", "add", "(III)V"⟩, 7), (⟨"DividingHead$Shelf", "slotOf", "(II)I"⟩, 7), (⟨"DividingHead$Shelf", "addFours", "()V"⟩, 7), (⟨"DividingHead$DifferentialWay", "tryNumber", "(LDividingHead$Head;LDividingHead$Shelf;III)V"⟩, 4), (⟨"DividingHead", "hasWay", "(II)Z"⟩, 15), (⟨"DividingHead", "tellWheels", "(LDividingHead$Shelf;I)I"⟩, 15), (⟨"DividingHead", "tellClosest", "(JJJ)I"⟩, 15)]
theorem lw_r1 : ∀ q ∈ lw_privs_1, lw_okq q := List.forall_mem_cons.mpr ⟨lw_p0, List.forall_mem_cons.mpr ⟨lw_p1, List.forall_mem_cons.mpr ⟨lw_p2, List.forall_mem_cons.mpr ⟨lw_p3, List.forall_mem_cons.mpr ⟨lw_p4, List.forall_mem_cons.mpr ⟨lw_p5, List.forall_mem_cons.mpr ⟨lw_p6, List.forall_mem_cons.mpr ⟨lw_p7, List.forall_mem_cons.mpr ⟨lw_p8, List.forall_mem_cons.mpr ⟨lw_p9, List.forall_mem_cons.mpr ⟨lw_p10, List.forall_mem_cons.mpr ⟨lw_p11, List.forall_mem_cons.mpr ⟨lw_p12, List.forall_mem_cons.mpr ⟨lw_p13, List.forall_mem_cons.mpr ⟨lw_p14, List.forall_mem_cons.mpr ⟨lw_p15, fun _ h => absurd h List.not_mem_nil⟩⟩⟩⟩⟩⟩⟩⟩⟩⟩⟩⟩⟩⟩⟩⟩
theorem lw_p16 : lw_okq (⟨"DividingHead", "findNear", "(JJI)V"⟩, 15) := ⟨⟨by decide +kernel, by decide +kernel⟩, List.mem_of_getElem? (i := 26) (by decide +kernel), List.mem_of_getElem? (i := 675) (by decide +kernel), List.mem_of_getElem? (i := 676) (by decide +kernel)⟩
theorem lw_p17 : lw_okq (⟨"DividingHead", "tellAngle", "(IJ)V"⟩, 15) := ⟨⟨by decide +kernel, by decide +kernel⟩, List.mem_of_getElem? (i := 26) (by decide +kernel), List.mem_of_getElem? (i := 693) (by decide +kernel), List.mem_of_getElem? (i := 694) (by decide +kernel)⟩
theorem lw_p18 : lw_okq (⟨"DividingHead$Head", "isPair", "(II)Z"⟩, 17) := ⟨⟨by decide +kernel, by decide +kernel⟩, List.mem_of_getElem? (i := 188) (by decide +kernel), List.mem_of_getElem? (i := 713) (by decide +kernel), List.mem_of_getElem? (i := 714) (by decide +kernel)⟩
theorem lw_p19 : lw_okq (⟨"DividingHead$Head", "compareMark", "(I)I"⟩, 17) := ⟨⟨by decide +kernel, by decide +kernel⟩, List.mem_of_getElem? (i := 188) (by decide +kernel), List.mem_of_getElem? (i := 749) (by decide +kernel), List.mem_of_getElem? (i := 750) (by decide +kernel)⟩
theorem lw_p20 : lw_okq (⟨"DividingHead", "putInDifferential", "()V"⟩, 15) := ⟨⟨by decide +kernel, by decide +kernel⟩, List.mem_of_getElem? (i := 26) (by decide +kernel), List.mem_of_getElem? (i := 777) (by decide +kernel), List.mem_of_getElem? (i := 778) (by decide +kernel)⟩
theorem lw_p21 : lw_okq (⟨"DividingHead", "windWay", "(I)V"⟩, 15) := ⟨⟨by decide +kernel, by decide +kernel⟩, List.mem_of_getElem? (i := 26) (by decide +kernel), List.mem_of_getElem? (i := 781) (by decide +kernel), List.mem_of_getElem? (i := 782) (by decide +kernel)⟩
theorem lw_p22 : lw_okq (⟨"DividingHead$GapList", "holdsGap", "()Z"⟩, 4) := ⟨⟨by decide +kernel, by decide +kernel⟩, List.mem_of_getElem? (i := 144) (by decide +kernel), List.mem_of_getElem? (i := 794) (by decide +kernel), List.mem_of_getElem? (i := 795) (by decide +kernel)⟩
theorem lw_p23 : lw_okq (⟨"DividingHead", "firstWrongOfDay", "()I"⟩, 15) := ⟨⟨by decide +kernel, by decide +kernel⟩, List.mem_of_getElem? (i := 26) (by decide +kernel), List.mem_of_getElem? (i := 841) (by decide +kernel), List.mem_of_getElem? (i := 842) (by decide +kernel)⟩
theorem lw_p24 : lw_okq (⟨"DividingHead", "doAct", "(I)I"⟩, 15) := ⟨⟨by decide +kernel, by decide +kernel⟩, List.mem_of_getElem? (i := 26) (by decide +kernel), List.mem_of_getElem? (i := 848) (by decide +kernel), List.mem_of_getElem? (i := 849) (by decide +kernel)⟩
theorem lw_p25 : lw_okq (⟨"DividingHead", "draw", "(I)I"⟩, 15) := ⟨⟨by decide +kernel, by decide +kernel⟩, List.mem_of_getElem? (i := 26) (by decide +kernel), List.mem_of_getElem? (i := 860) (by decide +kernel), List.mem_of_getElem? (i := 861) (by decide +kernel)⟩
theorem lw_p26 : lw_okq (⟨"java/lang/Throwable", "fillInStackTrace", "(I)Ljava/lang/Throwable;"⟩, 6) := ⟨⟨by decide +kernel, by decide +kernel⟩, List.mem_of_getElem? (i := 922) (by decide +kernel), List.mem_of_getElem? (i := 920) (by decide +kernel), List.mem_of_getElem? (i := 921) (by decide +kernel)⟩
theorem lw_p27 : lw_okq (⟨"DividingHeadModel", "begins", "(I)V"⟩, 43) := ⟨⟨by decide +kernel, by decide +kernel⟩, List.mem_of_getElem? (i := 983) (by decide +kernel), List.mem_of_getElem? (i := 989) (by decide +kernel), List.mem_of_getElem? (i := 990) (by decide +kernel)⟩
theorem lw_p28 : lw_okq (⟨"DividingHeadModel", "copies", "(II)V"⟩, 43) := ⟨⟨by decide +kernel, by decide +kernel⟩, List.mem_of_getElem? (i := 983) (by decide +kernel), List.mem_of_getElem? (i := 1128) (by decide +kernel), List.mem_of_getElem? (i := 1129) (by decide +kernel)⟩
theorem lw_p29 : lw_okq (⟨"DividingHeadModel", "reads", "()V"⟩, 43) := ⟨⟨by decide +kernel, by decide +kernel⟩, List.mem_of_getElem? (i := 983) (by decide +kernel), List.mem_of_getElem? (i := 1136) (by decide +kernel), List.mem_of_getElem? (i := 1137) (by decide +kernel)⟩
theorem lw_p30 : lw_okq (⟨"DividingHeadModel", "readsPlate", "(I)Z"⟩, 43) := ⟨⟨by decide +kernel, by decide +kernel⟩, List.mem_of_getElem? (i := 983) (by decide +kernel), List.mem_of_getElem? (i := 1140) (by decide +kernel), List.mem_of_getElem? (i := 1141) (by decide +kernel)⟩
theorem lw_p31 : lw_okq (⟨"DividingHeadModel", "two", "()I"⟩, 43) := ⟨⟨by decide +kernel, by decide +kernel⟩, List.mem_of_getElem? (i := 983) (by decide +kernel), List.mem_of_getElem? (i := 1144) (by decide +kernel), List.mem_of_getElem? (i := 1145) (by decide +kernel)⟩
def lw_privs_2 : List (MethodName × Nat) := [(⟨"DividingHead", "findNear", "(JJI)V"⟩, 15), (⟨"DividingHead", "tellAngle", "(IJ)V"⟩, 15), (⟨"DividingHead$Head", "isPair", "(II)Z"⟩, 17), (⟨"DividingHead$Head", "compareMark", "(I)I"⟩, 17), (⟨"DividingHead", "putInDifferential", "()V"⟩, 15), (⟨"DividingHead", "windWay", "(I)V"⟩, 15), (⟨"DividingHead$GapList", "holdsGap", "()Z"⟩, 4), (⟨"DividingHead", "firstWrongOfDay", "()I"⟩, 15), (⟨"DividingHead", "doAct", "(I)I"⟩, 15), (⟨"DividingHead", "draw", "(I)I"⟩, 15), (⟨"java/lang/Throwable", "fillInStackTrace", "(I)Ljava/lang/Throwable;"⟩, 6), (⟨"DividingHeadModel", "begins", "(I)V"⟩, 43), (⟨"DividingHeadModel", "copies", "(II)V"⟩, 43), (⟨"DividingHeadModel", "reads", "()V"⟩, 43), (⟨"DividingHeadModel", "readsPlate", "(I)Z"⟩, 43), (⟨"DividingHeadModel", "two", "()I"⟩, 43)]
theorem lw_r2 : ∀ q ∈ lw_privs_2, lw_okq q := List.forall_mem_cons.mpr ⟨lw_p16, List.forall_mem_cons.mpr ⟨lw_p17, List.forall_mem_cons.mpr ⟨lw_p18, List.forall_mem_cons.mpr ⟨lw_p19, List.forall_mem_cons.mpr ⟨lw_p20, List.forall_mem_cons.mpr ⟨lw_p21, List.forall_mem_cons.mpr ⟨lw_p22, List.forall_mem_cons.mpr ⟨lw_p23, List.forall_mem_cons.mpr ⟨lw_p24, List.forall_mem_cons.mpr ⟨lw_p25, List.forall_mem_cons.mpr ⟨lw_p26, List.forall_mem_cons.mpr ⟨lw_p27, List.forall_mem_cons.mpr ⟨lw_p28, List.forall_mem_cons.mpr ⟨lw_p29, List.forall_mem_cons.mpr ⟨lw_p30, List.forall_mem_cons.mpr ⟨lw_p31, fun _ h => absurd h List.not_mem_nil⟩⟩⟩⟩⟩⟩⟩⟩⟩⟩⟩⟩⟩⟩⟩⟩
theorem lw_p32 : lw_okq (⟨"DividingHeadModel", "digit", "()I"⟩, 43) := ⟨⟨by decide +kernel, by decide +kernel⟩, List.mem_of_getElem? (i := 983) (by decide +kernel), List.mem_of_getElem? (i := 1148) (by decide +kernel), List.mem_of_getElem? (i := 1149) (by decide +kernel)⟩
theorem lw_p33 : lw_okq (⟨"DividingHeadModel", "takesOf", "(Ljava/lang/String;)I"⟩, 43) := ⟨⟨by decide +kernel, by decide +kernel⟩, List.mem_of_getElem? (i := 983) (by decide +kernel), List.mem_of_getElem? (i := 1153) (by decide +kernel), List.mem_of_getElem? (i := 1154) (by decide +kernel)⟩
theorem lw_p34 : lw_okq (⟨"DividingHeadModel", "takes", "(C)Z"⟩, 43) := ⟨⟨by decide +kernel, by decide +kernel⟩, List.mem_of_getElem? (i := 983) (by decide +kernel), List.mem_of_getElem? (i := 1207) (by decide +kernel), List.mem_of_getElem? (i := 1208) (by decide +kernel)⟩
theorem lw_p35 : lw_okq (⟨"DividingHeadModel", "circlesOf", "(I)I"⟩, 43) := ⟨⟨by decide +kernel, by decide +kernel⟩, List.mem_of_getElem? (i := 983) (by decide +kernel), List.mem_of_getElem? (i := 1214) (by decide +kernel), List.mem_of_getElem? (i := 1215) (by decide +kernel)⟩
theorem lw_p36 : lw_okq (⟨"DividingHeadModel", "putsRead", "(I)I"⟩, 43) := ⟨⟨by decide +kernel, by decide +kernel⟩, List.mem_of_getElem? (i := 983) (by decide +kernel), List.mem_of_getElem? (i := 1218) (by decide +kernel), List.mem_of_getElem? (i := 1219) (by decide +kernel)⟩
theorem lw_p37 : lw_okq (⟨"DividingHeadModel", "done", "(I)I"⟩, 43) := ⟨⟨by decide +kernel, by decide +kernel⟩, List.mem_of_getElem? (i := 983) (by decide +kernel), List.mem_of_getElem? (i := 1222) (by decide +kernel), List.mem_of_getElem? (i := 1223) (by decide +kernel)⟩
theorem lw_p38 : lw_okq (⟨"DividingHeadModel", "circles", "()I"⟩, 43) := ⟨⟨by decide +kernel, by decide +kernel⟩, List.mem_of_getElem? (i := 983) (by decide +kernel), List.mem_of_getElem? (i := 1242) (by decide +kernel), List.mem_of_getElem? (i := 1243) (by decide +kernel)⟩
theorem lw_p39 : lw_okq (⟨"DividingHeadModel", "enters", "(J)V"⟩, 43) := ⟨⟨by decide +kernel, by decide +kernel⟩, List.mem_of_getElem? (i := 983) (by decide +kernel), List.mem_of_getElem? (i := 1246) (by decide +kernel), List.mem_of_getElem? (i := 1247) (by decide +kernel)⟩
theorem lw_p40 : lw_okq (⟨"DividingHeadModel", "holes", "(I)I"⟩, 43) := ⟨⟨by decide +kernel, by decide +kernel⟩, List.mem_of_getElem? (i := 983) (by decide +kernel), List.mem_of_getElem? (i := 1250) (by decide +kernel), List.mem_of_getElem? (i := 1251) (by decide +kernel)⟩
theorem lw_p41 : lw_okq (⟨"DividingHeadModel", "gearMany", "()I"⟩, 43) := ⟨⟨by decide +kernel, by decide +kernel⟩, List.mem_of_getElem? (i := 983) (by decide +kernel), List.mem_of_getElem? (i := 1258) (by decide +kernel), List.mem_of_getElem? (i := 1259) (by decide +kernel)⟩
theorem lw_p42 : lw_okq (⟨"DividingHeadModel", "teeth", "(I)I"⟩, 43) := ⟨⟨by decide +kernel, by decide +kernel⟩, List.mem_of_getElem? (i := 983) (by decide +kernel), List.mem_of_getElem? (i := 1262) (by decide +kernel), List.mem_of_getElem? (i := 1263) (by decide +kernel)⟩
theorem lw_p43 : lw_okq (⟨"DividingHeadModel", "hasSimple", "(II)Z"⟩, 43) := ⟨⟨by decide +kernel, by decide +kernel⟩, List.mem_of_getElem? (i := 983) (by decide +kernel), List.mem_of_getElem? (i := 1275) (by decide +kernel), List.mem_of_getElem? (i := 1276) (by decide +kernel)⟩
theorem lw_p44 : lw_okq (⟨"DividingHeadModel", "worm", "()I"⟩, 43) := ⟨⟨by decide +kernel, by decide +kernel⟩, List.mem_of_getElem? (i := 983) (by decide +kernel), List.mem_of_getElem? (i := 1279) (by decide +kernel), List.mem_of_getElem? (i := 1280) (by decide +kernel)⟩
theorem lw_p45 : lw_okq (⟨"DividingHeadModel", "firstSimple", "(I)I"⟩, 43) := ⟨⟨by decide +kernel, by decide +kernel⟩, List.mem_of_getElem? (i := 983) (by decide +kernel), List.mem_of_getElem? (i := 1283) (by decide +kernel), List.mem_of_getElem? (i := 1284) (by decide +kernel)⟩
theorem lw_p46 : lw_okq (⟨"DividingHeadModel", "allHoles", "(II)I"⟩, 43) := ⟨⟨by decide +kernel, by decide +kernel⟩, List.mem_of_getElem? (i := 983) (by decide +kernel), List.mem_of_getElem? (i := 1287) (by decide +kernel), List.mem_of_getElem? (i := 1288) (by decide +kernel)⟩
theorem lw_p47 : lw_okq (⟨"DividingHeadModel", "findsCompound", "(I)I"⟩, 43) := ⟨⟨by decide +kernel, by decide +kernel⟩, List.mem_of_getElem? (i := 983) (by decide +kernel), List.mem_of_getElem? (i := 1295) (by decide +kernel), List.mem_of_getElem? (i := 1296) (by decide +kernel)⟩
def lw_privs_3 : List (MethodName × Nat) := [(⟨"DividingHeadModel", "digit", "()I"⟩, 43), (⟨"DividingHeadModel", "takesOf", "(Ljava/lang/String;)I"⟩, 43), (⟨"DividingHeadModel", "takes", "(C)Z"⟩, 43), (⟨"DividingHeadModel", "circlesOf", "(I)I"⟩, 43), (⟨"DividingHeadModel", "putsRead", "(I)I"⟩, 43), (⟨"DividingHeadModel", "done", "(I)I"⟩, 43), (⟨"DividingHeadModel", "circles", "()I"⟩, 43), (⟨"DividingHeadModel", "enters", "(J)V"⟩, 43), (⟨"DividingHeadModel", "holes", "(I)I"⟩, 43), (⟨"DividingHeadModel", "gearMany", "()I"⟩, 43), (⟨"DividingHeadModel", "teeth", "(I)I"⟩, 43), (⟨"DividingHeadModel", "hasSimple", "(II)Z"⟩, 43), (⟨"DividingHeadModel", "worm", "()I"⟩, 43), (⟨"DividingHeadModel", "firstSimple", "(I)I"⟩, 43), (⟨"DividingHeadModel", "allHoles", "(II)I"⟩, 43), (⟨"DividingHeadModel", "findsCompound", "(I)I"⟩, 43)]
theorem lw_r3 : ∀ q ∈ lw_privs_3, lw_okq q := List.forall_mem_cons.mpr ⟨lw_p32, List.forall_mem_cons.mpr ⟨lw_p33, List.forall_mem_cons.mpr ⟨lw_p34, List.forall_mem_cons.mpr ⟨lw_p35, List.forall_mem_cons.mpr ⟨lw_p36, List.forall_mem_cons.mpr ⟨lw_p37, List.forall_mem_cons.mpr ⟨lw_p38, List.forall_mem_cons.mpr ⟨lw_p39, List.forall_mem_cons.mpr ⟨lw_p40, List.forall_mem_cons.mpr ⟨lw_p41, List.forall_mem_cons.mpr ⟨lw_p42, List.forall_mem_cons.mpr ⟨lw_p43, List.forall_mem_cons.mpr ⟨lw_p44, List.forall_mem_cons.mpr ⟨lw_p45, List.forall_mem_cons.mpr ⟨lw_p46, List.forall_mem_cons.mpr ⟨lw_p47, fun _ h => absurd h List.not_mem_nil⟩⟩⟩⟩⟩⟩⟩⟩⟩⟩⟩⟩⟩⟩⟩⟩
theorem lw_p48 : lw_okq (⟨"DividingHeadModel", "looksAt", "(IIII)I"⟩, 43) := ⟨⟨by decide +kernel, by decide +kernel⟩, List.mem_of_getElem? (i := 983) (by decide +kernel), List.mem_of_getElem? (i := 1299) (by decide +kernel), List.mem_of_getElem? (i := 1300) (by decide +kernel)⟩
theorem lw_p49 : lw_okq (⟨"DividingHeadModel", "findsDifferential", "(I)Z"⟩, 43) := ⟨⟨by decide +kernel, by decide +kernel⟩, List.mem_of_getElem? (i := 983) (by decide +kernel), List.mem_of_getElem? (i := 1310) (by decide +kernel), List.mem_of_getElem? (i := 1311) (by decide +kernel)⟩
theorem lw_p50 : lw_okq (⟨"DividingHeadModel", "isDifferential", "(II)Z"⟩, 43) := ⟨⟨by decide +kernel, by decide +kernel⟩, List.mem_of_getElem? (i := 983) (by decide +kernel), List.mem_of_getElem? (i := 1314) (by decide +kernel), List.mem_of_getElem? (i := 1315) (by decide +kernel)⟩
theorem lw_p51 : lw_okq (⟨"DividingHeadModel", "findsTrain", "(JJ)Z"⟩, 43) := ⟨⟨by decide +kernel, by decide +kernel⟩, List.mem_of_getElem? (i := 983) (by decide +kernel), List.mem_of_getElem? (i := 1318) (by decide +kernel), List.mem_of_getElem? (i := 1319) (by decide +kernel)⟩
theorem lw_p52 : lw_okq (⟨"DividingHeadModel", "nextTrain", "()Z"⟩, 43) := ⟨⟨by decide +kernel, by decide +kernel⟩, List.mem_of_getElem? (i := 983) (by decide +kernel), List.mem_of_getElem? (i := 1322) (by decide +kernel), List.mem_of_getElem? (i := 1323) (by decide +kernel)⟩
theorem lw_p53 : lw_okq (⟨"DividingHeadModel", "startsTrains", "(I)V"⟩, 43) := ⟨⟨by decide +kernel, by decide +kernel⟩, List.mem_of_getElem? (i := 983) (by decide +kernel), List.mem_of_getElem? (i := 1326) (by decide +kernel), List.mem_of_getElem? (i := 1327) (by decide +kernel)⟩
theorem lw_p54 : lw_okq (⟨"DividingHeadModel", "goesOn", "(I)Z"⟩, 43) := ⟨⟨by decide +kernel, by decide +kernel⟩, List.mem_of_getElem? (i := 983) (by decide +kernel), List.mem_of_getElem? (i := 1330) (by decide +kernel), List.mem_of_getElem? (i := 1331) (by decide +kernel)⟩
theorem lw_p55 : lw_okq (⟨"DividingHeadModel", "isUnlike", "(I)Z"⟩, 43) := ⟨⟨by decide +kernel, by decide +kernel⟩, List.mem_of_getElem? (i := 983) (by decide +kernel), List.mem_of_getElem? (i := 1334) (by decide +kernel), List.mem_of_getElem? (i := 1335) (by decide +kernel)⟩
theorem lw_p56 : lw_okq (⟨"DividingHeadModel", "beginsFour", "()Z"⟩, 43) := ⟨⟨by decide +kernel, by decide +kernel⟩, List.mem_of_getElem? (i := 983) (by decide +kernel), List.mem_of_getElem? (i := 1338) (by decide +kernel), List.mem_of_getElem? (i := 1339) (by decide +kernel)⟩
theorem lw_p57 : lw_okq (⟨"DividingHeadModel", "upper", "()J"⟩, 43) := ⟨⟨by decide +kernel, by decide +kernel⟩, List.mem_of_getElem? (i := 983) (by decide +kernel), List.mem_of_getElem? (i := 1342) (by decide +kernel), List.mem_of_getElem? (i := 1343) (by decide +kernel)⟩
theorem lw_p58 : lw_okq (⟨"DividingHeadModel", "lower", "()J"⟩, 43) := ⟨⟨by decide +kernel, by decide +kernel⟩, List.mem_of_getElem? (i := 983) (by decide +kernel), List.mem_of_getElem? (i := 1346) (by decide +kernel), List.mem_of_getElem? (i := 1347) (by decide +kernel)⟩
theorem lw_p59 : lw_okq (⟨"DividingHeadModel", "finds", "()V"⟩, 43) := ⟨⟨by decide +kernel, by decide +kernel⟩, List.mem_of_getElem? (i := 983) (by decide +kernel), List.mem_of_getElem? (i := 1350) (by decide +kernel), List.mem_of_getElem? (i := 1351) (by decide +kernel)⟩
theorem lw_p60 : lw_okq (⟨"DividingHeadModel", "waysOf", "(I)I"⟩, 43) := ⟨⟨by decide +kernel, by decide +kernel⟩, List.mem_of_getElem? (i := 983) (by decide +kernel), List.mem_of_getElem? (i := 1358) (by decide +kernel), List.mem_of_getElem? (i := 1359) (by decide +kernel)⟩
theorem lw_p61 : lw_okq (⟨"DividingHeadModel", "entersFound", "()V"⟩, 43) := ⟨⟨by decide +kernel, by decide +kernel⟩, List.mem_of_getElem? (i := 983) (by decide +kernel), List.mem_of_getElem? (i := 1373) (by decide +kernel), List.mem_of_getElem? (i := 1374) (by decide +kernel)⟩
theorem lw_p62 : lw_okq (⟨"DividingHeadModel", "findsNearest", "(JJJ)Z"⟩, 43) := ⟨⟨by decide +kernel, by decide +kernel⟩, List.mem_of_getElem? (i := 983) (by decide +kernel), List.mem_of_getElem? (i := 1381) (by decide +kernel), List.mem_of_getElem? (i := 1382) (by decide +kernel)⟩
theorem lw_p63 : lw_okq (⟨"DividingHeadModel", "isNearer", "(JJJJ)Z"⟩, 43) := ⟨⟨by decide +kernel, by decide +kernel⟩, List.mem_of_getElem? (i := 983) (by decide +kernel), List.mem_of_getElem? (i := 1388) (by decide +kernel), List.mem_of_getElem? (i := 1389) (by decide +kernel)⟩
def lw_privs_4 : List (MethodName × Nat) := [(⟨"DividingHeadModel", "looksAt", "(IIII)I"⟩, 43), (⟨"DividingHeadModel", "findsDifferential", "(I)Z"⟩, 43), (⟨"DividingHeadModel", "isDifferential", "(II)Z"⟩, 43), (⟨"DividingHeadModel", "findsTrain", "(JJ)Z"⟩, 43), (⟨"DividingHeadModel", "nextTrain", "()Z"⟩, 43), (⟨"DividingHeadModel", "startsTrains", "(I)V"⟩, 43), (⟨"DividingHeadModel", "goesOn", "(I)Z"⟩, 43), (⟨"DividingHeadModel", "isUnlike", "(I)Z"⟩, 43), (⟨"DividingHeadModel", "beginsFour", "()Z"⟩, 43), (⟨"DividingHeadModel", "upper", "()J"⟩, 43), (⟨"DividingHeadModel", "lower", "()J"⟩, 43), (⟨"DividingHeadModel", "finds", "()V"⟩, 43), (⟨"DividingHeadModel", "waysOf", "(I)I"⟩, 43), (⟨"DividingHeadModel", "entersFound", "()V"⟩, 43), (⟨"DividingHeadModel", "findsNearest", "(JJJ)Z"⟩, 43), (⟨"DividingHeadModel", "isNearer", "(JJJJ)Z"⟩, 43)]
theorem lw_r4 : ∀ q ∈ lw_privs_4, lw_okq q := List.forall_mem_cons.mpr ⟨lw_p48, List.forall_mem_cons.mpr ⟨lw_p49, List.forall_mem_cons.mpr ⟨lw_p50, List.forall_mem_cons.mpr ⟨lw_p51, List.forall_mem_cons.mpr ⟨lw_p52, List.forall_mem_cons.mpr ⟨lw_p53, List.forall_mem_cons.mpr ⟨lw_p54, List.forall_mem_cons.mpr ⟨lw_p55, List.forall_mem_cons.mpr ⟨lw_p56, List.forall_mem_cons.mpr ⟨lw_p57, List.forall_mem_cons.mpr ⟨lw_p58, List.forall_mem_cons.mpr ⟨lw_p59, List.forall_mem_cons.mpr ⟨lw_p60, List.forall_mem_cons.mpr ⟨lw_p61, List.forall_mem_cons.mpr ⟨lw_p62, List.forall_mem_cons.mpr ⟨lw_p63, fun _ h => absurd h List.not_mem_nil⟩⟩⟩⟩⟩⟩⟩⟩⟩⟩⟩⟩⟩⟩⟩⟩
theorem lw_p64 : lw_okq (⟨"DividingHeadModel", "entersNear", "()V"⟩, 43) := ⟨⟨by decide +kernel, by decide +kernel⟩, List.mem_of_getElem? (i := 983) (by decide +kernel), List.mem_of_getElem? (i := 1392) (by decide +kernel), List.mem_of_getElem? (i := 1393) (by decide +kernel)⟩
theorem lw_p65 : lw_okq (⟨"DividingHeadModel", "entersPart", "(JJ)V"⟩, 43) := ⟨⟨by decide +kernel, by decide +kernel⟩, List.mem_of_getElem? (i := 983) (by decide +kernel), List.mem_of_getElem? (i := 1396) (by decide +kernel), List.mem_of_getElem? (i := 1397) (by decide +kernel)⟩
theorem lw_p66 : lw_okq (⟨"DividingHeadModel", "sorts", "()V"⟩, 43) := ⟨⟨by decide +kernel, by decide +kernel⟩, List.mem_of_getElem? (i := 983) (by decide +kernel), List.mem_of_getElem? (i := 1410) (by decide +kernel), List.mem_of_getElem? (i := 1411) (by decide +kernel)⟩
theorem lw_p67 : lw_okq (⟨"DividingHeadModel", "sinks", "(II)V"⟩, 43) := ⟨⟨by decide +kernel, by decide +kernel⟩, List.mem_of_getElem? (i := 983) (by decide +kernel), List.mem_of_getElem? (i := 1414) (by decide +kernel), List.mem_of_getElem? (i := 1415) (by decide +kernel)⟩
theorem lw_p68 : lw_okq (⟨"DividingHeadModel", "stepsTo", "(JJZ)I"⟩, 43) := ⟨⟨by decide +kernel, by decide +kernel⟩, List.mem_of_getElem? (i := 983) (by decide +kernel), List.mem_of_getElem? (i := 1427) (by decide +kernel), List.mem_of_getElem? (i := 1428) (by decide +kernel)⟩
theorem lw_p69 : lw_okq (⟨"DividingHeadModel", "usesOne", "(I)I"⟩, 43) := ⟨⟨by decide +kernel, by decide +kernel⟩, List.mem_of_getElem? (i := 983) (by decide +kernel), List.mem_of_getElem? (i := 1445) (by decide +kernel), List.mem_of_getElem? (i := 1446) (by decide +kernel)⟩
theorem lw_p70 : lw_okq (⟨"DividingHeadModel", "gearedOne", "(IIIII)I"⟩, 43) := ⟨⟨by decide +kernel, by decide +kernel⟩, List.mem_of_getElem? (i := 983) (by decide +kernel), List.mem_of_getElem? (i := 1453) (by decide +kernel), List.mem_of_getElem? (i := 1454) (by decide +kernel)⟩
theorem lw_p71 : lw_okq (⟨"DividingHeadModel", "isGear", "(I)Z"⟩, 43) := ⟨⟨by decide +kernel, by decide +kernel⟩, List.mem_of_getElem? (i := 983) (by decide +kernel), List.mem_of_getElem? (i := 1457) (by decide +kernel), List.mem_of_getElem? (i := 1458) (by decide +kernel)⟩
theorem lw_p72 : lw_okq (⟨"DividingHeadModel", "ungearedOne", "()I"⟩, 43) := ⟨⟨by decide +kernel, by decide +kernel⟩, List.mem_of_getElem? (i := 983) (by decide +kernel), List.mem_of_getElem? (i := 1465) (by decide +kernel), List.mem_of_getElem? (i := 1466) (by decide +kernel)⟩
theorem lw_p73 : lw_okq (⟨"DividingHeadModel", "turnsOne", "(III)I"⟩, 43) := ⟨⟨by decide +kernel, by decide +kernel⟩, List.mem_of_getElem? (i := 983) (by decide +kernel), List.mem_of_getElem? (i := 1473) (by decide +kernel), List.mem_of_getElem? (i := 1474) (by decide +kernel)⟩
theorem lw_p74 : lw_okq (⟨"DividingHeadModel", "goesBy", "(IJ)I"⟩, 43) := ⟨⟨by decide +kernel, by decide +kernel⟩, List.mem_of_getElem? (i := 983) (by decide +kernel), List.mem_of_getElem? (i := 1478) (by decide +kernel), List.mem_of_getElem? (i := 1479) (by decide +kernel)⟩
theorem lw_p75 : lw_okq (⟨"DividingHeadModel", "laysNext", "(IJ)Z"⟩, 43) := ⟨⟨by decide +kernel, by decide +kernel⟩, List.mem_of_getElem? (i := 983) (by decide +kernel), List.mem_of_getElem? (i := 1482) (by decide +kernel), List.mem_of_getElem? (i := 1483) (by decide +kernel)⟩
theorem lw_p76 : lw_okq (⟨"DividingHeadModel", "laysStep", "(I)V"⟩, 43) := ⟨⟨by decide +kernel, by decide +kernel⟩, List.mem_of_getElem? (i := 983) (by decide +kernel), List.mem_of_getElem? (i := 1486) (by decide +kernel), List.mem_of_getElem? (i := 1487) (by decide +kernel)⟩
theorem lw_p77 : lw_okq (⟨"DividingHeadModel", "trainLower", "()J"⟩, 43) := ⟨⟨by decide +kernel, by decide +kernel⟩, List.mem_of_getElem? (i := 983) (by decide +kernel), List.mem_of_getElem? (i := 1490) (by decide +kernel), List.mem_of_getElem? (i := 1491) (by decide +kernel)⟩
theorem lw_p78 : lw_okq (⟨"DividingHeadModel", "trainUpper", "()J"⟩, 43) := ⟨⟨by decide +kernel, by decide +kernel⟩, List.mem_of_getElem? (i := 983) (by decide +kernel), List.mem_of_getElem? (i := 1494) (by decide +kernel), List.mem_of_getElem? (i := 1495) (by decide +kernel)⟩
theorem lw_p79 : lw_okq (⟨"DividingHeadModel", "cutsOne", "()I"⟩, 43) := ⟨⟨by decide +kernel, by decide +kernel⟩, List.mem_of_getElem? (i := 983) (by decide +kernel), List.mem_of_getElem? (i := 1504) (by decide +kernel), List.mem_of_getElem? (i := 1505) (by decide +kernel)⟩
def lw_privs_5 : List (MethodName × Nat) := [(⟨"DividingHeadModel", "entersNear", "()V"⟩, 43), (⟨"DividingHeadModel", "entersPart", "(JJ)V"⟩, 43), (⟨"DividingHeadModel", "sorts", "()V"⟩, 43), (⟨"DividingHeadModel", "sinks", "(II)V"⟩, 43), (⟨"DividingHeadModel", "stepsTo", "(JJZ)I"⟩, 43), (⟨"DividingHeadModel", "usesOne", "(I)I"⟩, 43), (⟨"DividingHeadModel", "gearedOne", "(IIIII)I"⟩, 43), (⟨"DividingHeadModel", "isGear", "(I)Z"⟩, 43), (⟨"DividingHeadModel", "ungearedOne", "()I"⟩, 43), (⟨"DividingHeadModel", "turnsOne", "(III)I"⟩, 43), (⟨"DividingHeadModel", "goesBy", "(IJ)I"⟩, 43), (⟨"DividingHeadModel", "laysNext", "(IJ)Z"⟩, 43), (⟨"DividingHeadModel", "laysStep", "(I)V"⟩, 43), (⟨"DividingHeadModel", "trainLower", "()J"⟩, 43), (⟨"DividingHeadModel", "trainUpper", "()J"⟩, 43), (⟨"DividingHeadModel", "cutsOne", "()I"⟩, 43)]
theorem lw_r5 : ∀ q ∈ lw_privs_5, lw_okq q := List.forall_mem_cons.mpr ⟨lw_p64, List.forall_mem_cons.mpr ⟨lw_p65, List.forall_mem_cons.mpr ⟨lw_p66, List.forall_mem_cons.mpr ⟨lw_p67, List.forall_mem_cons.mpr ⟨lw_p68, List.forall_mem_cons.mpr ⟨lw_p69, List.forall_mem_cons.mpr ⟨lw_p70, List.forall_mem_cons.mpr ⟨lw_p71, List.forall_mem_cons.mpr ⟨lw_p72, List.forall_mem_cons.mpr ⟨lw_p73, List.forall_mem_cons.mpr ⟨lw_p74, List.forall_mem_cons.mpr ⟨lw_p75, List.forall_mem_cons.mpr ⟨lw_p76, List.forall_mem_cons.mpr ⟨lw_p77, List.forall_mem_cons.mpr ⟨lw_p78, List.forall_mem_cons.mpr ⟨lw_p79, fun _ h => absurd h List.not_mem_nil⟩⟩⟩⟩⟩⟩⟩⟩⟩⟩⟩⟩⟩⟩⟩⟩
theorem lw_p80 : lw_okq (⟨"DividingHeadModel", "markAt", "(JJ)I"⟩, 43) := ⟨⟨by decide +kernel, by decide +kernel⟩, List.mem_of_getElem? (i := 983) (by decide +kernel), List.mem_of_getElem? (i := 1508) (by decide +kernel), List.mem_of_getElem? (i := 1509) (by decide +kernel)⟩
theorem lw_p81 : lw_okq (⟨"DividingHeadModel", "marks", "()I"⟩, 43) := ⟨⟨by decide +kernel, by decide +kernel⟩, List.mem_of_getElem? (i := 983) (by decide +kernel), List.mem_of_getElem? (i := 1512) (by decide +kernel), List.mem_of_getElem? (i := 1513) (by decide +kernel)⟩
theorem lw_p82 : lw_okq (⟨"DividingHeadModel", "markUp", "(I)J"⟩, 43) := ⟨⟨by decide +kernel, by decide +kernel⟩, List.mem_of_getElem? (i := 983) (by decide +kernel), List.mem_of_getElem? (i := 1516) (by decide +kernel), List.mem_of_getElem? (i := 1517) (by decide +kernel)⟩
theorem lw_p83 : lw_okq (⟨"DividingHeadModel", "markLow", "(I)J"⟩, 43) := ⟨⟨by decide +kernel, by decide +kernel⟩, List.mem_of_getElem? (i := 983) (by decide +kernel), List.mem_of_getElem? (i := 1520) (by decide +kernel), List.mem_of_getElem? (i := 1521) (by decide +kernel)⟩
theorem lw_p84 : lw_okq (⟨"DividingHeadModel", "wipesOne", "()I"⟩, 43) := ⟨⟨by decide +kernel, by decide +kernel⟩, List.mem_of_getElem? (i := 983) (by decide +kernel), List.mem_of_getElem? (i := 1528) (by decide +kernel), List.mem_of_getElem? (i := 1529) (by decide +kernel)⟩
theorem lw_p85 : lw_okq (⟨"DividingHeadModel", "hasWay", "(II)Z"⟩, 43) := ⟨⟨by decide +kernel, by decide +kernel⟩, List.mem_of_getElem? (i := 983) (by decide +kernel), List.mem_of_getElem? (i := 1537) (by decide +kernel), List.mem_of_getElem? (i := 1538) (by decide +kernel)⟩
theorem lw_p86 : lw_okq (⟨"DividingHeadModel", "stepsBy", "(II)V"⟩, 43) := ⟨⟨by decide +kernel, by decide +kernel⟩, List.mem_of_getElem? (i := 983) (by decide +kernel), List.mem_of_getElem? (i := 1541) (by decide +kernel), List.mem_of_getElem? (i := 1542) (by decide +kernel)⟩
theorem lw_p87 : lw_okq (⟨"DividingHeadModel", "laysGaps", "()I"⟩, 43) := ⟨⟨by decide +kernel, by decide +kernel⟩, List.mem_of_getElem? (i := 983) (by decide +kernel), List.mem_of_getElem? (i := 1545) (by decide +kernel), List.mem_of_getElem? (i := 1546) (by decide +kernel)⟩
theorem lw_p88 : lw_okq (⟨"DividingHeadModel", "laysGap", "(I)V"⟩, 43) := ⟨⟨by decide +kernel, by decide +kernel⟩, List.mem_of_getElem? (i := 983) (by decide +kernel), List.mem_of_getElem? (i := 1549) (by decide +kernel), List.mem_of_getElem? (i := 1550) (by decide +kernel)⟩
theorem lw_p89 : lw_okq (⟨"DividingHeadModel", "readsAct", "(I)Z"⟩, 43) := ⟨⟨by decide +kernel, by decide +kernel⟩, List.mem_of_getElem? (i := 983) (by decide +kernel), List.mem_of_getElem? (i := 1576) (by decide +kernel), List.mem_of_getElem? (i := 1577) (by decide +kernel)⟩
theorem lw_p90 : lw_okq (⟨"DividingHeadModel", "doesAct", "(I)I"⟩, 43) := ⟨⟨by decide +kernel, by decide +kernel⟩, List.mem_of_getElem? (i := 983) (by decide +kernel), List.mem_of_getElem? (i := 1582) (by decide +kernel), List.mem_of_getElem? (i := 1583) (by decide +kernel)⟩
theorem lw_p91 : lw_okq (⟨"DividingHeadModel", "draws", "(I)I"⟩, 43) := ⟨⟨by decide +kernel, by decide +kernel⟩, List.mem_of_getElem? (i := 983) (by decide +kernel), List.mem_of_getElem? (i := 1591) (by decide +kernel), List.mem_of_getElem? (i := 1592) (by decide +kernel)⟩
def lw_privs_6 : List (MethodName × Nat) := [(⟨"DividingHeadModel", "markAt", "(JJ)I"⟩, 43), (⟨"DividingHeadModel", "marks", "()I"⟩, 43), (⟨"DividingHeadModel", "markUp", "(I)J"⟩, 43), (⟨"DividingHeadModel", "markLow", "(I)J"⟩, 43), (⟨"DividingHeadModel", "wipesOne", "()I"⟩, 43), (⟨"DividingHeadModel", "hasWay", "(II)Z"⟩, 43), (⟨"DividingHeadModel", "stepsBy", "(II)V"⟩, 43), (⟨"DividingHeadModel", "laysGaps", "()I"⟩, 43), (⟨"DividingHeadModel", "laysGap", "(I)V"⟩, 43), (⟨"DividingHeadModel", "readsAct", "(I)Z"⟩, 43), (⟨"DividingHeadModel", "doesAct", "(I)I"⟩, 43), (⟨"DividingHeadModel", "draws", "(I)I"⟩, 43)]
theorem lw_r6 : ∀ q ∈ lw_privs_6, lw_okq q := List.forall_mem_cons.mpr ⟨lw_p80, List.forall_mem_cons.mpr ⟨lw_p81, List.forall_mem_cons.mpr ⟨lw_p82, List.forall_mem_cons.mpr ⟨lw_p83, List.forall_mem_cons.mpr ⟨lw_p84, List.forall_mem_cons.mpr ⟨lw_p85, List.forall_mem_cons.mpr ⟨lw_p86, List.forall_mem_cons.mpr ⟨lw_p87, List.forall_mem_cons.mpr ⟨lw_p88, List.forall_mem_cons.mpr ⟨lw_p89, List.forall_mem_cons.mpr ⟨lw_p90, List.forall_mem_cons.mpr ⟨lw_p91, fun _ h => absurd h List.not_mem_nil⟩⟩⟩⟩⟩⟩⟩⟩⟩⟩⟩⟩
def lw_privs : List (MethodName × Nat) := lw_privs_1 ++ (lw_privs_2 ++ (lw_privs_3 ++ (lw_privs_4 ++ (lw_privs_5 ++ (lw_privs_6)))))
def lw_tbl : List Cond := k2_sels lw_privs ++ tables_1
theorem lw_privs_ok : ∀ q ∈ lw_privs, lw_okq q := by
  show ∀ q ∈ lw_privs_1 ++ (lw_privs_2 ++ (lw_privs_3 ++ (lw_privs_4 ++ (lw_privs_5 ++ (lw_privs_6))))), lw_okq q
  exact List.forall_mem_append.mpr ⟨lw_r1, List.forall_mem_append.mpr ⟨lw_r2, List.forall_mem_append.mpr ⟨lw_r3, List.forall_mem_append.mpr ⟨lw_r4, List.forall_mem_append.mpr ⟨lw_r5, lw_r6⟩⟩⟩⟩⟩
def RX0 : String := "DividingHead$CompoundWay"
def TX0 : u_T := fun k => match k with
  | 0 => ("DividingHead$CompoundWay", "sum", "I", false)
  | 1 => ("DividingHead$CompoundWay", "first", "I", false)
  | 2 => ("DividingHead$CompoundWay", "second", "I", false)
  | 3 => ("DividingHead$CompoundWay", "turns", "I", false)
  | 4 => ("DividingHead$CompoundWay", "a", "I", false)
  | _ => ("DividingHead$CompoundWay", "b", "I", false)
def tyX0 : Nat → FieldType := fun k => match k with
  | 0 => .int
  | 1 => .int
  | 2 => .int
  | 3 => .int
  | 4 => .int
  | _ => .int
theorem nmX0 : ∀ a, a < 6 → ∀ b, b < 6 → a ≠ b → (TX0 a).2.1 ≠ (TX0 b).2.1 := by decide +kernel
theorem tyX0_ok : ∀ k, k < 6 → parseFieldDescriptor (TX0 k).2.2.1 = some (tyX0 k) := by decide +kernel
abbrev cX0_init : ByteArray := prog_2_method_1_code
def yX0_init : MethodName := ⟨RX0, "<init>", "()V"⟩
abbrev cX0_look : ByteArray := prog_2_method_2_code
def yX0_look : MethodName := ⟨RX0, "look", "(LDividingHead$Head;I)V"⟩
abbrev cX0_tryPair : ByteArray := prog_2_method_3_code
def yX0_tryPair : MethodName := ⟨RX0, "tryPair", "(LDividingHead$Head;III)V"⟩
abbrev cX0_offer : ByteArray := prog_2_method_4_code
def yX0_offer : MethodName := ⟨RX0, "offer", "(III)Z"⟩
abbrev cX0_take : ByteArray := prog_2_method_5_code
def yX0_take : MethodName := ⟨RX0, "take", "(III)Z"⟩
def RX1 : String := "DividingHead$DifferentialWay"
def TX1 : u_T := fun k => match k with
  | 0 => ("DividingHead$DifferentialWay", "nearWay", "LDividingHead$SimpleWay;", true)
  | 1 => ("DividingHead$DifferentialWay", "number", "I", false)
  | 2 => ("DividingHead$DifferentialWay", "entry", "I", false)
  | _ => ("DividingHead$DifferentialWay", "side", "I", false)
def tyX1 : Nat → FieldType := fun k => match k with
  | 0 => .object "DividingHead$SimpleWay"
  | 1 => .int
  | 2 => .int
  | _ => .int
theorem nmX1 : ∀ a, a < 4 → ∀ b, b < 4 → a ≠ b → (TX1 a).2.1 ≠ (TX1 b).2.1 := by decide +kernel
theorem tyX1_ok : ∀ k, k < 4 → parseFieldDescriptor (TX1 k).2.2.1 = some (tyX1 k) := by decide +kernel
abbrev cX1_init : ByteArray := prog_3_method_1_code
def yX1_init : MethodName := ⟨RX1, "<init>", "()V"⟩
abbrev cX1_look : ByteArray := prog_3_method_2_code
def yX1_look : MethodName := ⟨RX1, "look", "(LDividingHead$Head;LDividingHead$Shelf;I)V"⟩
abbrev cX1_tryNumber : ByteArray := prog_3_method_3_code
def yX1_tryNumber : MethodName := ⟨RX1, "tryNumber", "(LDividingHead$Head;LDividingHead$Shelf;III)V"⟩
def RX2 : String := "DividingHead$Fraction"
def TX2 : u_T := fun k => match k with
  | 0 => ("DividingHead$Fraction", "up", "J", false)
  | _ => ("DividingHead$Fraction", "low", "J", false)
def tyX2 : Nat → FieldType := fun k => match k with
  | 0 => .long
  | _ => .long
theorem nmX2 : ∀ a, a < 2 → ∀ b, b < 2 → a ≠ b → (TX2 a).2.1 ≠ (TX2 b).2.1 := by decide +kernel
theorem tyX2_ok : ∀ k, k < 2 → parseFieldDescriptor (TX2 k).2.2.1 = some (tyX2 k) := by decide +kernel
abbrev cX2_init : ByteArray := prog_4_method_1_code
def yX2_init : MethodName := ⟨RX2, "<init>", "()V"⟩
abbrev cX2_put : ByteArray := prog_4_method_2_code
def yX2_put : MethodName := ⟨RX2, "put", "(JJ)V"⟩
abbrev cX2_copyFrom : ByteArray := prog_4_method_3_code
def yX2_copyFrom : MethodName := ⟨RX2, "copyFrom", "(LDividingHead$Fraction;)V"⟩
def RX3 : String := "DividingHead$GapList"
def TX3 : u_T := fun k => match k with
  | 0 => ("DividingHead$GapList", "kinds", "I", false)
  | 1 => ("DividingHead$GapList", "gap", "LDividingHead$Fraction;", true)
  | 2 => ("DividingHead$GapList", "ups", "[J", true)
  | _ => ("DividingHead$GapList", "lows", "[J", true)
def tyX3 : Nat → FieldType := fun k => match k with
  | 0 => .int
  | 1 => .object "DividingHead$Fraction"
  | 2 => .array .long
  | _ => .array .long
theorem nmX3 : ∀ a, a < 4 → ∀ b, b < 4 → a ≠ b → (TX3 a).2.1 ≠ (TX3 b).2.1 := by decide +kernel
theorem tyX3_ok : ∀ k, k < 4 → parseFieldDescriptor (TX3 k).2.2.1 = some (tyX3 k) := by decide +kernel
abbrev cX3_init : ByteArray := prog_5_method_1_code
def yX3_init : MethodName := ⟨RX3, "<init>", "()V"⟩
abbrev cX3_look : ByteArray := prog_5_method_2_code
def yX3_look : MethodName := ⟨RX3, "look", "(LDividingHead$Head;)V"⟩
abbrev cX3_holdsGap : ByteArray := prog_5_method_3_code
def yX3_holdsGap : MethodName := ⟨RX3, "holdsGap", "()Z"⟩
abbrev cX3_tellExtreme : ByteArray := prog_5_method_4_code
def yX3_tellExtreme : MethodName := ⟨RX3, "tellExtreme", "(LDividingHead$Told;I)V"⟩
def RX4 : String := "DividingHead$Head"
def TX4 : u_T := fun k => match k with
  | 0 => ("DividingHead$Head", "worm", "I", false)
  | 1 => ("DividingHead$Head", "pitch", "I", false)
  | 2 => ("DividingHead$Head", "plateTotal", "I", false)
  | 3 => ("DividingHead$Head", "circleTotal", "I", false)
  | 4 => ("DividingHead$Head", "gearTotal", "I", false)
  | 5 => ("DividingHead$Head", "onCircle", "I", false)
  | 6 => ("DividingHead$Head", "wheelTotal", "I", false)
  | 7 => ("DividingHead$Head", "markTotal", "I", false)
  | 8 => ("DividingHead$Head", "ratio", "LDividingHead$Fraction;", true)
  | 9 => ("DividingHead$Head", "place", "LDividingHead$Fraction;", true)
  | 10 => ("DividingHead$Head", "next", "LDividingHead$Fraction;", true)
  | 11 => ("DividingHead$Head", "holes", "[I", true)
  | 12 => ("DividingHead$Head", "plateNumbers", "[I", true)
  | 13 => ("DividingHead$Head", "teeth", "[I", true)
  | 14 => ("DividingHead$Head", "markUps", "[J", true)
  | 15 => ("DividingHead$Head", "markLows", "[J", true)
  | _ => ("DividingHead$Head", "side", "I", false)
def tyX4 : Nat → FieldType := fun k => match k with
  | 0 => .int
  | 1 => .int
  | 2 => .int
  | 3 => .int
  | 4 => .int
  | 5 => .int
  | 6 => .int
  | 7 => .int
  | 8 => .object "DividingHead$Fraction"
  | 9 => .object "DividingHead$Fraction"
  | 10 => .object "DividingHead$Fraction"
  | 11 => .array .int
  | 12 => .array .int
  | 13 => .array .int
  | 14 => .array .long
  | 15 => .array .long
  | _ => .int
theorem nmX4 : ∀ a, a < 17 → ∀ b, b < 17 → a ≠ b → (TX4 a).2.1 ≠ (TX4 b).2.1 := by decide +kernel
theorem tyX4_ok : ∀ k, k < 17 → parseFieldDescriptor (TX4 k).2.2.1 = some (tyX4 k) := by decide +kernel
abbrev cX4_init : ByteArray := prog_6_method_1_code
def yX4_init : MethodName := ⟨RX4, "<init>", "()V"⟩
abbrev cX4_fillAtFirst : ByteArray := prog_6_method_2_code
def yX4_fillAtFirst : MethodName := ⟨RX4, "fillAtFirst", "()V"⟩
abbrev cX4_copyFrom : ByteArray := prog_6_method_3_code
def yX4_copyFrom : MethodName := ⟨RX4, "copyFrom", "(LDividingHead$Head;)V"⟩
abbrev cX4_dropPlates : ByteArray := prog_6_method_4_code
def yX4_dropPlates : MethodName := ⟨RX4, "dropPlates", "()V"⟩
abbrev cX4_addCircle : ByteArray := prog_6_method_5_code
def yX4_addCircle : MethodName := ⟨RX4, "addCircle", "(I)V"⟩
abbrev cX4_addGear : ByteArray := prog_6_method_6_code
def yX4_addGear : MethodName := ⟨RX4, "addGear", "(I)V"⟩
abbrev cX4_atFirst : ByteArray := prog_6_method_7_code
def yX4_atFirst : MethodName := ⟨RX4, "atFirst", "()V"⟩
abbrev cX4_isCircle : ByteArray := prog_6_method_8_code
def yX4_isCircle : MethodName := ⟨RX4, "isCircle", "(I)Z"⟩
abbrev cX4_isGear : ByteArray := prog_6_method_9_code
def yX4_isGear : MethodName := ⟨RX4, "isGear", "(I)Z"⟩
abbrev cX4_isMark : ByteArray := prog_6_method_10_code
def yX4_isMark : MethodName := ⟨RX4, "isMark", "(I)Z"⟩
abbrev cX4_holesOf : ByteArray := prog_6_method_11_code
def yX4_holesOf : MethodName := ⟨RX4, "holesOf", "(I)I"⟩
abbrev cX4_plateOf : ByteArray := prog_6_method_12_code
def yX4_plateOf : MethodName := ⟨RX4, "plateOf", "(I)I"⟩
abbrev cX4_teethOf : ByteArray := prog_6_method_13_code
def yX4_teethOf : MethodName := ⟨RX4, "teethOf", "(I)I"⟩
abbrev cX4_markUp : ByteArray := prog_6_method_14_code
def yX4_markUp : MethodName := ⟨RX4, "markUp", "(I)J"⟩
abbrev cX4_markLow : ByteArray := prog_6_method_15_code
def yX4_markLow : MethodName := ⟨RX4, "markLow", "(I)J"⟩
abbrev cX4_setTo : ByteArray := prog_6_method_16_code
def yX4_setTo : MethodName := ⟨RX4, "setTo", "(II)I"⟩
abbrev cX4_choose : ByteArray := prog_6_method_17_code
def yX4_choose : MethodName := ⟨RX4, "choose", "(I)I"⟩
abbrev cX4_putIn : ByteArray := prog_6_method_18_code
def yX4_putIn : MethodName := ⟨RX4, "putIn", "(IIIII)I"⟩
abbrev cX4_isPair : ByteArray := prog_6_method_19_code
def yX4_isPair : MethodName := ⟨RX4, "isPair", "(II)Z"⟩
abbrev cX4_takeOut : ByteArray := prog_6_method_20_code
def yX4_takeOut : MethodName := ⟨RX4, "takeOut", "()I"⟩
abbrev cX4_wind : ByteArray := prog_6_method_21_code
def yX4_wind : MethodName := ⟨RX4, "wind", "(III)I"⟩
abbrev cX4_stepOfHole : ByteArray := prog_6_method_22_code
def yX4_stepOfHole : MethodName := ⟨RX4, "stepOfHole", "(LDividingHead$Fraction;)V"⟩
abbrev cX4_scribe : ByteArray := prog_6_method_23_code
def yX4_scribe : MethodName := ⟨RX4, "scribe", "()I"⟩
abbrev cX4_compareMark : ByteArray := prog_6_method_24_code
def yX4_compareMark : MethodName := ⟨RX4, "compareMark", "(I)I"⟩
abbrev cX4_wipeAll : ByteArray := prog_6_method_25_code
def yX4_wipeAll : MethodName := ⟨RX4, "wipeAll", "()I"⟩
abbrev cX4_gapBehind : ByteArray := prog_6_method_26_code
def yX4_gapBehind : MethodName := ⟨RX4, "gapBehind", "(ILDividingHead$Fraction;)V"⟩
abbrev cX4_wayToMark : ByteArray := prog_6_method_27_code
def yX4_wayToMark : MethodName := ⟨RX4, "wayToMark", "(ILDividingHead$Fraction;)V"⟩
def RX5 : String := "DividingHead$Shelf"
def TX5 : u_T := fun k => match k with
  | 0 => ("DividingHead$Shelf", "size", "I", false)
  | 1 => ("DividingHead$Shelf", "gearTotal", "I", false)
  | 2 => ("DividingHead$Shelf", "teeth", "[I", true)
  | 3 => ("DividingHead$Shelf", "ups", "[I", true)
  | 4 => ("DividingHead$Shelf", "lows", "[I", true)
  | 5 => ("DividingHead$Shelf", "wheels", "[I", true)
  | _ => ("DividingHead$Shelf", "slots", "[I", true)
def tyX5 : Nat → FieldType := fun k => match k with
  | 0 => .int
  | 1 => .int
  | 2 => .array .int
  | 3 => .array .int
  | 4 => .array .int
  | 5 => .array .int
  | _ => .array .int
theorem nmX5 : ∀ a, a < 7 → ∀ b, b < 7 → a ≠ b → (TX5 a).2.1 ≠ (TX5 b).2.1 := by decide +kernel
theorem tyX5_ok : ∀ k, k < 7 → parseFieldDescriptor (TX5 k).2.2.1 = some (tyX5 k) := by decide +kernel
abbrev cX5_init : ByteArray := prog_7_method_1_code
def yX5_init : MethodName := ⟨RX5, "<init>", "()V"⟩
abbrev cX5_fit : ByteArray := prog_7_method_2_code
def yX5_fit : MethodName := ⟨RX5, "fit", "(LDividingHead$Head;)V"⟩
abbrev cX5_tooth : ByteArray := prog_7_method_3_code
def yX5_tooth : MethodName := ⟨RX5, "tooth", "(I)I"⟩
abbrev cX5_addTwos : ByteArray := prog_7_method_4_code
def yX5_addTwos : MethodName := ⟨RX5, "addTwos", "()V"⟩
abbrev cX5_addFours : ByteArray := prog_7_method_5_code
def yX5_addFours : MethodName := ⟨RX5, "addFours", "()V"⟩
abbrev cX5_pack : ByteArray := prog_7_method_6_code
def yX5_pack : MethodName := ⟨RX5, "pack", "(IIII)I"⟩
abbrev cX5_add : ByteArray := prog_7_method_7_code
def yX5_add : MethodName := ⟨RX5, "add", "(III)V"⟩
abbrev cX5_slotOf : ByteArray := prog_7_method_8_code
def yX5_slotOf : MethodName := ⟨RX5, "slotOf", "(II)I"⟩
abbrev cX5_find : ByteArray := prog_7_method_9_code
def yX5_find : MethodName := ⟨RX5, "find", "(JJ)I"⟩
abbrev cX5_up : ByteArray := prog_7_method_10_code
def yX5_up : MethodName := ⟨RX5, "up", "(I)I"⟩
abbrev cX5_low : ByteArray := prog_7_method_11_code
def yX5_low : MethodName := ⟨RX5, "low", "(I)I"⟩
abbrev cX5_wheel : ByteArray := prog_7_method_12_code
def yX5_wheel : MethodName := ⟨RX5, "wheel", "(II)I"⟩
abbrev cX5_wheelTotal : ByteArray := prog_7_method_13_code
def yX5_wheelTotal : MethodName := ⟨RX5, "wheelTotal", "(I)I"⟩
abbrev cX5_upper : ByteArray := prog_7_method_14_code
def yX5_upper : MethodName := ⟨RX5, "upper", "(JI)J"⟩
abbrev cX5_lower : ByteArray := prog_7_method_15_code
def yX5_lower : MethodName := ⟨RX5, "lower", "(JI)J"⟩
abbrev cX5_closest : ByteArray := prog_7_method_16_code
def yX5_closest : MethodName := ⟨RX5, "closest", "(JJJ)I"⟩
abbrev cX5_extreme : ByteArray := prog_7_method_17_code
def yX5_extreme : MethodName := ⟨RX5, "extreme", "(I)I"⟩
def RX6 : String := "DividingHead$SimpleWay"
def TX6 : u_T := fun k => match k with
  | 0 => ("DividingHead$SimpleWay", "many", "I", false)
  | 1 => ("DividingHead$SimpleWay", "first", "I", false)
  | 2 => ("DividingHead$SimpleWay", "turns", "I", false)
  | _ => ("DividingHead$SimpleWay", "holes", "I", false)
def tyX6 : Nat → FieldType := fun k => match k with
  | 0 => .int
  | 1 => .int
  | 2 => .int
  | _ => .int
theorem nmX6 : ∀ a, a < 4 → ∀ b, b < 4 → a ≠ b → (TX6 a).2.1 ≠ (TX6 b).2.1 := by decide +kernel
theorem tyX6_ok : ∀ k, k < 4 → parseFieldDescriptor (TX6 k).2.2.1 = some (tyX6 k) := by decide +kernel
abbrev cX6_init : ByteArray := prog_8_method_1_code
def yX6_init : MethodName := ⟨RX6, "<init>", "()V"⟩
abbrev cX6_look : ByteArray := prog_8_method_2_code
def yX6_look : MethodName := ⟨RX6, "look", "(LDividingHead$Head;I)V"⟩
def RX7 : String := "DividingHead$Text"
def TX7 : u_T := fun k => match k with
  | 0 => ("DividingHead$Text", "signs", "[C", true)
  | _ => ("DividingHead$Text", "size", "I", false)
def tyX7 : Nat → FieldType := fun k => match k with
  | 0 => .array .char
  | _ => .int
theorem nmX7 : ∀ a, a < 2 → ∀ b, b < 2 → a ≠ b → (TX7 a).2.1 ≠ (TX7 b).2.1 := by decide +kernel
theorem tyX7_ok : ∀ k, k < 2 → parseFieldDescriptor (TX7 k).2.2.1 = some (tyX7 k) := by decide +kernel
abbrev cX7_init : ByteArray := prog_9_method_1_code
def yX7_init : MethodName := ⟨RX7, "<init>", "()V"⟩
abbrev cX7_addFour : ByteArray := prog_9_method_2_code
def yX7_addFour : MethodName := ⟨RX7, "addFour", "(I)Z"⟩
abbrev cX7_at : ByteArray := prog_9_method_3_code
def yX7_at : MethodName := ⟨RX7, "at", "(I)I"⟩
abbrev cX7_isDigit : ByteArray := prog_9_method_4_code
def yX7_isDigit : MethodName := ⟨RX7, "isDigit", "(I)Z"⟩
abbrev cX7_firstNoDigit : ByteArray := prog_9_method_5_code
def yX7_firstNoDigit : MethodName := ⟨RX7, "firstNoDigit", "(II)I"⟩
abbrev cX7_number : ByteArray := prog_9_method_6_code
def yX7_number : MethodName := ⟨RX7, "number", "(II)I"⟩
def RX8 : String := "DividingHead$Told"
def TX8 : u_T := fun k => match k with
  | 0 => ("DividingHead$Told", "numbers", "[J", true)
  | _ => ("DividingHead$Told", "size", "I", false)
def tyX8 : Nat → FieldType := fun k => match k with
  | 0 => .array .long
  | _ => .int
theorem nmX8 : ∀ a, a < 2 → ∀ b, b < 2 → a ≠ b → (TX8 a).2.1 ≠ (TX8 b).2.1 := by decide +kernel
theorem tyX8_ok : ∀ k, k < 2 → parseFieldDescriptor (TX8 k).2.2.1 = some (tyX8 k) := by decide +kernel
abbrev cX8_init : ByteArray := prog_10_method_1_code
def yX8_init : MethodName := ⟨RX8, "<init>", "()V"⟩
abbrev cX8_clear : ByteArray := prog_10_method_2_code
def yX8_clear : MethodName := ⟨RX8, "clear", "()V"⟩
abbrev cX8_add : ByteArray := prog_10_method_3_code
def yX8_add : MethodName := ⟨RX8, "add", "(J)V"⟩
abbrev cX8_addFraction : ByteArray := prog_10_method_4_code
def yX8_addFraction : MethodName := ⟨RX8, "addFraction", "(LDividingHead$Fraction;)V"⟩
abbrev cX8_number : ByteArray := prog_10_method_5_code
def yX8_number : MethodName := ⟨RX8, "number", "(I)J"⟩
def RX9 : String := "DividingHead"
def TX9 : u_T := fun k => match k with
  | 0 => ("DividingHead", "text", "LDividingHead$Text;", true)
  | 1 => ("DividingHead", "told", "LDividingHead$Told;", true)
  | 2 => ("DividingHead", "simpleWay", "LDividingHead$SimpleWay;", true)
  | 3 => ("DividingHead", "compoundWay", "LDividingHead$CompoundWay;", true)
  | 4 => ("DividingHead", "differentialWay", "LDividingHead$DifferentialWay;", true)
  | 5 => ("DividingHead", "gapList", "LDividingHead$GapList;", true)
  | 6 => ("DividingHead", "found", "LDividingHead$Fraction;", true)
  | 7 => ("DividingHead", "off", "LDividingHead$Fraction;", true)
  | 8 => ("DividingHead", "past", "[LDividingHead$Head;", true)
  | 9 => ("DividingHead", "kept", "[LDividingHead$Head;", true)
  | 10 => ("DividingHead", "pastTotal", "I", false)
  | 11 => ("DividingHead", "drawn", "I", false)
  | 12 => ("DividingHead", "now", "LDividingHead$Head;", false)
  | 13 => ("DividingHead", "trial", "LDividingHead$Head;", false)
  | _ => ("DividingHead", "shelf", "LDividingHead$Shelf;", false)
def tyX9 : Nat → FieldType := fun k => match k with
  | 0 => .object "DividingHead$Text"
  | 1 => .object "DividingHead$Told"
  | 2 => .object "DividingHead$SimpleWay"
  | 3 => .object "DividingHead$CompoundWay"
  | 4 => .object "DividingHead$DifferentialWay"
  | 5 => .object "DividingHead$GapList"
  | 6 => .object "DividingHead$Fraction"
  | 7 => .object "DividingHead$Fraction"
  | 8 => .array (.object "DividingHead$Head")
  | 9 => .array (.object "DividingHead$Head")
  | 10 => .int
  | 11 => .int
  | 12 => .object "DividingHead$Head"
  | 13 => .object "DividingHead$Head"
  | _ => .object "DividingHead$Shelf"
theorem nmX9 : ∀ a, a < 15 → ∀ b, b < 15 → a ≠ b → (TX9 a).2.1 ≠ (TX9 b).2.1 := by decide +kernel
theorem tyX9_ok : ∀ k, k < 15 → parseFieldDescriptor (TX9 k).2.2.1 = some (tyX9 k) := by decide +kernel
abbrev cX9_init : ByteArray := prog_1_method_1_code
def yX9_init : MethodName := ⟨RX9, "<init>", "()V"⟩
abbrev cX9_sign : ByteArray := prog_1_method_2_code
def yX9_sign : MethodName := ⟨RX9, "sign", "(I)I"⟩
abbrev cX9_end : ByteArray := prog_1_method_3_code
def yX9_end : MethodName := ⟨RX9, "end", "(I)Z"⟩
abbrev cX9_plates : ByteArray := prog_1_method_4_code
def yX9_plates : MethodName := ⟨RX9, "plates", "()I"⟩
abbrev cX9_gears : ByteArray := prog_1_method_5_code
def yX9_gears : MethodName := ⟨RX9, "gears", "()I"⟩
abbrev cX9_readPlates : ByteArray := prog_1_method_6_code
def yX9_readPlates : MethodName := ⟨RX9, "readPlates", "()I"⟩
abbrev cX9_readGears : ByteArray := prog_1_method_7_code
def yX9_readGears : MethodName := ⟨RX9, "readGears", "()I"⟩
abbrev cX9_sets : ByteArray := prog_1_method_8_code
def yX9_sets : MethodName := ⟨RX9, "sets", "(II)I"⟩
abbrev cX9_circle : ByteArray := prog_1_method_9_code
def yX9_circle : MethodName := ⟨RX9, "circle", "(I)I"⟩
abbrev cX9_gear : ByteArray := prog_1_method_10_code
def yX9_gear : MethodName := ⟨RX9, "gear", "(I)I"⟩
abbrev cX9_simple : ByteArray := prog_1_method_11_code
def yX9_simple : MethodName := ⟨RX9, "simple", "(I)I"⟩
abbrev cX9_compound : ByteArray := prog_1_method_12_code
def yX9_compound : MethodName := ⟨RX9, "compound", "(I)I"⟩
abbrev cX9_differential : ByteArray := prog_1_method_13_code
def yX9_differential : MethodName := ⟨RX9, "differential", "(I)I"⟩
abbrev cX9_ways : ByteArray := prog_1_method_14_code
def yX9_ways : MethodName := ⟨RX9, "ways", "(I)I"⟩
abbrev cX9_hard : ByteArray := prog_1_method_15_code
def yX9_hard : MethodName := ⟨RX9, "hard", "(II)I"⟩
abbrev cX9_isParts : ByteArray := prog_1_method_16_code
def yX9_isParts : MethodName := ⟨RX9, "isParts", "(I)Z"⟩
abbrev cX9_hasWay : ByteArray := prog_1_method_17_code
def yX9_hasWay : MethodName := ⟨RX9, "hasWay", "(II)Z"⟩
abbrev cX9_fittedShelf : ByteArray := prog_1_method_18_code
def yX9_fittedShelf : MethodName := ⟨RX9, "fittedShelf", "()LDividingHead$Shelf;"⟩
abbrev cX9_train : ByteArray := prog_1_method_19_code
def yX9_train : MethodName := ⟨RX9, "train", "(II)I"⟩
abbrev cX9_nearest : ByteArray := prog_1_method_20_code
def yX9_nearest : MethodName := ⟨RX9, "nearest", "(II)I"⟩
abbrev cX9_ratios : ByteArray := prog_1_method_21_code
def yX9_ratios : MethodName := ⟨RX9, "ratios", "()I"⟩
abbrev cX9_lead : ByteArray := prog_1_method_22_code
def yX9_lead : MethodName := ⟨RX9, "lead", "(I)I"⟩
abbrev cX9_tellClosest : ByteArray := prog_1_method_23_code
def yX9_tellClosest : MethodName := ⟨RX9, "tellClosest", "(JJJ)I"⟩
abbrev cX9_tellWheels : ByteArray := prog_1_method_24_code
def yX9_tellWheels : MethodName := ⟨RX9, "tellWheels", "(LDividingHead$Shelf;I)I"⟩
abbrev cX9_near : ByteArray := prog_1_method_25_code
def yX9_near : MethodName := ⟨RX9, "near", "(III)I"⟩
abbrev cX9_findNear : ByteArray := prog_1_method_26_code
def yX9_findNear : MethodName := ⟨RX9, "findNear", "(JJI)V"⟩
abbrev cX9_treeSteps : ByteArray := prog_1_method_27_code
def yX9_treeSteps : MethodName := ⟨RX9, "treeSteps", "(JJ)I"⟩
abbrev cX9_tree : ByteArray := prog_1_method_28_code
def yX9_tree : MethodName := ⟨RX9, "tree", "(II)I"⟩
abbrev cX9_angle : ByteArray := prog_1_method_29_code
def yX9_angle : MethodName := ⟨RX9, "angle", "(I)I"⟩
abbrev cX9_tellAngle : ByteArray := prog_1_method_30_code
def yX9_tellAngle : MethodName := ⟨RX9, "tellAngle", "(IJ)V"⟩
abbrev cX9_uses : ByteArray := prog_1_method_31_code
def yX9_uses : MethodName := ⟨RX9, "uses", "(I)I"⟩
abbrev cX9_geared : ByteArray := prog_1_method_32_code
def yX9_geared : MethodName := ⟨RX9, "geared", "(IIIII)I"⟩
abbrev cX9_ungeared : ByteArray := prog_1_method_33_code
def yX9_ungeared : MethodName := ⟨RX9, "ungeared", "()I"⟩
abbrev cX9_cranks : ByteArray := prog_1_method_34_code
def yX9_cranks : MethodName := ⟨RX9, "cranks", "(III)I"⟩
abbrev cX9_cuts : ByteArray := prog_1_method_35_code
def yX9_cuts : MethodName := ⟨RX9, "cuts", "()I"⟩
abbrev cX9_wipes : ByteArray := prog_1_method_36_code
def yX9_wipes : MethodName := ⟨RX9, "wipes", "()I"⟩
abbrev cX9_divides : ByteArray := prog_1_method_37_code
def yX9_divides : MethodName := ⟨RX9, "divides", "(II)I"⟩
abbrev cX9_putInDifferential : ByteArray := prog_1_method_38_code
def yX9_putInDifferential : MethodName := ⟨RX9, "putInDifferential", "()V"⟩
abbrev cX9_windWay : ByteArray := prog_1_method_39_code
def yX9_windWay : MethodName := ⟨RX9, "windWay", "(I)V"⟩
abbrev cX9_mark : ByteArray := prog_1_method_40_code
def yX9_mark : MethodName := ⟨RX9, "mark", "(I)I"⟩
abbrev cX9_gaps : ByteArray := prog_1_method_41_code
def yX9_gaps : MethodName := ⟨RX9, "gaps", "()I"⟩
abbrev cX9_missing : ByteArray := prog_1_method_42_code
def yX9_missing : MethodName := ⟨RX9, "missing", "(I)I"⟩
abbrev cX9_reaches : ByteArray := prog_1_method_43_code
def yX9_reaches : MethodName := ⟨RX9, "reaches", "()I"⟩
abbrev cX9_day : ByteArray := prog_1_method_44_code
def yX9_day : MethodName := ⟨RX9, "day", "()I"⟩
abbrev cX9_firstWrongOfDay : ByteArray := prog_1_method_45_code
def yX9_firstWrongOfDay : MethodName := ⟨RX9, "firstWrongOfDay", "()I"⟩
abbrev cX9_lengthOfAct : ByteArray := prog_1_method_46_code
def yX9_lengthOfAct : MethodName := ⟨RX9, "lengthOfAct", "(I)I"⟩
abbrev cX9_doAct : ByteArray := prog_1_method_47_code
def yX9_doAct : MethodName := ⟨RX9, "doAct", "(I)I"⟩
abbrev cX9_undo : ByteArray := prog_1_method_48_code
def yX9_undo : MethodName := ⟨RX9, "undo", "()I"⟩
abbrev cX9_adopt : ByteArray := prog_1_method_49_code
def yX9_adopt : MethodName := ⟨RX9, "adopt", "(I)I"⟩
abbrev cX9_years : ByteArray := prog_1_method_50_code
def yX9_years : MethodName := ⟨RX9, "years", "(II)I"⟩
abbrev cX9_draw : ByteArray := prog_1_method_51_code
def yX9_draw : MethodName := ⟨RX9, "draw", "(I)I"⟩
abbrev cX9_keep : ByteArray := prog_1_method_52_code
def yX9_keep : MethodName := ⟨RX9, "keep", "(I)Z"⟩
abbrev cX9_again : ByteArray := prog_1_method_53_code
def yX9_again : MethodName := ⟨RX9, "again", "(I)Z"⟩
abbrev cX9_count : ByteArray := prog_1_method_54_code
def yX9_count : MethodName := ⟨RX9, "count", "(I)I"⟩
abbrev cX9_row : ByteArray := prog_1_method_55_code
def yX9_row : MethodName := ⟨RX9, "row", "(I)J"⟩
abbrev cX9_isBetween : ByteArray := prog_1_method_56_code
def yX9_isBetween : MethodName := ⟨RX9, "isBetween", "(III)Z"⟩
abbrev cX9_common : ByteArray := prog_1_method_57_code
def yX9_common : MethodName := ⟨RX9, "common", "(JJ)J"⟩
abbrev cX9_compareFractions : ByteArray := prog_1_method_58_code
def yX9_compareFractions : MethodName := ⟨RX9, "compareFractions", "(JJJJ)I"⟩
abbrev cX9_inverse : ByteArray := prog_1_method_59_code
def yX9_inverse : MethodName := ⟨RX9, "inverse", "(JJ)J"⟩
def RX10 : String := "DividingHeadModel"
def TX10 : u_T := fun k => match k with
  | 0 => ("DividingHeadModel", "thrown", "I", false)
  | 1 => ("DividingHeadModel", "told", "I", false)
  | 2 => ("DividingHeadModel", "row", "[J", true)
  | 3 => ("DividingHeadModel", "tape", "[I", true)
  | 4 => ("DividingHeadModel", "taped", "I", false)
  | 5 => ("DividingHeadModel", "at", "I", false)
  | 6 => ("DividingHeadModel", "to", "I", false)
  | 7 => ("DividingHeadModel", "mem", "[I", true)
  | 8 => ("DividingHeadModel", "part", "[J", true)
  | 9 => ("DividingHeadModel", "undos", "I", false)
  | 10 => ("DividingHeadModel", "firstHoles", "[I", true)
  | 11 => ("DividingHeadModel", "firstTeeth", "[I", true)
  | 12 => ("DividingHeadModel", "one", "I", false)
  | 13 => ("DividingHeadModel", "other", "I", false)
  | 14 => ("DividingHeadModel", "fullTurns", "I", false)
  | 15 => ("DividingHeadModel", "oneHoles", "I", false)
  | 16 => ("DividingHeadModel", "otherHoles", "I", false)
  | 17 => ("DividingHeadModel", "gear", "[I", true)
  | 18 => ("DividingHeadModel", "geared", "I", false)
  | 19 => ("DividingHeadModel", "found", "[I", true)
  | 20 => ("DividingHeadModel", "foundMany", "I", false)
  | 21 => ("DividingHeadModel", "nearParts", "I", false)
  | 22 => ("DividingHeadModel", "side", "I", false)
  | 23 => ("DividingHeadModel", "nearUpper", "J", false)
  | 24 => ("DividingHeadModel", "nearLower", "J", false)
  | 25 => ("DividingHeadModel", "offUpper", "J", false)
  | 26 => ("DividingHeadModel", "offLower", "J", false)
  | 27 => ("DividingHeadModel", "ratio", "[J", true)
  | 28 => ("DividingHeadModel", "ratios", "I", false)
  | 29 => ("DividingHeadModel", "stepUpper", "J", false)
  | 30 => ("DividingHeadModel", "stepLower", "J", false)
  | 31 => ("DividingHeadModel", "nextUpper", "J", false)
  | 32 => ("DividingHeadModel", "nextLower", "J", false)
  | 33 => ("DividingHeadModel", "gapUp", "J", false)
  | 34 => ("DividingHeadModel", "gapLow", "J", false)
  | 35 => ("DividingHeadModel", "gap", "[J", true)
  | 36 => ("DividingHeadModel", "aim", "[J", true)
  | 37 => ("DividingHeadModel", "act", "[I", true)
  | 38 => ("DividingHeadModel", "first", "[I", true)
  | 39 => ("DividingHeadModel", "second", "[I", true)
  | 40 => ("DividingHeadModel", "third", "[I", true)
  | 41 => ("DividingHeadModel", "random", "I", false)
  | _ => ("DividingHeadModel", "isKept", "[Z", true)
def tyX10 : Nat → FieldType := fun k => match k with
  | 0 => .int
  | 1 => .int
  | 2 => .array .long
  | 3 => .array .int
  | 4 => .int
  | 5 => .int
  | 6 => .int
  | 7 => .array .int
  | 8 => .array .long
  | 9 => .int
  | 10 => .array .int
  | 11 => .array .int
  | 12 => .int
  | 13 => .int
  | 14 => .int
  | 15 => .int
  | 16 => .int
  | 17 => .array .int
  | 18 => .int
  | 19 => .array .int
  | 20 => .int
  | 21 => .int
  | 22 => .int
  | 23 => .long
  | 24 => .long
  | 25 => .long
  | 26 => .long
  | 27 => .array .long
  | 28 => .int
  | 29 => .long
  | 30 => .long
  | 31 => .long
  | 32 => .long
  | 33 => .long
  | 34 => .long
  | 35 => .array .long
  | 36 => .array .long
  | 37 => .array .int
  | 38 => .array .int
  | 39 => .array .int
  | 40 => .array .int
  | 41 => .int
  | _ => .array .boolean
theorem nmX10 : ∀ a, a < 43 → ∀ b, b < 43 → a ≠ b → (TX10 a).2.1 ≠ (TX10 b).2.1 := by decide +kernel
theorem tyX10_ok : ∀ k, k < 43 → parseFieldDescriptor (TX10 k).2.2.1 = some (tyX10 k) := by decide +kernel
abbrev cX10_thrown : ByteArray := prog_12_method_1_code
def yX10_thrown : MethodName := ⟨RX10, "thrown", "()I"⟩
abbrev cX10_in : ByteArray := prog_12_method_2_code
def yX10_in : MethodName := ⟨RX10, "in", "(JJJ)Z"⟩
abbrev cX10_flag : ByteArray := prog_12_method_3_code
def yX10_flag : MethodName := ⟨RX10, "flag", "(Z)I"⟩
abbrev cX10_common : ByteArray := prog_12_method_4_code
def yX10_common : MethodName := ⟨RX10, "common", "(JJ)J"⟩
abbrev cX10_enters : ByteArray := prog_12_method_5_code
def yX10_enters : MethodName := ⟨RX10, "enters", "(J)V"⟩
abbrev cX10_entersPart : ByteArray := prog_12_method_6_code
def yX10_entersPart : MethodName := ⟨RX10, "entersPart", "(JJ)V"⟩
abbrev cX10_sign : ByteArray := prog_12_method_7_code
def yX10_sign : MethodName := ⟨RX10, "sign", "(I)I"⟩
abbrev cX10_end : ByteArray := prog_12_method_8_code
def yX10_end : MethodName := ⟨RX10, "end", "(I)Z"⟩
abbrev cX10_reads : ByteArray := prog_12_method_9_code
def yX10_reads : MethodName := ⟨RX10, "reads", "()V"⟩
abbrev cX10_takes : ByteArray := prog_12_method_10_code
def yX10_takes : MethodName := ⟨RX10, "takes", "(C)Z"⟩
abbrev cX10_takesOf : ByteArray := prog_12_method_11_code
def yX10_takesOf : MethodName := ⟨RX10, "takesOf", "(Ljava/lang/String;)I"⟩
abbrev cX10_digit : ByteArray := prog_12_method_12_code
def yX10_digit : MethodName := ⟨RX10, "digit", "()I"⟩
abbrev cX10_two : ByteArray := prog_12_method_13_code
def yX10_two : MethodName := ⟨RX10, "two", "()I"⟩
abbrev cX10_init : ByteArray := prog_12_method_14_code
def yX10_init : MethodName := ⟨RX10, "<init>", "()V"⟩
abbrev cX10_begins : ByteArray := prog_12_method_15_code
def yX10_begins : MethodName := ⟨RX10, "begins", "(I)V"⟩
abbrev cX10_copies : ByteArray := prog_12_method_16_code
def yX10_copies : MethodName := ⟨RX10, "copies", "(II)V"⟩
abbrev cX10_done : ByteArray := prog_12_method_17_code
def yX10_done : MethodName := ⟨RX10, "done", "(I)I"⟩
abbrev cX10_undo : ByteArray := prog_12_method_18_code
def yX10_undo : MethodName := ⟨RX10, "undo", "()I"⟩
abbrev cX10_worm : ByteArray := prog_12_method_19_code
def yX10_worm : MethodName := ⟨RX10, "worm", "()I"⟩
abbrev cX10_circles : ByteArray := prog_12_method_20_code
def yX10_circles : MethodName := ⟨RX10, "circles", "()I"⟩
abbrev cX10_holes : ByteArray := prog_12_method_21_code
def yX10_holes : MethodName := ⟨RX10, "holes", "(I)I"⟩
abbrev cX10_gearMany : ByteArray := prog_12_method_22_code
def yX10_gearMany : MethodName := ⟨RX10, "gearMany", "()I"⟩
abbrev cX10_teeth : ByteArray := prog_12_method_23_code
def yX10_teeth : MethodName := ⟨RX10, "teeth", "(I)I"⟩
abbrev cX10_readsPlate : ByteArray := prog_12_method_24_code
def yX10_readsPlate : MethodName := ⟨RX10, "readsPlate", "(I)Z"⟩
abbrev cX10_plates : ByteArray := prog_12_method_25_code
def yX10_plates : MethodName := ⟨RX10, "plates", "()I"⟩
abbrev cX10_circlesOf : ByteArray := prog_12_method_26_code
def yX10_circlesOf : MethodName := ⟨RX10, "circlesOf", "(I)I"⟩
abbrev cX10_putsRead : ByteArray := prog_12_method_27_code
def yX10_putsRead : MethodName := ⟨RX10, "putsRead", "(I)I"⟩
abbrev cX10_gears : ByteArray := prog_12_method_28_code
def yX10_gears : MethodName := ⟨RX10, "gears", "()I"⟩
abbrev cX10_sets : ByteArray := prog_12_method_29_code
def yX10_sets : MethodName := ⟨RX10, "sets", "(II)I"⟩
abbrev cX10_circle : ByteArray := prog_12_method_30_code
def yX10_circle : MethodName := ⟨RX10, "circle", "(I)I"⟩
abbrev cX10_gear : ByteArray := prog_12_method_31_code
def yX10_gear : MethodName := ⟨RX10, "gear", "(I)I"⟩
abbrev cX10_hasSimple : ByteArray := prog_12_method_32_code
def yX10_hasSimple : MethodName := ⟨RX10, "hasSimple", "(II)Z"⟩
abbrev cX10_firstSimple : ByteArray := prog_12_method_33_code
def yX10_firstSimple : MethodName := ⟨RX10, "firstSimple", "(I)I"⟩
abbrev cX10_isNumber : ByteArray := prog_12_method_34_code
def yX10_isNumber : MethodName := ⟨RX10, "isNumber", "(I)Z"⟩
abbrev cX10_allHoles : ByteArray := prog_12_method_35_code
def yX10_allHoles : MethodName := ⟨RX10, "allHoles", "(II)I"⟩
abbrev cX10_simple : ByteArray := prog_12_method_36_code
def yX10_simple : MethodName := ⟨RX10, "simple", "(I)I"⟩
abbrev cX10_size : ByteArray := prog_12_method_37_code
def yX10_size : MethodName := ⟨RX10, "size", "(I)I"⟩
abbrev cX10_looksAt : ByteArray := prog_12_method_38_code
def yX10_looksAt : MethodName := ⟨RX10, "looksAt", "(IIII)I"⟩
abbrev cX10_findsCompound : ByteArray := prog_12_method_39_code
def yX10_findsCompound : MethodName := ⟨RX10, "findsCompound", "(I)I"⟩
abbrev cX10_compound : ByteArray := prog_12_method_40_code
def yX10_compound : MethodName := ⟨RX10, "compound", "(I)I"⟩
abbrev cX10_isUnlike : ByteArray := prog_12_method_41_code
def yX10_isUnlike : MethodName := ⟨RX10, "isUnlike", "(I)Z"⟩
abbrev cX10_goesOn : ByteArray := prog_12_method_42_code
def yX10_goesOn : MethodName := ⟨RX10, "goesOn", "(I)Z"⟩
abbrev cX10_startsTrains : ByteArray := prog_12_method_43_code
def yX10_startsTrains : MethodName := ⟨RX10, "startsTrains", "(I)V"⟩
abbrev cX10_nextTrain : ByteArray := prog_12_method_44_code
def yX10_nextTrain : MethodName := ⟨RX10, "nextTrain", "()Z"⟩
abbrev cX10_beginsFour : ByteArray := prog_12_method_45_code
def yX10_beginsFour : MethodName := ⟨RX10, "beginsFour", "()Z"⟩
abbrev cX10_upper : ByteArray := prog_12_method_46_code
def yX10_upper : MethodName := ⟨RX10, "upper", "()J"⟩
abbrev cX10_lower : ByteArray := prog_12_method_47_code
def yX10_lower : MethodName := ⟨RX10, "lower", "()J"⟩
abbrev cX10_finds : ByteArray := prog_12_method_48_code
def yX10_finds : MethodName := ⟨RX10, "finds", "()V"⟩
abbrev cX10_findsTrain : ByteArray := prog_12_method_49_code
def yX10_findsTrain : MethodName := ⟨RX10, "findsTrain", "(JJ)Z"⟩
abbrev cX10_isDifferential : ByteArray := prog_12_method_50_code
def yX10_isDifferential : MethodName := ⟨RX10, "isDifferential", "(II)Z"⟩
abbrev cX10_findsDifferential : ByteArray := prog_12_method_51_code
def yX10_findsDifferential : MethodName := ⟨RX10, "findsDifferential", "(I)Z"⟩
abbrev cX10_differential : ByteArray := prog_12_method_52_code
def yX10_differential : MethodName := ⟨RX10, "differential", "(I)I"⟩
abbrev cX10_waysOf : ByteArray := prog_12_method_53_code
def yX10_waysOf : MethodName := ⟨RX10, "waysOf", "(I)I"⟩
abbrev cX10_ways : ByteArray := prog_12_method_54_code
def yX10_ways : MethodName := ⟨RX10, "ways", "(I)I"⟩
abbrev cX10_hard : ByteArray := prog_12_method_55_code
def yX10_hard : MethodName := ⟨RX10, "hard", "(II)I"⟩
abbrev cX10_isRatio : ByteArray := prog_12_method_56_code
def yX10_isRatio : MethodName := ⟨RX10, "isRatio", "(II)Z"⟩
abbrev cX10_entersFound : ByteArray := prog_12_method_57_code
def yX10_entersFound : MethodName := ⟨RX10, "entersFound", "()V"⟩
abbrev cX10_train : ByteArray := prog_12_method_58_code
def yX10_train : MethodName := ⟨RX10, "train", "(II)I"⟩
abbrev cX10_isNearer : ByteArray := prog_12_method_59_code
def yX10_isNearer : MethodName := ⟨RX10, "isNearer", "(JJJJ)Z"⟩
abbrev cX10_entersNear : ByteArray := prog_12_method_60_code
def yX10_entersNear : MethodName := ⟨RX10, "entersNear", "()V"⟩
abbrev cX10_findsNearest : ByteArray := prog_12_method_61_code
def yX10_findsNearest : MethodName := ⟨RX10, "findsNearest", "(JJJ)Z"⟩
abbrev cX10_nearest : ByteArray := prog_12_method_62_code
def yX10_nearest : MethodName := ⟨RX10, "nearest", "(II)I"⟩
abbrev cX10_lead : ByteArray := prog_12_method_63_code
def yX10_lead : MethodName := ⟨RX10, "lead", "(I)I"⟩
abbrev cX10_sinks : ByteArray := prog_12_method_64_code
def yX10_sinks : MethodName := ⟨RX10, "sinks", "(II)V"⟩
abbrev cX10_sorts : ByteArray := prog_12_method_65_code
def yX10_sorts : MethodName := ⟨RX10, "sorts", "()V"⟩
abbrev cX10_ratios : ByteArray := prog_12_method_66_code
def yX10_ratios : MethodName := ⟨RX10, "ratios", "()I"⟩
abbrev cX10_isLess : ByteArray := prog_12_method_67_code
def yX10_isLess : MethodName := ⟨RX10, "isLess", "(JJ)Z"⟩
abbrev cX10_stepsTo : ByteArray := prog_12_method_68_code
def yX10_stepsTo : MethodName := ⟨RX10, "stepsTo", "(JJZ)I"⟩
abbrev cX10_near : ByteArray := prog_12_method_69_code
def yX10_near : MethodName := ⟨RX10, "near", "(III)I"⟩
abbrev cX10_tree : ByteArray := prog_12_method_70_code
def yX10_tree : MethodName := ⟨RX10, "tree", "(II)I"⟩
abbrev cX10_angle : ByteArray := prog_12_method_71_code
def yX10_angle : MethodName := ⟨RX10, "angle", "(I)I"⟩
abbrev cX10_usesOne : ByteArray := prog_12_method_72_code
def yX10_usesOne : MethodName := ⟨RX10, "usesOne", "(I)I"⟩
abbrev cX10_uses : ByteArray := prog_12_method_73_code
def yX10_uses : MethodName := ⟨RX10, "uses", "(I)I"⟩
abbrev cX10_isGear : ByteArray := prog_12_method_74_code
def yX10_isGear : MethodName := ⟨RX10, "isGear", "(I)Z"⟩
abbrev cX10_trainUpper : ByteArray := prog_12_method_75_code
def yX10_trainUpper : MethodName := ⟨RX10, "trainUpper", "()J"⟩
abbrev cX10_trainLower : ByteArray := prog_12_method_76_code
def yX10_trainLower : MethodName := ⟨RX10, "trainLower", "()J"⟩
abbrev cX10_gearedOne : ByteArray := prog_12_method_77_code
def yX10_gearedOne : MethodName := ⟨RX10, "gearedOne", "(IIIII)I"⟩
abbrev cX10_geared : ByteArray := prog_12_method_78_code
def yX10_geared : MethodName := ⟨RX10, "geared", "(IIIII)I"⟩
abbrev cX10_ungearedOne : ByteArray := prog_12_method_79_code
def yX10_ungearedOne : MethodName := ⟨RX10, "ungearedOne", "()I"⟩
abbrev cX10_ungeared : ByteArray := prog_12_method_80_code
def yX10_ungeared : MethodName := ⟨RX10, "ungeared", "()I"⟩
abbrev cX10_laysStep : ByteArray := prog_12_method_81_code
def yX10_laysStep : MethodName := ⟨RX10, "laysStep", "(I)V"⟩
abbrev cX10_laysNext : ByteArray := prog_12_method_82_code
def yX10_laysNext : MethodName := ⟨RX10, "laysNext", "(IJ)Z"⟩
abbrev cX10_goesBy : ByteArray := prog_12_method_83_code
def yX10_goesBy : MethodName := ⟨RX10, "goesBy", "(IJ)I"⟩
abbrev cX10_turnsOne : ByteArray := prog_12_method_84_code
def yX10_turnsOne : MethodName := ⟨RX10, "turnsOne", "(III)I"⟩
abbrev cX10_cranks : ByteArray := prog_12_method_85_code
def yX10_cranks : MethodName := ⟨RX10, "cranks", "(III)I"⟩
abbrev cX10_marks : ByteArray := prog_12_method_86_code
def yX10_marks : MethodName := ⟨RX10, "marks", "()I"⟩
abbrev cX10_markUp : ByteArray := prog_12_method_87_code
def yX10_markUp : MethodName := ⟨RX10, "markUp", "(I)J"⟩
abbrev cX10_markLow : ByteArray := prog_12_method_88_code
def yX10_markLow : MethodName := ⟨RX10, "markLow", "(I)J"⟩
abbrev cX10_markAt : ByteArray := prog_12_method_89_code
def yX10_markAt : MethodName := ⟨RX10, "markAt", "(JJ)I"⟩
abbrev cX10_cutsOne : ByteArray := prog_12_method_90_code
def yX10_cutsOne : MethodName := ⟨RX10, "cutsOne", "()I"⟩
abbrev cX10_cuts : ByteArray := prog_12_method_91_code
def yX10_cuts : MethodName := ⟨RX10, "cuts", "()I"⟩
abbrev cX10_wipesOne : ByteArray := prog_12_method_92_code
def yX10_wipesOne : MethodName := ⟨RX10, "wipesOne", "()I"⟩
abbrev cX10_wipes : ByteArray := prog_12_method_93_code
def yX10_wipes : MethodName := ⟨RX10, "wipes", "()I"⟩
abbrev cX10_hasWay : ByteArray := prog_12_method_94_code
def yX10_hasWay : MethodName := ⟨RX10, "hasWay", "(II)Z"⟩
abbrev cX10_stepsBy : ByteArray := prog_12_method_95_code
def yX10_stepsBy : MethodName := ⟨RX10, "stepsBy", "(II)V"⟩
abbrev cX10_divides : ByteArray := prog_12_method_96_code
def yX10_divides : MethodName := ⟨RX10, "divides", "(II)I"⟩
abbrev cX10_laysGap : ByteArray := prog_12_method_97_code
def yX10_laysGap : MethodName := ⟨RX10, "laysGap", "(I)V"⟩
abbrev cX10_mark : ByteArray := prog_12_method_98_code
def yX10_mark : MethodName := ⟨RX10, "mark", "(I)I"⟩
abbrev cX10_isBelow : ByteArray := prog_12_method_99_code
def yX10_isBelow : MethodName := ⟨RX10, "isBelow", "(JJJJ)Z"⟩
abbrev cX10_laysGaps : ByteArray := prog_12_method_100_code
def yX10_laysGaps : MethodName := ⟨RX10, "laysGaps", "()I"⟩
abbrev cX10_gaps : ByteArray := prog_12_method_101_code
def yX10_gaps : MethodName := ⟨RX10, "gaps", "()I"⟩
abbrev cX10_missing : ByteArray := prog_12_method_102_code
def yX10_missing : MethodName := ⟨RX10, "missing", "(I)I"⟩
abbrev cX10_reaches : ByteArray := prog_12_method_103_code
def yX10_reaches : MethodName := ⟨RX10, "reaches", "()I"⟩
abbrev cX10_readsAct : ByteArray := prog_12_method_104_code
def yX10_readsAct : MethodName := ⟨RX10, "readsAct", "(I)Z"⟩
abbrev cX10_doesAct : ByteArray := prog_12_method_105_code
def yX10_doesAct : MethodName := ⟨RX10, "doesAct", "(I)I"⟩
abbrev cX10_day : ByteArray := prog_12_method_106_code
def yX10_day : MethodName := ⟨RX10, "day", "()I"⟩
abbrev cX10_draws : ByteArray := prog_12_method_107_code
def yX10_draws : MethodName := ⟨RX10, "draws", "(I)I"⟩
abbrev cX10_years : ByteArray := prog_12_method_108_code
def yX10_years : MethodName := ⟨RX10, "years", "(II)I"⟩
abbrev cX10_keep : ByteArray := prog_12_method_109_code
def yX10_keep : MethodName := ⟨RX10, "keep", "(I)Z"⟩
abbrev cX10_again : ByteArray := prog_12_method_110_code
def yX10_again : MethodName := ⟨RX10, "again", "(I)Z"⟩
abbrev cX10_count : ByteArray := prog_12_method_111_code
def yX10_count : MethodName := ⟨RX10, "count", "(I)I"⟩
abbrev cX10_row : ByteArray := prog_12_method_112_code
def yX10_row : MethodName := ⟨RX10, "row", "(I)J"⟩
def RJ6 : String := "java/lang/Integer"
def TJ6 : u_T := fun k => match k with
  | _ => ("", "", "", false)
def tyJ6 : Nat → FieldType := fun k => match k with
  | _ => .int
theorem nmJ6 : ∀ a, a < 0 → ∀ b, b < 0 → a ≠ b → (TJ6 a).2.1 ≠ (TJ6 b).2.1 := by decide +kernel
theorem tyJ6_ok : ∀ k, k < 0 → parseFieldDescriptor (TJ6 k).2.2.1 = some (tyJ6 k) := by decide +kernel
abbrev cJ6_bitCount_0f7a4 : ByteArray := prog_17_method_49_code
def yJ6_bitCount_0f7a4 : MethodName := ⟨RJ6, "bitCount", "(I)I"⟩
def RJ13 : String := "java/lang/Long"
def TJ13 : u_T := fun k => match k with
  | _ => ("", "", "", false)
def tyJ13 : Nat → FieldType := fun k => match k with
  | _ => .int
theorem nmJ13 : ∀ a, a < 0 → ∀ b, b < 0 → a ≠ b → (TJ13 a).2.1 ≠ (TJ13 b).2.1 := by decide +kernel
theorem tyJ13_ok : ∀ k, k < 0 → parseFieldDescriptor (TJ13 k).2.2.1 = some (tyJ13 k) := by decide +kernel
abbrev cJ13_compare_74951 : ByteArray := prog_18_method_42_code
def yJ13_compare_74951 : MethodName := ⟨RJ13, "compare", "(JJ)I"⟩
def RJ9 : String := "java/lang/Math"
def TJ9 : u_T := fun k => match k with
  | _ => ("", "", "", false)
def tyJ9 : Nat → FieldType := fun k => match k with
  | _ => .int
theorem nmJ9 : ∀ a, a < 0 → ∀ b, b < 0 → a ≠ b → (TJ9 a).2.1 ≠ (TJ9 b).2.1 := by decide +kernel
theorem tyJ9_ok : ∀ k, k < 0 → parseFieldDescriptor (TJ9 k).2.2.1 = some (tyJ9 k) := by decide +kernel
abbrev cJ9_floorDiv_7cf53 : ByteArray := prog_19_method_47_code
def yJ9_floorDiv_7cf53 : MethodName := ⟨RJ9, "floorDiv", "(II)I"⟩
abbrev cJ9_floorMod_7cf53 : ByteArray := prog_19_method_50_code
def yJ9_floorMod_7cf53 : MethodName := ⟨RJ9, "floorMod", "(II)I"⟩
abbrev cJ9_floorMod_f86c9 : ByteArray := prog_19_method_52_code
def yJ9_floorMod_f86c9 : MethodName := ⟨RJ9, "floorMod", "(JJ)J"⟩
abbrev cJ9_abs_0f7a4 : ByteArray := prog_19_method_59_code
def yJ9_abs_0f7a4 : MethodName := ⟨RJ9, "abs", "(I)I"⟩
abbrev cJ9_abs_067f4 : ByteArray := prog_19_method_61_code
def yJ9_abs_067f4 : MethodName := ⟨RJ9, "abs", "(J)J"⟩
def RJ7 : String := "java/util/Arrays"
def TJ7 : u_T := fun k => match k with
  | _ => ("", "", "", false)
def tyJ7 : Nat → FieldType := fun k => match k with
  | _ => .int
theorem nmJ7 : ∀ a, a < 0 → ∀ b, b < 0 → a ≠ b → (TJ7 a).2.1 ≠ (TJ7 b).2.1 := by decide +kernel
theorem tyJ7_ok : ∀ k, k < 0 → parseFieldDescriptor (TJ7 k).2.2.1 = some (tyJ7 k) := by decide +kernel
abbrev cJ7_fill_53178 : ByteArray := prog_28_method_103_code
def yJ7_fill_53178 : MethodName := ⟨RJ7, "fill", "([II)V"⟩
def RL : String := "DividingHeadLaw"
abbrev cL_circle : ByteArray := method_3_code
def yL_circle : MethodName := ⟨RL, "circle", "(LDividingHead;I[J)I"⟩
abbrev cL_gear : ByteArray := method_4_code
def yL_gear : MethodName := ⟨RL, "gear", "(LDividingHead;I[J)I"⟩
abbrev cL_row : ByteArray := method_5_code
def yL_row : MethodName := ⟨RL, "row", "(LDividingHead;I[J)I"⟩
abbrev cL_law : ByteArray := code
def yL_law : MethodName := ⟨RL, "law", "([I)Z"⟩
abbrev vwCl : List vw_C := [(RX0, TX0, 6), (RX1, TX1, 4), (RX2, TX2, 2), (RX3, TX3, 4), (RX4, TX4, 17), (RX5, TX5, 7), (RX6, TX6, 4), (RX7, TX7, 2), (RX8, TX8, 2), (RX9, TX9, 15), (RX10, TX10, 43)]
abbrev ftyT : List (List Nat) := [[0, 0, 0, 0, 0, 0], [2, 0, 0, 0], [1, 1], [0, 2, 2, 2], [0, 0, 0, 0, 0, 0, 0, 0, 2, 2, 2, 2, 2, 2, 2, 2, 0], [0, 0, 2, 2, 2, 2, 2], [0, 0, 0, 0], [2, 0], [2, 0], [2, 2, 2, 2, 2, 2, 2, 2, 2, 2, 0, 0, 2, 2, 2], [0, 0, 2, 2, 0, 0, 0, 2, 2, 0, 2, 2, 0, 0, 0, 0, 0, 2, 0, 2, 0, 0, 0, 1, 1, 1, 1, 2, 0, 1, 1, 1, 1, 1, 1, 2, 2, 2, 2, 2, 2, 0, 2]]
/-- the kind of a field: 0 int, 1 long, 2 a reference -/
def fty (c k : Nat) : Nat := (ftyT.getD c []).getD k 0
def tyF (c : Nat) : Nat → FieldType := match c with
  | 0 => tyX0
  | 1 => tyX1
  | 2 => tyX2
  | 3 => tyX3
  | 4 => tyX4
  | 5 => tyX5
  | 6 => tyX6
  | 7 => tyX7
  | 8 => tyX8
  | 9 => tyX9
  | _ => tyX10
def gwd : List Cond := lw_tbl.filter goodWord
theorem inG {w : Cond} (i : Nat) (h : lw_tbl[i]? = some w) (g : goodWord w = true) : w ∈ gwd := List.mem_filter.mpr ⟨List.mem_of_getElem? h, g⟩
theorem gwd_good : ∀ w ∈ gwd, (w.onTables && w.keeps) = true ∨ ∃ ty, w = .arrayClass ty := fun w h => good_of_word (List.mem_filter.mp h).2
theorem uwX0 : ∀ w ∈ u_ws RX0 TX0 6, w ∈ gwd := by
  intro w hw
  obtain ⟨k, hk, rfl⟩ := List.mem_map.mp hw
  have hk := List.mem_range.mp hk
  match k, hk with
  | 0, _ => exact inG 197 (by decide +kernel) rfl
  | 1, _ => exact inG 199 (by decide +kernel) rfl
  | 2, _ => exact inG 201 (by decide +kernel) rfl
  | 3, _ => exact inG 203 (by decide +kernel) rfl
  | 4, _ => exact inG 205 (by decide +kernel) rfl
  | 5, _ => exact inG 207 (by decide +kernel) rfl
  | k + 6, hk => omega
theorem uwX1 : ∀ w ∈ u_ws RX1 TX1 4, w ∈ gwd := by
  intro w hw
  obtain ⟨k, hk, rfl⟩ := List.mem_map.mp hw
  have hk := List.mem_range.mp hk
  match k, hk with
  | 0, _ => exact inG 226 (by decide +kernel) rfl
  | 1, _ => exact inG 228 (by decide +kernel) rfl
  | 2, _ => exact inG 230 (by decide +kernel) rfl
  | 3, _ => exact inG 232 (by decide +kernel) rfl
  | k + 4, hk => omega
theorem uwX2 : ∀ w ∈ u_ws RX2 TX2 2, w ∈ gwd := by
  intro w hw
  obtain ⟨k, hk, rfl⟩ := List.mem_map.mp hw
  have hk := List.mem_range.mp hk
  match k, hk with
  | 0, _ => exact inG 257 (by decide +kernel) rfl
  | 1, _ => exact inG 259 (by decide +kernel) rfl
  | k + 2, hk => omega
theorem uwX3 : ∀ w ∈ u_ws RX3 TX3 4, w ∈ gwd := by
  intro w hw
  obtain ⟨k, hk, rfl⟩ := List.mem_map.mp hw
  have hk := List.mem_range.mp hk
  match k, hk with
  | 0, _ => exact inG 267 (by decide +kernel) rfl
  | 1, _ => exact inG 269 (by decide +kernel) rfl
  | 2, _ => exact inG 271 (by decide +kernel) rfl
  | 3, _ => exact inG 273 (by decide +kernel) rfl
  | k + 4, hk => omega
theorem uwX4 : ∀ w ∈ u_ws RX4 TX4 17, w ∈ gwd := by
  intro w hw
  obtain ⟨k, hk, rfl⟩ := List.mem_map.mp hw
  have hk := List.mem_range.mp hk
  match k, hk with
  | 0, _ => exact inG 321 (by decide +kernel) rfl
  | 1, _ => exact inG 323 (by decide +kernel) rfl
  | 2, _ => exact inG 325 (by decide +kernel) rfl
  | 3, _ => exact inG 327 (by decide +kernel) rfl
  | 4, _ => exact inG 329 (by decide +kernel) rfl
  | 5, _ => exact inG 331 (by decide +kernel) rfl
  | 6, _ => exact inG 333 (by decide +kernel) rfl
  | 7, _ => exact inG 335 (by decide +kernel) rfl
  | 8, _ => exact inG 337 (by decide +kernel) rfl
  | 9, _ => exact inG 339 (by decide +kernel) rfl
  | 10, _ => exact inG 341 (by decide +kernel) rfl
  | 11, _ => exact inG 343 (by decide +kernel) rfl
  | 12, _ => exact inG 345 (by decide +kernel) rfl
  | 13, _ => exact inG 347 (by decide +kernel) rfl
  | 14, _ => exact inG 349 (by decide +kernel) rfl
  | 15, _ => exact inG 351 (by decide +kernel) rfl
  | 16, _ => exact inG 353 (by decide +kernel) rfl
  | k + 17, hk => omega
theorem uwX5 : ∀ w ∈ u_ws RX5 TX5 7, w ∈ gwd := by
  intro w hw
  obtain ⟨k, hk, rfl⟩ := List.mem_map.mp hw
  have hk := List.mem_range.mp hk
  match k, hk with
  | 0, _ => exact inG 601 (by decide +kernel) rfl
  | 1, _ => exact inG 603 (by decide +kernel) rfl
  | 2, _ => exact inG 605 (by decide +kernel) rfl
  | 3, _ => exact inG 607 (by decide +kernel) rfl
  | 4, _ => exact inG 609 (by decide +kernel) rfl
  | 5, _ => exact inG 611 (by decide +kernel) rfl
  | 6, _ => exact inG 613 (by decide +kernel) rfl
  | k + 7, hk => omega
theorem uwX6 : ∀ w ∈ u_ws RX6 TX6 4, w ∈ gwd := by
  intro w hw
  obtain ⟨k, hk, rfl⟩ := List.mem_map.mp hw
  have hk := List.mem_range.mp hk
  match k, hk with
  | 0, _ => exact inG 170 (by decide +kernel) rfl
  | 1, _ => exact inG 172 (by decide +kernel) rfl
  | 2, _ => exact inG 174 (by decide +kernel) rfl
  | 3, _ => exact inG 176 (by decide +kernel) rfl
  | k + 4, hk => omega
theorem uwX7 : ∀ w ∈ u_ws RX7 TX7 2, w ∈ gwd := by
  intro w hw
  obtain ⟨k, hk, rfl⟩ := List.mem_map.mp hw
  have hk := List.mem_range.mp hk
  match k, hk with
  | 0, _ => exact inG 134 (by decide +kernel) rfl
  | 1, _ => exact inG 136 (by decide +kernel) rfl
  | k + 2, hk => omega
theorem uwX8 : ∀ w ∈ u_ws RX8 TX8 2, w ∈ gwd := by
  intro w hw
  obtain ⟨k, hk, rfl⟩ := List.mem_map.mp hw
  have hk := List.mem_range.mp hk
  match k, hk with
  | 0, _ => exact inG 149 (by decide +kernel) rfl
  | 1, _ => exact inG 151 (by decide +kernel) rfl
  | k + 2, hk => omega
theorem uwX9 : ∀ w ∈ u_ws RX9 TX9 15, w ∈ gwd := by
  intro w hw
  obtain ⟨k, hk, rfl⟩ := List.mem_map.mp hw
  have hk := List.mem_range.mp hk
  match k, hk with
  | 0, _ => exact inG 392 (by decide +kernel) rfl
  | 1, _ => exact inG 394 (by decide +kernel) rfl
  | 2, _ => exact inG 396 (by decide +kernel) rfl
  | 3, _ => exact inG 398 (by decide +kernel) rfl
  | 4, _ => exact inG 400 (by decide +kernel) rfl
  | 5, _ => exact inG 402 (by decide +kernel) rfl
  | 6, _ => exact inG 404 (by decide +kernel) rfl
  | 7, _ => exact inG 406 (by decide +kernel) rfl
  | 8, _ => exact inG 408 (by decide +kernel) rfl
  | 9, _ => exact inG 410 (by decide +kernel) rfl
  | 10, _ => exact inG 412 (by decide +kernel) rfl
  | 11, _ => exact inG 414 (by decide +kernel) rfl
  | 12, _ => exact inG 416 (by decide +kernel) rfl
  | 13, _ => exact inG 418 (by decide +kernel) rfl
  | 14, _ => exact inG 420 (by decide +kernel) rfl
  | k + 15, hk => omega
theorem uwX10 : ∀ w ∈ u_ws RX10 TX10 43, w ∈ gwd := by
  intro w hw
  obtain ⟨k, hk, rfl⟩ := List.mem_map.mp hw
  have hk := List.mem_range.mp hk
  match k, hk with
  | 0, _ => exact inG 1127 (by decide +kernel) rfl
  | 1, _ => exact inG 1129 (by decide +kernel) rfl
  | 2, _ => exact inG 1131 (by decide +kernel) rfl
  | 3, _ => exact inG 1133 (by decide +kernel) rfl
  | 4, _ => exact inG 1135 (by decide +kernel) rfl
  | 5, _ => exact inG 1137 (by decide +kernel) rfl
  | 6, _ => exact inG 1139 (by decide +kernel) rfl
  | 7, _ => exact inG 1141 (by decide +kernel) rfl
  | 8, _ => exact inG 1143 (by decide +kernel) rfl
  | 9, _ => exact inG 1145 (by decide +kernel) rfl
  | 10, _ => exact inG 1147 (by decide +kernel) rfl
  | 11, _ => exact inG 1149 (by decide +kernel) rfl
  | 12, _ => exact inG 1151 (by decide +kernel) rfl
  | 13, _ => exact inG 1153 (by decide +kernel) rfl
  | 14, _ => exact inG 1155 (by decide +kernel) rfl
  | 15, _ => exact inG 1157 (by decide +kernel) rfl
  | 16, _ => exact inG 1159 (by decide +kernel) rfl
  | 17, _ => exact inG 1161 (by decide +kernel) rfl
  | 18, _ => exact inG 1163 (by decide +kernel) rfl
  | 19, _ => exact inG 1165 (by decide +kernel) rfl
  | 20, _ => exact inG 1167 (by decide +kernel) rfl
  | 21, _ => exact inG 1169 (by decide +kernel) rfl
  | 22, _ => exact inG 1171 (by decide +kernel) rfl
  | 23, _ => exact inG 1173 (by decide +kernel) rfl
  | 24, _ => exact inG 1175 (by decide +kernel) rfl
  | 25, _ => exact inG 1177 (by decide +kernel) rfl
  | 26, _ => exact inG 1179 (by decide +kernel) rfl
  | 27, _ => exact inG 1181 (by decide +kernel) rfl
  | 28, _ => exact inG 1183 (by decide +kernel) rfl
  | 29, _ => exact inG 1185 (by decide +kernel) rfl
  | 30, _ => exact inG 1187 (by decide +kernel) rfl
  | 31, _ => exact inG 1189 (by decide +kernel) rfl
  | 32, _ => exact inG 1191 (by decide +kernel) rfl
  | 33, _ => exact inG 1193 (by decide +kernel) rfl
  | 34, _ => exact inG 1195 (by decide +kernel) rfl
  | 35, _ => exact inG 1197 (by decide +kernel) rfl
  | 36, _ => exact inG 1199 (by decide +kernel) rfl
  | 37, _ => exact inG 1201 (by decide +kernel) rfl
  | 38, _ => exact inG 1203 (by decide +kernel) rfl
  | 39, _ => exact inG 1205 (by decide +kernel) rfl
  | 40, _ => exact inG 1207 (by decide +kernel) rfl
  | 41, _ => exact inG 1209 (by decide +kernel) rfl
  | 42, _ => exact inG 1211 (by decide +kernel) rfl
  | k + 43, hk => omega
