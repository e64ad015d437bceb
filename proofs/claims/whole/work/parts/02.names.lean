/-- a private method of a class that the tables say can be made, by its rows of tables_1 -/
def lw_okq (q : MethodName × Nat) : Prop := (q.1.cls ≠ "java/lang/invoke/MethodHandle" ∧ q.1.cls ≠ "java/lang/invoke/VarHandle") ∧ Cond.instantiable q.1.cls q.2 ∈ tables_1 ∧ Cond.privateMethod q.1 ∈ tables_1 ∧ Cond.instanceMethod q.1 ∈ tables_1
theorem lw_p0 : lw_okq (⟨"PegshoreHouse$Board", "isLine", "(II)Z"⟩, 8) := ⟨⟨by decide +kernel, by decide +kernel⟩, List.mem_of_getElem? (i := 45) (by decide +kernel), List.mem_of_getElem? (i := 192) (by decide +kernel), List.mem_of_getElem? (i := 193) (by decide +kernel)⟩
theorem lw_p1 : lw_okq (⟨"PegshoreHouse$Board", "isTwoSteps", "(II)Z"⟩, 8) := ⟨⟨by decide +kernel, by decide +kernel⟩, List.mem_of_getElem? (i := 45) (by decide +kernel), List.mem_of_getElem? (i := 196) (by decide +kernel), List.mem_of_getElem? (i := 197) (by decide +kernel)⟩
theorem lw_p2 : lw_okq (⟨"PegshoreHouse$Walk", "wipe", "()V"⟩, 12) := ⟨⟨by decide +kernel, by decide +kernel⟩, List.mem_of_getElem? (i := 91) (by decide +kernel), List.mem_of_getElem? (i := 237) (by decide +kernel), List.mem_of_getElem? (i := 238) (by decide +kernel)⟩
theorem lw_p3 : lw_okq (⟨"PegshoreHouse$Walk", "find", "(IJ)V"⟩, 12) := ⟨⟨by decide +kernel, by decide +kernel⟩, List.mem_of_getElem? (i := 91) (by decide +kernel), List.mem_of_getElem? (i := 247) (by decide +kernel), List.mem_of_getElem? (i := 248) (by decide +kernel)⟩
theorem lw_p4 : lw_okq (⟨"PegshoreHouse$Walk", "visit", "(I)V"⟩, 12) := ⟨⟨by decide +kernel, by decide +kernel⟩, List.mem_of_getElem? (i := 91) (by decide +kernel), List.mem_of_getElem? (i := 251) (by decide +kernel), List.mem_of_getElem? (i := 252) (by decide +kernel)⟩
theorem lw_p5 : lw_okq (⟨"PegshoreHouse", "isOddApart", "(I)Z"⟩, 6) := ⟨⟨by decide +kernel, by decide +kernel⟩, List.mem_of_getElem? (i := 37) (by decide +kernel), List.mem_of_getElem? (i := 309) (by decide +kernel), List.mem_of_getElem? (i := 310) (by decide +kernel)⟩
theorem lw_p6 : lw_okq (⟨"PegshoreHouse$Walk", "leastOther", "(I)I"⟩, 12) := ⟨⟨by decide +kernel, by decide +kernel⟩, List.mem_of_getElem? (i := 91) (by decide +kernel), List.mem_of_getElem? (i := 325) (by decide +kernel), List.mem_of_getElem? (i := 326) (by decide +kernel)⟩
theorem lw_p7 : lw_okq (⟨"PegshoreHouse$Walk", "changeFigure", "(II)V"⟩, 12) := ⟨⟨by decide +kernel, by decide +kernel⟩, List.mem_of_getElem? (i := 91) (by decide +kernel), List.mem_of_getElem? (i := 333) (by decide +kernel), List.mem_of_getElem? (i := 334) (by decide +kernel)⟩
theorem lw_p8 : lw_okq (⟨"PegshoreHouse", "isToldSound", "()Z"⟩, 6) := ⟨⟨by decide +kernel, by decide +kernel⟩, List.mem_of_getElem? (i := 37) (by decide +kernel), List.mem_of_getElem? (i := 373) (by decide +kernel), List.mem_of_getElem? (i := 374) (by decide +kernel)⟩
theorem lw_p9 : lw_okq (⟨"PegshoreHouse", "isMadeSound", "()Z"⟩, 6) := ⟨⟨by decide +kernel, by decide +kernel⟩, List.mem_of_getElem? (i := 37) (by decide +kernel), List.mem_of_getElem? (i := 377) (by decide +kernel), List.mem_of_getElem? (i := 378) (by decide +kernel)⟩
theorem lw_p10 : lw_okq (⟨"java/lang/Throwable", "fillInStackTrace", "(I)Ljava/lang/Throwable;"⟩, 6) := ⟨⟨by decide +kernel, by decide +kernel⟩, List.mem_of_getElem? (i := 440) (by decide +kernel), List.mem_of_getElem? (i := 438) (by decide +kernel), List.mem_of_getElem? (i := 439) (by decide +kernel)⟩
theorem lw_p11 : lw_okq (⟨"PegshoreHouse$Board", "layLines", "()V"⟩, 8) := ⟨⟨by decide +kernel, by decide +kernel⟩, List.mem_of_getElem? (i := 45) (by decide +kernel), List.mem_of_getElem? (i := 474) (by decide +kernel), List.mem_of_getElem? (i := 475) (by decide +kernel)⟩
theorem lw_p12 : lw_okq (⟨"PegshoreHouse$Board", "addLine", "(II)V"⟩, 8) := ⟨⟨by decide +kernel, by decide +kernel⟩, List.mem_of_getElem? (i := 45) (by decide +kernel), List.mem_of_getElem? (i := 479) (by decide +kernel), List.mem_of_getElem? (i := 480) (by decide +kernel)⟩
theorem lw_p13 : lw_okq (⟨"PegshoreHouse", "forgetAll", "()V"⟩, 6) := ⟨⟨by decide +kernel, by decide +kernel⟩, List.mem_of_getElem? (i := 37) (by decide +kernel), List.mem_of_getElem? (i := 492) (by decide +kernel), List.mem_of_getElem? (i := 493) (by decide +kernel)⟩
theorem lw_p14 : lw_okq (⟨"PegshoreHouse$Board", "layHoles", "()V"⟩, 8) := ⟨⟨by decide +kernel, by decide +kernel⟩, List.mem_of_getElem? (i := 45) (by decide +kernel), List.mem_of_getElem? (i := 550) (by decide +kernel), List.mem_of_getElem? (i := 551) (by decide +kernel)⟩
theorem lw_p15 : lw_okq (⟨"PegshoreHouse", "requireHole", "(I)V"⟩, 6) := ⟨⟨by decide +kernel, by decide +kernel⟩, List.mem_of_getElem? (i := 37) (by decide +kernel), List.mem_of_getElem? (i := 621) (by decide +kernel), List.mem_of_getElem? (i := 622) (by decide +kernel)⟩
def lw_privs_1 : List (MethodName × Nat) := [(⟨"PegshoreHouse$Board", "isLine", "(II)Z"⟩, 8), (⟨"PegshoreHouse$Board", "isTwoSteps", "(II)Z"⟩, 8), (⟨"PegshoreHouse$Walk", "wipe", "()V"⟩, 12), (⟨"PegshoreHouse$Walk", "find", "(IJ)V"⟩, 12), (⟨"PegshoreHouse$Walk", "visit", "(I)V"⟩, 12), (⟨"PegshoreHouse", "isOddApart", "(I)Z"⟩, 6), (⟨"PegshoreHouse$Walk", "leastOther", "(I)I"⟩, 12), (⟨"PegshoreHouse$Walk", "changeFigure", "(II)V"⟩, 12), (⟨"PegshoreHouse", "isToldSound", "()Z"⟩, 6), (⟨"PegshoreHouse", "isMadeSound", "()Z"⟩, 6), (⟨"java/lang/Throwable", "fillInStackTrace", "(I)Ljava/lang/Throwable;"⟩, 6), (⟨"PegshoreHouse$Board", "layLines", "()V"⟩, 8), (⟨"PegshoreHouse$Board", "addLine", "(II)V"⟩, 8), (⟨"PegshoreHouse", "forgetAll", "()V"⟩, 6), (⟨"PegshoreHouse$Board", "layHoles", "()V"⟩, 8), (⟨"PegshoreHouse", "requireHole", "(I)V"⟩, 6)]
theorem lw_r1 : ∀ q ∈ lw_privs_1, lw_okq q := List.forall_mem_cons.mpr ⟨lw_p0, List.forall_mem_cons.mpr ⟨lw_p1, List.forall_mem_cons.mpr ⟨lw_p2, List.forall_mem_cons.mpr ⟨lw_p3, List.forall_mem_cons.mpr ⟨lw_p4, List.forall_mem_cons.mpr ⟨lw_p5, List.forall_mem_cons.mpr ⟨lw_p6, List.forall_mem_cons.mpr ⟨lw_p7, List.forall_mem_cons.mpr ⟨lw_p8, List.forall_mem_cons.mpr ⟨lw_p9, List.forall_mem_cons.mpr ⟨lw_p10, List.forall_mem_cons.mpr ⟨lw_p11, List.forall_mem_cons.mpr ⟨lw_p12, List.forall_mem_cons.mpr ⟨lw_p13, List.forall_mem_cons.mpr ⟨lw_p14, List.forall_mem_cons.mpr ⟨lw_p15, fun _ h => absurd h List.not_mem_nil⟩⟩⟩⟩⟩⟩⟩⟩⟩⟩⟩⟩⟩⟩⟩⟩
theorem lw_p16 : lw_okq (⟨"PegshoreHouse", "requirePegs", "(I)V"⟩, 6) := ⟨⟨by decide +kernel, by decide +kernel⟩, List.mem_of_getElem? (i := 37) (by decide +kernel), List.mem_of_getElem? (i := 645) (by decide +kernel), List.mem_of_getElem? (i := 646) (by decide +kernel)⟩
theorem lw_p17 : lw_okq (⟨"PegshoreHouse", "behindJump", "(III)I"⟩, 6) := ⟨⟨by decide +kernel, by decide +kernel⟩, List.mem_of_getElem? (i := 37) (by decide +kernel), List.mem_of_getElem? (i := 657) (by decide +kernel), List.mem_of_getElem? (i := 658) (by decide +kernel)⟩
theorem lw_p18 : lw_okq (⟨"PegshoreHouse", "requireJump", "(II)I"⟩, 6) := ⟨⟨by decide +kernel, by decide +kernel⟩, List.mem_of_getElem? (i := 37) (by decide +kernel), List.mem_of_getElem? (i := 668) (by decide +kernel), List.mem_of_getElem? (i := 669) (by decide +kernel)⟩
theorem lw_p19 : lw_okq (⟨"PegshoreHouse", "makeJump", "(III)V"⟩, 6) := ⟨⟨by decide +kernel, by decide +kernel⟩, List.mem_of_getElem? (i := 37) (by decide +kernel), List.mem_of_getElem? (i := 673) (by decide +kernel), List.mem_of_getElem? (i := 674) (by decide +kernel)⟩
theorem lw_p20 : lw_okq (⟨"PegshoreHouse$Walk", "leads", "(II)Z"⟩, 12) := ⟨⟨by decide +kernel, by decide +kernel⟩, List.mem_of_getElem? (i := 91) (by decide +kernel), List.mem_of_getElem? (i := 734) (by decide +kernel), List.mem_of_getElem? (i := 735) (by decide +kernel)⟩
theorem lw_p21 : lw_okq (⟨"PegshoreHouse", "lineTo", "(I)I"⟩, 6) := ⟨⟨by decide +kernel, by decide +kernel⟩, List.mem_of_getElem? (i := 37) (by decide +kernel), List.mem_of_getElem? (i := 738) (by decide +kernel), List.mem_of_getElem? (i := 739) (by decide +kernel)⟩
theorem lw_p22 : lw_okq (⟨"PegshoreHouse$Walk", "leastSweepsAt", "(I)I"⟩, 12) := ⟨⟨by decide +kernel, by decide +kernel⟩, List.mem_of_getElem? (i := 91) (by decide +kernel), List.mem_of_getElem? (i := 762) (by decide +kernel), List.mem_of_getElem? (i := 763) (by decide +kernel)⟩
theorem lw_p23 : lw_okq (⟨"PegshoreHouse$Walk", "sweepOn", "(II)V"⟩, 12) := ⟨⟨by decide +kernel, by decide +kernel⟩, List.mem_of_getElem? (i := 91) (by decide +kernel), List.mem_of_getElem? (i := 766) (by decide +kernel), List.mem_of_getElem? (i := 767) (by decide +kernel)⟩
theorem lw_p24 : lw_okq (⟨"PegshoreHouse", "rowFault", "()I"⟩, 6) := ⟨⟨by decide +kernel, by decide +kernel⟩, List.mem_of_getElem? (i := 37) (by decide +kernel), List.mem_of_getElem? (i := 849) (by decide +kernel), List.mem_of_getElem? (i := 850) (by decide +kernel)⟩
theorem lw_p25 : lw_okq (⟨"PegshoreHouseModel", "lists", "()V"⟩, 19) := ⟨⟨by decide +kernel, by decide +kernel⟩, List.mem_of_getElem? (i := 890) (by decide +kernel), List.mem_of_getElem? (i := 927) (by decide +kernel), List.mem_of_getElem? (i := 928) (by decide +kernel)⟩
theorem lw_p26 : lw_okq (⟨"PegshoreHouseModel", "fails", "(I)Z"⟩, 19) := ⟨⟨by decide +kernel, by decide +kernel⟩, List.mem_of_getElem? (i := 890) (by decide +kernel), List.mem_of_getElem? (i := 1103) (by decide +kernel), List.mem_of_getElem? (i := 1104) (by decide +kernel)⟩
theorem lw_p27 : lw_okq (⟨"PegshoreHouseModel", "isDrilled", "(I)Z"⟩, 19) := ⟨⟨by decide +kernel, by decide +kernel⟩, List.mem_of_getElem? (i := 890) (by decide +kernel), List.mem_of_getElem? (i := 1131) (by decide +kernel), List.mem_of_getElem? (i := 1132) (by decide +kernel)⟩
theorem lw_p28 : lw_okq (⟨"PegshoreHouseModel", "numbers", "()V"⟩, 19) := ⟨⟨by decide +kernel, by decide +kernel⟩, List.mem_of_getElem? (i := 890) (by decide +kernel), List.mem_of_getElem? (i := 1138) (by decide +kernel), List.mem_of_getElem? (i := 1139) (by decide +kernel)⟩
theorem lw_p29 : lw_okq (⟨"PegshoreHouseModel", "isHole", "(I)Z"⟩, 19) := ⟨⟨by decide +kernel, by decide +kernel⟩, List.mem_of_getElem? (i := 890) (by decide +kernel), List.mem_of_getElem? (i := 1160) (by decide +kernel), List.mem_of_getElem? (i := 1161) (by decide +kernel)⟩
theorem lw_p30 : lw_okq (⟨"PegshoreHouseModel", "isSymmetry", "(I)Z"⟩, 19) := ⟨⟨by decide +kernel, by decide +kernel⟩, List.mem_of_getElem? (i := 890) (by decide +kernel), List.mem_of_getElem? (i := 1172) (by decide +kernel), List.mem_of_getElem? (i := 1173) (by decide +kernel)⟩
theorem lw_p31 : lw_okq (⟨"PegshoreHouseModel", "holeAt", "(I)I"⟩, 19) := ⟨⟨by decide +kernel, by decide +kernel⟩, List.mem_of_getElem? (i := 890) (by decide +kernel), List.mem_of_getElem? (i := 1179) (by decide +kernel), List.mem_of_getElem? (i := 1180) (by decide +kernel)⟩
def lw_privs_2 : List (MethodName × Nat) := [(⟨"PegshoreHouse", "requirePegs", "(I)V"⟩, 6), (⟨"PegshoreHouse", "behindJump", "(III)I"⟩, 6), (⟨"PegshoreHouse", "requireJump", "(II)I"⟩, 6), (⟨"PegshoreHouse", "makeJump", "(III)V"⟩, 6), (⟨"PegshoreHouse$Walk", "leads", "(II)Z"⟩, 12), (⟨"PegshoreHouse", "lineTo", "(I)I"⟩, 6), (⟨"PegshoreHouse$Walk", "leastSweepsAt", "(I)I"⟩, 12), (⟨"PegshoreHouse$Walk", "sweepOn", "(II)V"⟩, 12), (⟨"PegshoreHouse", "rowFault", "()I"⟩, 6), (⟨"PegshoreHouseModel", "lists", "()V"⟩, 19), (⟨"PegshoreHouseModel", "fails", "(I)Z"⟩, 19), (⟨"PegshoreHouseModel", "isDrilled", "(I)Z"⟩, 19), (⟨"PegshoreHouseModel", "numbers", "()V"⟩, 19), (⟨"PegshoreHouseModel", "isHole", "(I)Z"⟩, 19), (⟨"PegshoreHouseModel", "isSymmetry", "(I)Z"⟩, 19), (⟨"PegshoreHouseModel", "holeAt", "(I)I"⟩, 19)]
theorem lw_r2 : ∀ q ∈ lw_privs_2, lw_okq q := List.forall_mem_cons.mpr ⟨lw_p16, List.forall_mem_cons.mpr ⟨lw_p17, List.forall_mem_cons.mpr ⟨lw_p18, List.forall_mem_cons.mpr ⟨lw_p19, List.forall_mem_cons.mpr ⟨lw_p20, List.forall_mem_cons.mpr ⟨lw_p21, List.forall_mem_cons.mpr ⟨lw_p22, List.forall_mem_cons.mpr ⟨lw_p23, List.forall_mem_cons.mpr ⟨lw_p24, List.forall_mem_cons.mpr ⟨lw_p25, List.forall_mem_cons.mpr ⟨lw_p26, List.forall_mem_cons.mpr ⟨lw_p27, List.forall_mem_cons.mpr ⟨lw_p28, List.forall_mem_cons.mpr ⟨lw_p29, List.forall_mem_cons.mpr ⟨lw_p30, List.forall_mem_cons.mpr ⟨lw_p31, fun _ h => absurd h List.not_mem_nil⟩⟩⟩⟩⟩⟩⟩⟩⟩⟩⟩⟩⟩⟩⟩⟩
theorem lw_p32 : lw_okq (⟨"PegshoreHouseModel", "isJump", "(III)Z"⟩, 19) := ⟨⟨by decide +kernel, by decide +kernel⟩, List.mem_of_getElem? (i := 890) (by decide +kernel), List.mem_of_getElem? (i := 1183) (by decide +kernel), List.mem_of_getElem? (i := 1184) (by decide +kernel)⟩
theorem lw_p33 : lw_okq (⟨"PegshoreHouseModel", "isPosition", "(I)Z"⟩, 19) := ⟨⟨by decide +kernel, by decide +kernel⟩, List.mem_of_getElem? (i := 890) (by decide +kernel), List.mem_of_getElem? (i := 1191) (by decide +kernel), List.mem_of_getElem? (i := 1192) (by decide +kernel)⟩
theorem lw_p34 : lw_okq (⟨"PegshoreHouseModel", "jumpOf", "(III)I"⟩, 19) := ⟨⟨by decide +kernel, by decide +kernel⟩, List.mem_of_getElem? (i := 890) (by decide +kernel), List.mem_of_getElem? (i := 1211) (by decide +kernel), List.mem_of_getElem? (i := 1212) (by decide +kernel)⟩
theorem lw_p35 : lw_okq (⟨"PegshoreHouseModel", "can", "(II)Z"⟩, 19) := ⟨⟨by decide +kernel, by decide +kernel⟩, List.mem_of_getElem? (i := 890) (by decide +kernel), List.mem_of_getElem? (i := 1215) (by decide +kernel), List.mem_of_getElem? (i := 1216) (by decide +kernel)⟩
theorem lw_p36 : lw_okq (⟨"PegshoreHouseModel", "whyNoJump", "(II)I"⟩, 19) := ⟨⟨by decide +kernel, by decide +kernel⟩, List.mem_of_getElem? (i := 890) (by decide +kernel), List.mem_of_getElem? (i := 1223) (by decide +kernel), List.mem_of_getElem? (i := 1224) (by decide +kernel)⟩
theorem lw_p37 : lw_okq (⟨"PegshoreHouseModel", "makes", "(I)I"⟩, 19) := ⟨⟨by decide +kernel, by decide +kernel⟩, List.mem_of_getElem? (i := 890) (by decide +kernel), List.mem_of_getElem? (i := 1227) (by decide +kernel), List.mem_of_getElem? (i := 1228) (by decide +kernel)⟩
theorem lw_p38 : lw_okq (⟨"PegshoreHouseModel", "behind", "(II)I"⟩, 19) := ⟨⟨by decide +kernel, by decide +kernel⟩, List.mem_of_getElem? (i := 890) (by decide +kernel), List.mem_of_getElem? (i := 1231) (by decide +kernel), List.mem_of_getElem? (i := 1232) (by decide +kernel)⟩
theorem lw_p39 : lw_okq (⟨"java/util/ArrayList", "add", "(Ljava/lang/Object;[Ljava/lang/Object;I)V"⟩, 3) := ⟨⟨by decide +kernel, by decide +kernel⟩, List.mem_of_getElem? (i := 896) (by decide +kernel), List.mem_of_getElem? (i := 1264) (by decide +kernel), List.mem_of_getElem? (i := 1265) (by decide +kernel)⟩
theorem lw_p40 : lw_okq (⟨"java/util/ArrayList", "grow", "()[Ljava/lang/Object;"⟩, 3) := ⟨⟨by decide +kernel, by decide +kernel⟩, List.mem_of_getElem? (i := 896) (by decide +kernel), List.mem_of_getElem? (i := 1268) (by decide +kernel), List.mem_of_getElem? (i := 1269) (by decide +kernel)⟩
theorem lw_p41 : lw_okq (⟨"java/util/ArrayList", "grow", "(I)[Ljava/lang/Object;"⟩, 3) := ⟨⟨by decide +kernel, by decide +kernel⟩, List.mem_of_getElem? (i := 896) (by decide +kernel), List.mem_of_getElem? (i := 1272) (by decide +kernel), List.mem_of_getElem? (i := 1273) (by decide +kernel)⟩
theorem lw_p42 : lw_okq (⟨"PegshoreHouseModel", "jumpsOf", "(I)I"⟩, 19) := ⟨⟨by decide +kernel, by decide +kernel⟩, List.mem_of_getElem? (i := 890) (by decide +kernel), List.mem_of_getElem? (i := 1325) (by decide +kernel), List.mem_of_getElem? (i := 1326) (by decide +kernel)⟩
theorem lw_p43 : lw_okq (⟨"PegshoreHouseModel", "codeOf", "(I)I"⟩, 19) := ⟨⟨by decide +kernel, by decide +kernel⟩, List.mem_of_getElem? (i := 890) (by decide +kernel), List.mem_of_getElem? (i := 1333) (by decide +kernel), List.mem_of_getElem? (i := 1334) (by decide +kernel)⟩
theorem lw_p44 : lw_okq (⟨"java/util/ArrayList", "fastRemove", "([Ljava/lang/Object;I)V"⟩, 3) := ⟨⟨by decide +kernel, by decide +kernel⟩, List.mem_of_getElem? (i := 896) (by decide +kernel), List.mem_of_getElem? (i := 1372) (by decide +kernel), List.mem_of_getElem? (i := 1373) (by decide +kernel)⟩
theorem lw_p45 : lw_okq (⟨"PegshoreHouseModel", "waysNow", "()J"⟩, 19) := ⟨⟨by decide +kernel, by decide +kernel⟩, List.mem_of_getElem? (i := 890) (by decide +kernel), List.mem_of_getElem? (i := 1411) (by decide +kernel), List.mem_of_getElem? (i := 1412) (by decide +kernel)⟩
theorem lw_p46 : lw_okq (⟨"PegshoreHouseModel", "counts", "()V"⟩, 19) := ⟨⟨by decide +kernel, by decide +kernel⟩, List.mem_of_getElem? (i := 890) (by decide +kernel), List.mem_of_getElem? (i := 1415) (by decide +kernel), List.mem_of_getElem? (i := 1416) (by decide +kernel)⟩
theorem lw_p47 : lw_okq (⟨"PegshoreHouseModel", "reaches", "()I"⟩, 19) := ⟨⟨by decide +kernel, by decide +kernel⟩, List.mem_of_getElem? (i := 890) (by decide +kernel), List.mem_of_getElem? (i := 1435) (by decide +kernel), List.mem_of_getElem? (i := 1436) (by decide +kernel)⟩
def lw_privs_3 : List (MethodName × Nat) := [(⟨"PegshoreHouseModel", "isJump", "(III)Z"⟩, 19), (⟨"PegshoreHouseModel", "isPosition", "(I)Z"⟩, 19), (⟨"PegshoreHouseModel", "jumpOf", "(III)I"⟩, 19), (⟨"PegshoreHouseModel", "can", "(II)Z"⟩, 19), (⟨"PegshoreHouseModel", "whyNoJump", "(II)I"⟩, 19), (⟨"PegshoreHouseModel", "makes", "(I)I"⟩, 19), (⟨"PegshoreHouseModel", "behind", "(II)I"⟩, 19), (⟨"java/util/ArrayList", "add", "(Ljava/lang/Object;[Ljava/lang/Object;I)V"⟩, 3), (⟨"java/util/ArrayList", "grow", "()[Ljava/lang/Object;"⟩, 3), (⟨"java/util/ArrayList", "grow", "(I)[Ljava/lang/Object;"⟩, 3), (⟨"PegshoreHouseModel", "jumpsOf", "(I)I"⟩, 19), (⟨"PegshoreHouseModel", "codeOf", "(I)I"⟩, 19), (⟨"java/util/ArrayList", "fastRemove", "([Ljava/lang/Object;I)V"⟩, 3), (⟨"PegshoreHouseModel", "waysNow", "()J"⟩, 19), (⟨"PegshoreHouseModel", "counts", "()V"⟩, 19), (⟨"PegshoreHouseModel", "reaches", "()I"⟩, 19)]
theorem lw_r3 : ∀ q ∈ lw_privs_3, lw_okq q := List.forall_mem_cons.mpr ⟨lw_p32, List.forall_mem_cons.mpr ⟨lw_p33, List.forall_mem_cons.mpr ⟨lw_p34, List.forall_mem_cons.mpr ⟨lw_p35, List.forall_mem_cons.mpr ⟨lw_p36, List.forall_mem_cons.mpr ⟨lw_p37, List.forall_mem_cons.mpr ⟨lw_p38, List.forall_mem_cons.mpr ⟨lw_p39, List.forall_mem_cons.mpr ⟨lw_p40, List.forall_mem_cons.mpr ⟨lw_p41, List.forall_mem_cons.mpr ⟨lw_p42, List.forall_mem_cons.mpr ⟨lw_p43, List.forall_mem_cons.mpr ⟨lw_p44, List.forall_mem_cons.mpr ⟨lw_p45, List.forall_mem_cons.mpr ⟨lw_p46, List.forall_mem_cons.mpr ⟨lw_p47, fun _ h => absurd h List.not_mem_nil⟩⟩⟩⟩⟩⟩⟩⟩⟩⟩⟩⟩⟩⟩⟩⟩
theorem lw_p48 : lw_okq (⟨"PegshoreHouseModel", "sweep", "()V"⟩, 19) := ⟨⟨by decide +kernel, by decide +kernel⟩, List.mem_of_getElem? (i := 890) (by decide +kernel), List.mem_of_getElem? (i := 1657) (by decide +kernel), List.mem_of_getElem? (i := 1658) (by decide +kernel)⟩
theorem lw_p49 : lw_okq (⟨"PegshoreHouseModel", "weightOf", "(I)I"⟩, 19) := ⟨⟨by decide +kernel, by decide +kernel⟩, List.mem_of_getElem? (i := 890) (by decide +kernel), List.mem_of_getElem? (i := 1673) (by decide +kernel), List.mem_of_getElem? (i := 1674) (by decide +kernel)⟩
theorem lw_p50 : lw_okq (⟨"PegshoreHouseModel", "worst", "()I"⟩, 19) := ⟨⟨by decide +kernel, by decide +kernel⟩, List.mem_of_getElem? (i := 890) (by decide +kernel), List.mem_of_getElem? (i := 1681) (by decide +kernel), List.mem_of_getElem? (i := 1682) (by decide +kernel)⟩
theorem lw_p51 : lw_okq (⟨"PegshoreHouseModel", "gains", "(I)I"⟩, 19) := ⟨⟨by decide +kernel, by decide +kernel⟩, List.mem_of_getElem? (i := 890) (by decide +kernel), List.mem_of_getElem? (i := 1685) (by decide +kernel), List.mem_of_getElem? (i := 1686) (by decide +kernel)⟩
theorem lw_p52 : lw_okq (⟨"PegshoreHouseModel", "colourOf", "(II)I"⟩, 19) := ⟨⟨by decide +kernel, by decide +kernel⟩, List.mem_of_getElem? (i := 890) (by decide +kernel), List.mem_of_getElem? (i := 1697) (by decide +kernel), List.mem_of_getElem? (i := 1698) (by decide +kernel)⟩
theorem lw_p53 : lw_okq (⟨"PegshoreHouseModel", "fits", "(I)Z"⟩, 19) := ⟨⟨by decide +kernel, by decide +kernel⟩, List.mem_of_getElem? (i := 890) (by decide +kernel), List.mem_of_getElem? (i := 1705) (by decide +kernel), List.mem_of_getElem? (i := 1706) (by decide +kernel)⟩
theorem lw_p54 : lw_okq (⟨"PegshoreHouseModel", "others", "(III)I"⟩, 19) := ⟨⟨by decide +kernel, by decide +kernel⟩, List.mem_of_getElem? (i := 890) (by decide +kernel), List.mem_of_getElem? (i := 1713) (by decide +kernel), List.mem_of_getElem? (i := 1714) (by decide +kernel)⟩
theorem lw_p55 : lw_okq (⟨"PegshoreHouseModel", "valueAll", "()V"⟩, 19) := ⟨⟨by decide +kernel, by decide +kernel⟩, List.mem_of_getElem? (i := 890) (by decide +kernel), List.mem_of_getElem? (i := 1721) (by decide +kernel), List.mem_of_getElem? (i := 1722) (by decide +kernel)⟩
theorem lw_p56 : lw_okq (⟨"PegshoreHouseModel", "value", "(I)V"⟩, 19) := ⟨⟨by decide +kernel, by decide +kernel⟩, List.mem_of_getElem? (i := 890) (by decide +kernel), List.mem_of_getElem? (i := 1725) (by decide +kernel), List.mem_of_getElem? (i := 1726) (by decide +kernel)⟩
theorem lw_p57 : lw_okq (⟨"PegshoreHouseModel", "faultIn", "()I"⟩, 19) := ⟨⟨by decide +kernel, by decide +kernel⟩, List.mem_of_getElem? (i := 890) (by decide +kernel), List.mem_of_getElem? (i := 1745) (by decide +kernel), List.mem_of_getElem? (i := 1746) (by decide +kernel)⟩
def lw_privs_4 : List (MethodName × Nat) := [(⟨"PegshoreHouseModel", "sweep", "()V"⟩, 19), (⟨"PegshoreHouseModel", "weightOf", "(I)I"⟩, 19), (⟨"PegshoreHouseModel", "worst", "()I"⟩, 19), (⟨"PegshoreHouseModel", "gains", "(I)I"⟩, 19), (⟨"PegshoreHouseModel", "colourOf", "(II)I"⟩, 19), (⟨"PegshoreHouseModel", "fits", "(I)Z"⟩, 19), (⟨"PegshoreHouseModel", "others", "(III)I"⟩, 19), (⟨"PegshoreHouseModel", "valueAll", "()V"⟩, 19), (⟨"PegshoreHouseModel", "value", "(I)V"⟩, 19), (⟨"PegshoreHouseModel", "faultIn", "()I"⟩, 19)]
theorem lw_r4 : ∀ q ∈ lw_privs_4, lw_okq q := List.forall_mem_cons.mpr ⟨lw_p48, List.forall_mem_cons.mpr ⟨lw_p49, List.forall_mem_cons.mpr ⟨lw_p50, List.forall_mem_cons.mpr ⟨lw_p51, List.forall_mem_cons.mpr ⟨lw_p52, List.forall_mem_cons.mpr ⟨lw_p53, List.forall_mem_cons.mpr ⟨lw_p54, List.forall_mem_cons.mpr ⟨lw_p55, List.forall_mem_cons.mpr ⟨lw_p56, List.forall_mem_cons.mpr ⟨lw_p57, fun _ h => absurd h List.not_mem_nil⟩⟩⟩⟩⟩⟩⟩⟩⟩⟩
def lw_privs : List (MethodName × Nat) := lw_privs_1 ++ (lw_privs_2 ++ (lw_privs_3 ++ (lw_privs_4)))
def lw_tbl : List Cond := k2_sels lw_privs ++ tables_1
theorem lw_privs_ok : ∀ q ∈ lw_privs, lw_okq q := by
  show ∀ q ∈ lw_privs_1 ++ (lw_privs_2 ++ (lw_privs_3 ++ (lw_privs_4))), lw_okq q
  exact List.forall_mem_append.mpr ⟨lw_r1, List.forall_mem_append.mpr ⟨lw_r2, List.forall_mem_append.mpr ⟨lw_r3, lw_r4⟩⟩⟩
/-- the streams that the claim lets the run draw from -/
abbrev lw_cs : List Choice := [Jvm.Choice.named "NaN.bits"]
theorem lw_bits : nanBits ∈ lw_cs := by first | decide | exact List.mem_cons_self | simp [lw_cs, nanBits]

def RX0 : String := "PegshoreHouse$Board"
def TX0 : u_T := fun k => match k with
  | 0 => ("PegshoreHouse$Board", "kind", "C", false)
  | 1 => ("PegshoreHouse$Board", "drilled", "I", false)
  | 2 => ("PegshoreHouse$Board", "cellWeights", "[I", true)
  | 3 => ("PegshoreHouse$Board", "cells", "LPegshoreHouse$Row;", true)
  | 4 => ("PegshoreHouse$Board", "codes", "LPegshoreHouse$Row;", true)
  | 5 => ("PegshoreHouse$Board", "middles", "LPegshoreHouse$Row;", true)
  | 6 => ("PegshoreHouse$Board", "pairs", "LPegshoreHouse$Row;", true)
  | _ => ("PegshoreHouse$Board", "spans", "LPegshoreHouse$Row;", true)
def tyX0 : Nat → FieldType := fun k => match k with
  | 0 => .char
  | 1 => .int
  | 2 => .array .int
  | 3 => .object "PegshoreHouse$Row"
  | 4 => .object "PegshoreHouse$Row"
  | 5 => .object "PegshoreHouse$Row"
  | 6 => .object "PegshoreHouse$Row"
  | _ => .object "PegshoreHouse$Row"
theorem nmX0 : ∀ a, a < 8 → ∀ b, b < 8 → a ≠ b → (TX0 a).2.1 ≠ (TX0 b).2.1 := by decide +kernel
theorem tyX0_ok : ∀ k, k < 8 → parseFieldDescriptor (TX0 k).2.2.1 = some (tyX0 k) := by decide +kernel
def RX1 : String := "PegshoreHouse$Row"
def TX1 : u_T := fun k => match k with
  | 0 => ("PegshoreHouse$Row", "items", "[I", true)
  | _ => ("PegshoreHouse$Row", "size", "I", false)
def tyX1 : Nat → FieldType := fun k => match k with
  | 0 => .array .int
  | _ => .int
theorem nmX1 : ∀ a, a < 2 → ∀ b, b < 2 → a ≠ b → (TX1 a).2.1 ≠ (TX1 b).2.1 := by decide +kernel
theorem tyX1_ok : ∀ k, k < 2 → parseFieldDescriptor (TX1 k).2.2.1 = some (tyX1 k) := by decide +kernel
def RX2 : String := "PegshoreHouse$Walk"
def TX2 : u_T := fun k => match k with
  | 0 => ("PegshoreHouse$Walk", "board", "LPegshoreHouse$Board;", true)
  | 1 => ("PegshoreHouse$Walk", "found", "[I", true)
  | 2 => ("PegshoreHouse$Walk", "ways", "[J", true)
  | 3 => ("PegshoreHouse$Walk", "figures", "[I", true)
  | 4 => ("PegshoreHouse$Walk", "size", "I", false)
  | 5 => ("PegshoreHouse$Walk", "start", "I", false)
  | 6 => ("PegshoreHouse$Walk", "deadCount", "I", false)
  | 7 => ("PegshoreHouse$Walk", "fewestPegs", "I", false)
  | 8 => ("PegshoreHouse$Walk", "touched", "I", false)
  | 9 => ("PegshoreHouse$Walk", "jumpSum", "I", false)
  | 10 => ("PegshoreHouse$Walk", "figured", "I", false)
  | _ => ("PegshoreHouse$Walk", "figuredEnd", "I", false)
def tyX2 : Nat → FieldType := fun k => match k with
  | 0 => .object "PegshoreHouse$Board"
  | 1 => .array .int
  | 2 => .array .long
  | 3 => .array .int
  | 4 => .int
  | 5 => .int
  | 6 => .int
  | 7 => .int
  | 8 => .int
  | 9 => .int
  | 10 => .int
  | _ => .int
theorem nmX2 : ∀ a, a < 12 → ∀ b, b < 12 → a ≠ b → (TX2 a).2.1 ≠ (TX2 b).2.1 := by decide +kernel
theorem tyX2_ok : ∀ k, k < 12 → parseFieldDescriptor (TX2 k).2.2.1 = some (tyX2 k) := by decide +kernel
def RX3 : String := "PegshoreHouse"
def TX3 : u_T := fun k => match k with
  | 0 => ("PegshoreHouse", "board", "LPegshoreHouse$Board;", true)
  | 1 => ("PegshoreHouse", "walk", "LPegshoreHouse$Walk;", true)
  | 2 => ("PegshoreHouse", "madeCodes", "LPegshoreHouse$Row;", true)
  | 3 => ("PegshoreHouse", "toldHoles", "LPegshoreHouse$Row;", true)
  | 4 => ("PegshoreHouse", "position", "I", false)
  | _ => ("PegshoreHouse", "end", "I", false)
def tyX3 : Nat → FieldType := fun k => match k with
  | 0 => .object "PegshoreHouse$Board"
  | 1 => .object "PegshoreHouse$Walk"
  | 2 => .object "PegshoreHouse$Row"
  | 3 => .object "PegshoreHouse$Row"
  | 4 => .int
  | _ => .int
theorem nmX3 : ∀ a, a < 6 → ∀ b, b < 6 → a ≠ b → (TX3 a).2.1 ≠ (TX3 b).2.1 := by decide +kernel
theorem tyX3_ok : ∀ k, k < 6 → parseFieldDescriptor (TX3 k).2.2.1 = some (tyX3 k) := by decide +kernel
def RX4 : String := "PegshoreHouseModel"
def TX4 : u_T := fun k => match k with
  | 0 => ("PegshoreHouseModel", "holes", "[I", true)
  | 1 => ("PegshoreHouseModel", "cells", "[I", true)
  | 2 => ("PegshoreHouseModel", "weights", "[I", true)
  | 3 => ("PegshoreHouseModel", "from", "[I", true)
  | 4 => ("PegshoreHouseModel", "over", "[I", true)
  | 5 => ("PegshoreHouseModel", "to", "[I", true)
  | 6 => ("PegshoreHouseModel", "made", "Ljava/util/List;", true)
  | 7 => ("PegshoreHouseModel", "told", "Ljava/util/List;", true)
  | 8 => ("PegshoreHouseModel", "row", "Ljava/util/List;", true)
  | 9 => ("PegshoreHouseModel", "ways", "[J", true)
  | 10 => ("PegshoreHouseModel", "isReached", "[Z", true)
  | 11 => ("PegshoreHouseModel", "values", "[I", true)
  | 12 => ("PegshoreHouseModel", "sweeps", "[[I", true)
  | 13 => ("PegshoreHouseModel", "many", "I", false)
  | 14 => ("PegshoreHouseModel", "jumps", "I", false)
  | 15 => ("PegshoreHouseModel", "position", "I", false)
  | 16 => ("PegshoreHouseModel", "end", "I", false)
  | 17 => ("PegshoreHouseModel", "kind", "I", false)
  | _ => ("PegshoreHouseModel", "code", "I", false)
def tyX4 : Nat → FieldType := fun k => match k with
  | 0 => .array .int
  | 1 => .array .int
  | 2 => .array .int
  | 3 => .array .int
  | 4 => .array .int
  | 5 => .array .int
  | 6 => .object "java/util/List"
  | 7 => .object "java/util/List"
  | 8 => .object "java/util/List"
  | 9 => .array .long
  | 10 => .array .boolean
  | 11 => .array .int
  | 12 => .array (.array .int)
  | 13 => .int
  | 14 => .int
  | 15 => .int
  | 16 => .int
  | 17 => .int
  | _ => .int
theorem nmX4 : ∀ a, a < 19 → ∀ b, b < 19 → a ≠ b → (TX4 a).2.1 ≠ (TX4 b).2.1 := by decide +kernel
theorem tyX4_ok : ∀ k, k < 19 → parseFieldDescriptor (TX4 k).2.2.1 = some (tyX4 k) := by decide +kernel
def RJx145de : String := "java/io/Serializable"
def TJx145de : u_T := fun k => match k with
  | _ => ("", "", "", false)
def tyJx145de : Nat → FieldType := fun k => match k with
  | _ => .int
theorem nmJx145de : ∀ a, a < 0 → ∀ b, b < 0 → a ≠ b → (TJx145de a).2.1 ≠ (TJx145de b).2.1 := by decide +kernel
theorem tyJx145de_ok : ∀ k, k < 0 → parseFieldDescriptor (TJx145de k).2.2.1 = some (tyJx145de k) := by decide +kernel
def RJ5 : String := "java/lang/AbstractStringBuilder"
def TJ5 : u_T := fun k => match k with
  | _ => ("", "", "", false)
def tyJ5 : Nat → FieldType := fun k => match k with
  | _ => .int
theorem nmJ5 : ∀ a, a < 0 → ∀ b, b < 0 → a ≠ b → (TJ5 a).2.1 ≠ (TJ5 b).2.1 := by decide +kernel
theorem tyJ5_ok : ∀ k, k < 0 → parseFieldDescriptor (TJ5 k).2.2.1 = some (tyJ5 k) := by decide +kernel
def RJx2cfe8 : String := "java/lang/Appendable"
def TJx2cfe8 : u_T := fun k => match k with
  | _ => ("", "", "", false)
def tyJx2cfe8 : Nat → FieldType := fun k => match k with
  | _ => .int
theorem nmJx2cfe8 : ∀ a, a < 0 → ∀ b, b < 0 → a ≠ b → (TJx2cfe8 a).2.1 ≠ (TJx2cfe8 b).2.1 := by decide +kernel
theorem tyJx2cfe8_ok : ∀ k, k < 0 → parseFieldDescriptor (TJx2cfe8 k).2.2.1 = some (tyJx2cfe8 k) := by decide +kernel
def RJx00060 : String := "java/lang/ArrayIndexOutOfBoundsException"
def TJx00060 : u_T := fun k => match k with
  | 0 => ("java/lang/Throwable", "backtrace", "Ljava/lang/Object;", false)
  | 1 => ("java/lang/Throwable", "detailMessage", "Ljava/lang/String;", false)
  | 2 => ("java/lang/Throwable", "cause", "Ljava/lang/Throwable;", false)
  | 3 => ("java/lang/Throwable", "stackTrace", "[Ljava/lang/StackTraceElement;", false)
  | 4 => ("java/lang/Throwable", "depth", "I", false)
  | _ => ("java/lang/Throwable", "suppressedExceptions", "Ljava/util/List;", false)
def tyJx00060 : Nat → FieldType := fun k => match k with
  | 0 => .object "java/lang/Object"
  | 1 => .object "java/lang/String"
  | 2 => .object "java/lang/Throwable"
  | 3 => .array (.object "java/lang/StackTraceElement")
  | 4 => .int
  | _ => .object "java/util/List"
theorem nmJx00060 : ∀ a, a < 6 → ∀ b, b < 6 → a ≠ b → (TJx00060 a).2.1 ≠ (TJx00060 b).2.1 := by decide +kernel
theorem tyJx00060_ok : ∀ k, k < 6 → parseFieldDescriptor (TJx00060 k).2.2.1 = some (tyJx00060 k) := by decide +kernel
def RJx9f9b0 : String := "java/lang/CharSequence"
def TJx9f9b0 : u_T := fun k => match k with
  | _ => ("", "", "", false)
def tyJx9f9b0 : Nat → FieldType := fun k => match k with
  | _ => .int
theorem nmJx9f9b0 : ∀ a, a < 0 → ∀ b, b < 0 → a ≠ b → (TJx9f9b0 a).2.1 ≠ (TJx9f9b0 b).2.1 := by decide +kernel
theorem tyJx9f9b0_ok : ∀ k, k < 0 → parseFieldDescriptor (TJx9f9b0 k).2.2.1 = some (tyJx9f9b0 k) := by decide +kernel
def RJ11 : String := "java/lang/Character"
def TJ11 : u_T := fun k => match k with
  | _ => ("", "", "", false)
def tyJ11 : Nat → FieldType := fun k => match k with
  | _ => .int
theorem nmJ11 : ∀ a, a < 0 → ∀ b, b < 0 → a ≠ b → (TJ11 a).2.1 ≠ (TJ11 b).2.1 := by decide +kernel
theorem tyJ11_ok : ∀ k, k < 0 → parseFieldDescriptor (TJ11 k).2.2.1 = some (tyJ11 k) := by decide +kernel
def RJx8e188 : String := "java/lang/Cloneable"
def TJx8e188 : u_T := fun k => match k with
  | _ => ("", "", "", false)
def tyJx8e188 : Nat → FieldType := fun k => match k with
  | _ => .int
theorem nmJx8e188 : ∀ a, a < 0 → ∀ b, b < 0 → a ≠ b → (TJx8e188 a).2.1 ≠ (TJx8e188 b).2.1 := by decide +kernel
theorem tyJx8e188_ok : ∀ k, k < 0 → parseFieldDescriptor (TJx8e188 k).2.2.1 = some (tyJx8e188 k) := by decide +kernel
def RJxb160c : String := "java/lang/Comparable"
def TJxb160c : u_T := fun k => match k with
  | _ => ("", "", "", false)
def tyJxb160c : Nat → FieldType := fun k => match k with
  | _ => .int
theorem nmJxb160c : ∀ a, a < 0 → ∀ b, b < 0 → a ≠ b → (TJxb160c a).2.1 ≠ (TJxb160c b).2.1 := by decide +kernel
theorem tyJxb160c_ok : ∀ k, k < 0 → parseFieldDescriptor (TJxb160c k).2.2.1 = some (tyJxb160c k) := by decide +kernel
def RJxf58ca : String := "java/lang/Float"
def TJxf58ca : u_T := fun k => match k with
  | _ => ("", "", "", false)
def tyJxf58ca : Nat → FieldType := fun k => match k with
  | _ => .int
theorem nmJxf58ca : ∀ a, a < 0 → ∀ b, b < 0 → a ≠ b → (TJxf58ca a).2.1 ≠ (TJxf58ca b).2.1 := by decide +kernel
theorem tyJxf58ca_ok : ∀ k, k < 0 → parseFieldDescriptor (TJxf58ca k).2.2.1 = some (tyJxf58ca k) := by decide +kernel
def RJxabbfe : String := "java/lang/Integer$IntegerCache"
def TJxabbfe : u_T := fun k => match k with
  | _ => ("", "", "", false)
def tyJxabbfe : Nat → FieldType := fun k => match k with
  | _ => .int
theorem nmJxabbfe : ∀ a, a < 0 → ∀ b, b < 0 → a ≠ b → (TJxabbfe a).2.1 ≠ (TJxabbfe b).2.1 := by decide +kernel
theorem tyJxabbfe_ok : ∀ k, k < 0 → parseFieldDescriptor (TJxabbfe k).2.2.1 = some (tyJxabbfe k) := by decide +kernel
def RJ6 : String := "java/lang/Integer"
def TJ6 : u_T := fun k => match k with
  | _ => ("java/lang/Integer", "value", "I", true)
def tyJ6 : Nat → FieldType := fun k => match k with
  | _ => .int
theorem nmJ6 : ∀ a, a < 1 → ∀ b, b < 1 → a ≠ b → (TJ6 a).2.1 ≠ (TJ6 b).2.1 := by decide +kernel
theorem tyJ6_ok : ∀ k, k < 1 → parseFieldDescriptor (TJ6 k).2.2.1 = some (tyJ6 k) := by decide +kernel
def RJxab1ab : String := "java/lang/Iterable"
def TJxab1ab : u_T := fun k => match k with
  | _ => ("", "", "", false)
def tyJxab1ab : Nat → FieldType := fun k => match k with
  | _ => .int
theorem nmJxab1ab : ∀ a, a < 0 → ∀ b, b < 0 → a ≠ b → (TJxab1ab a).2.1 ≠ (TJxab1ab b).2.1 := by decide +kernel
theorem tyJxab1ab_ok : ∀ k, k < 0 → parseFieldDescriptor (TJxab1ab k).2.2.1 = some (tyJxab1ab k) := by decide +kernel
def RJ9 : String := "java/lang/Math"
def TJ9 : u_T := fun k => match k with
  | _ => ("", "", "", false)
def tyJ9 : Nat → FieldType := fun k => match k with
  | _ => .int
theorem nmJ9 : ∀ a, a < 0 → ∀ b, b < 0 → a ≠ b → (TJ9 a).2.1 ≠ (TJ9 b).2.1 := by decide +kernel
theorem tyJ9_ok : ∀ k, k < 0 → parseFieldDescriptor (TJ9 k).2.2.1 = some (tyJ9 k) := by decide +kernel
def RJxd2413 : String := "java/lang/Number"
def TJxd2413 : u_T := fun k => match k with
  | _ => ("", "", "", false)
def tyJxd2413 : Nat → FieldType := fun k => match k with
  | _ => .int
theorem nmJxd2413 : ∀ a, a < 0 → ∀ b, b < 0 → a ≠ b → (TJxd2413 a).2.1 ≠ (TJxd2413 b).2.1 := by decide +kernel
theorem tyJxd2413_ok : ∀ k, k < 0 → parseFieldDescriptor (TJxd2413 k).2.2.1 = some (tyJxd2413 k) := by decide +kernel
def RJ0 : String := "java/lang/String"
def TJ0 : u_T := fun k => match k with
  | 0 => ("java/lang/String", "value", "[B", true)
  | 1 => ("java/lang/String", "coder", "B", true)
  | 2 => ("java/lang/String", "hash", "I", false)
  | _ => ("java/lang/String", "hashIsZero", "Z", false)
def tyJ0 : Nat → FieldType := fun k => match k with
  | 0 => .array .byte
  | 1 => .byte
  | 2 => .int
  | _ => .boolean
theorem nmJ0 : ∀ a, a < 4 → ∀ b, b < 4 → a ≠ b → (TJ0 a).2.1 ≠ (TJ0 b).2.1 := by decide +kernel
theorem tyJ0_ok : ∀ k, k < 4 → parseFieldDescriptor (TJ0 k).2.2.1 = some (tyJ0 k) := by decide +kernel
def RJ4 : String := "java/lang/StringBuilder"
def TJ4 : u_T := fun k => match k with
  | 0 => ("java/lang/AbstractStringBuilder", "value", "[B", false)
  | 1 => ("java/lang/AbstractStringBuilder", "coder", "B", false)
  | 2 => ("java/lang/AbstractStringBuilder", "maybeLatin1", "Z", false)
  | _ => ("java/lang/AbstractStringBuilder", "count", "I", false)
def tyJ4 : Nat → FieldType := fun k => match k with
  | 0 => .array .byte
  | 1 => .byte
  | 2 => .boolean
  | _ => .int
theorem nmJ4 : ∀ a, a < 4 → ∀ b, b < 4 → a ≠ b → (TJ4 a).2.1 ≠ (TJ4 b).2.1 := by decide +kernel
theorem tyJ4_ok : ∀ k, k < 4 → parseFieldDescriptor (TJ4 k).2.2.1 = some (tyJ4 k) := by decide +kernel
def RJ1 : String := "java/lang/StringLatin1"
def TJ1 : u_T := fun k => match k with
  | _ => ("", "", "", false)
def tyJ1 : Nat → FieldType := fun k => match k with
  | _ => .int
theorem nmJ1 : ∀ a, a < 0 → ∀ b, b < 0 → a ≠ b → (TJ1 a).2.1 ≠ (TJ1 b).2.1 := by decide +kernel
theorem tyJ1_ok : ∀ k, k < 0 → parseFieldDescriptor (TJ1 k).2.2.1 = some (tyJ1 k) := by decide +kernel
def RJ2 : String := "java/lang/StringUTF16"
def TJ2 : u_T := fun k => match k with
  | _ => ("", "", "", false)
def tyJ2 : Nat → FieldType := fun k => match k with
  | _ => .int
theorem nmJ2 : ∀ a, a < 0 → ∀ b, b < 0 → a ≠ b → (TJ2 a).2.1 ≠ (TJ2 b).2.1 := by decide +kernel
theorem tyJ2_ok : ∀ k, k < 0 → parseFieldDescriptor (TJ2 k).2.2.1 = some (tyJ2 k) := by decide +kernel
def RJ10 : String := "java/lang/System"
def TJ10 : u_T := fun k => match k with
  | _ => ("", "", "", false)
def tyJ10 : Nat → FieldType := fun k => match k with
  | _ => .int
theorem nmJ10 : ∀ a, a < 0 → ∀ b, b < 0 → a ≠ b → (TJ10 a).2.1 ≠ (TJ10 b).2.1 := by decide +kernel
theorem tyJ10_ok : ∀ k, k < 0 → parseFieldDescriptor (TJ10 k).2.2.1 = some (tyJ10 k) := by decide +kernel
def RJxfd54e : String := "java/lang/constant/Constable"
def TJxfd54e : u_T := fun k => match k with
  | _ => ("", "", "", false)
def tyJxfd54e : Nat → FieldType := fun k => match k with
  | _ => .int
theorem nmJxfd54e : ∀ a, a < 0 → ∀ b, b < 0 → a ≠ b → (TJxfd54e a).2.1 ≠ (TJxfd54e b).2.1 := by decide +kernel
theorem tyJxfd54e_ok : ∀ k, k < 0 → parseFieldDescriptor (TJxfd54e k).2.2.1 = some (tyJxfd54e k) := by decide +kernel
def RJx3cf43 : String := "java/lang/constant/ConstantDesc"
def TJx3cf43 : u_T := fun k => match k with
  | _ => ("", "", "", false)
def tyJx3cf43 : Nat → FieldType := fun k => match k with
  | _ => .int
theorem nmJx3cf43 : ∀ a, a < 0 → ∀ b, b < 0 → a ≠ b → (TJx3cf43 a).2.1 ≠ (TJx3cf43 b).2.1 := by decide +kernel
theorem tyJx3cf43_ok : ∀ k, k < 0 → parseFieldDescriptor (TJx3cf43 k).2.2.1 = some (tyJx3cf43 k) := by decide +kernel
def RJxa1e45 : String := "java/util/AbstractCollection"
def TJxa1e45 : u_T := fun k => match k with
  | _ => ("", "", "", false)
def tyJxa1e45 : Nat → FieldType := fun k => match k with
  | _ => .int
theorem nmJxa1e45 : ∀ a, a < 0 → ∀ b, b < 0 → a ≠ b → (TJxa1e45 a).2.1 ≠ (TJxa1e45 b).2.1 := by decide +kernel
theorem tyJxa1e45_ok : ∀ k, k < 0 → parseFieldDescriptor (TJxa1e45 k).2.2.1 = some (tyJxa1e45 k) := by decide +kernel
def RJxc12de : String := "java/util/AbstractList"
def TJxc12de : u_T := fun k => match k with
  | _ => ("", "", "", false)
def tyJxc12de : Nat → FieldType := fun k => match k with
  | _ => .int
theorem nmJxc12de : ∀ a, a < 0 → ∀ b, b < 0 → a ≠ b → (TJxc12de a).2.1 ≠ (TJxc12de b).2.1 := by decide +kernel
theorem tyJxc12de_ok : ∀ k, k < 0 → parseFieldDescriptor (TJxc12de k).2.2.1 = some (tyJxc12de k) := by decide +kernel
def RJx35411 : String := "java/util/ArrayList$Itr"
def TJx35411 : u_T := fun k => match k with
  | 0 => ("java/util/ArrayList$Itr", "cursor", "I", false)
  | 1 => ("java/util/ArrayList$Itr", "lastRet", "I", false)
  | 2 => ("java/util/ArrayList$Itr", "expectedModCount", "I", false)
  | _ => ("java/util/ArrayList$Itr", "this$0", "Ljava/util/ArrayList;", true)
def tyJx35411 : Nat → FieldType := fun k => match k with
  | 0 => .int
  | 1 => .int
  | 2 => .int
  | _ => .object "java/util/ArrayList"
theorem nmJx35411 : ∀ a, a < 4 → ∀ b, b < 4 → a ≠ b → (TJx35411 a).2.1 ≠ (TJx35411 b).2.1 := by decide +kernel
theorem tyJx35411_ok : ∀ k, k < 4 → parseFieldDescriptor (TJx35411 k).2.2.1 = some (tyJx35411 k) := by decide +kernel
def RJx4a65c : String := "java/util/ArrayList"
def TJx4a65c : u_T := fun k => match k with
  | 0 => ("java/util/AbstractList", "modCount", "I", false)
  | 1 => ("java/util/ArrayList", "elementData", "[Ljava/lang/Object;", false)
  | _ => ("java/util/ArrayList", "size", "I", false)
def tyJx4a65c : Nat → FieldType := fun k => match k with
  | 0 => .int
  | 1 => .array (.object "java/lang/Object")
  | _ => .int
theorem nmJx4a65c : ∀ a, a < 3 → ∀ b, b < 3 → a ≠ b → (TJx4a65c a).2.1 ≠ (TJx4a65c b).2.1 := by decide +kernel
theorem tyJx4a65c_ok : ∀ k, k < 3 → parseFieldDescriptor (TJx4a65c k).2.2.1 = some (tyJx4a65c k) := by decide +kernel
def RJ7 : String := "java/util/Arrays"
def TJ7 : u_T := fun k => match k with
  | _ => ("", "", "", false)
def tyJ7 : Nat → FieldType := fun k => match k with
  | _ => .int
theorem nmJ7 : ∀ a, a < 0 → ∀ b, b < 0 → a ≠ b → (TJ7 a).2.1 ≠ (TJ7 b).2.1 := by decide +kernel
theorem tyJ7_ok : ∀ k, k < 0 → parseFieldDescriptor (TJ7 k).2.2.1 = some (tyJ7 k) := by decide +kernel
def RJx5ef63 : String := "java/util/Collection"
def TJx5ef63 : u_T := fun k => match k with
  | _ => ("", "", "", false)
def tyJx5ef63 : Nat → FieldType := fun k => match k with
  | _ => .int
theorem nmJx5ef63 : ∀ a, a < 0 → ∀ b, b < 0 → a ≠ b → (TJx5ef63 a).2.1 ≠ (TJx5ef63 b).2.1 := by decide +kernel
theorem tyJx5ef63_ok : ∀ k, k < 0 → parseFieldDescriptor (TJx5ef63 k).2.2.1 = some (tyJx5ef63 k) := by decide +kernel
def RJx4d0d8 : String := "java/util/Iterator"
def TJx4d0d8 : u_T := fun k => match k with
  | _ => ("", "", "", false)
def tyJx4d0d8 : Nat → FieldType := fun k => match k with
  | _ => .int
theorem nmJx4d0d8 : ∀ a, a < 0 → ∀ b, b < 0 → a ≠ b → (TJx4d0d8 a).2.1 ≠ (TJx4d0d8 b).2.1 := by decide +kernel
theorem tyJx4d0d8_ok : ∀ k, k < 0 → parseFieldDescriptor (TJx4d0d8 k).2.2.1 = some (tyJx4d0d8 k) := by decide +kernel
def RJxbd725 : String := "java/util/List"
def TJxbd725 : u_T := fun k => match k with
  | _ => ("", "", "", false)
def tyJxbd725 : Nat → FieldType := fun k => match k with
  | _ => .int
theorem nmJxbd725 : ∀ a, a < 0 → ∀ b, b < 0 → a ≠ b → (TJxbd725 a).2.1 ≠ (TJxbd725 b).2.1 := by decide +kernel
theorem tyJxbd725_ok : ∀ k, k < 0 → parseFieldDescriptor (TJxbd725 k).2.2.1 = some (tyJxbd725 k) := by decide +kernel
def RJ15 : String := "java/util/Objects"
def TJ15 : u_T := fun k => match k with
  | _ => ("", "", "", false)
def tyJ15 : Nat → FieldType := fun k => match k with
  | _ => .int
theorem nmJ15 : ∀ a, a < 0 → ∀ b, b < 0 → a ≠ b → (TJ15 a).2.1 ≠ (TJ15 b).2.1 := by decide +kernel
theorem tyJ15_ok : ∀ k, k < 0 → parseFieldDescriptor (TJ15 k).2.2.1 = some (tyJ15 k) := by decide +kernel
def RJxf0a74 : String := "java/util/RandomAccess"
def TJxf0a74 : u_T := fun k => match k with
  | _ => ("", "", "", false)
def tyJxf0a74 : Nat → FieldType := fun k => match k with
  | _ => .int
theorem nmJxf0a74 : ∀ a, a < 0 → ∀ b, b < 0 → a ≠ b → (TJxf0a74 a).2.1 ≠ (TJxf0a74 b).2.1 := by decide +kernel
theorem tyJxf0a74_ok : ∀ k, k < 0 → parseFieldDescriptor (TJxf0a74 k).2.2.1 = some (tyJxf0a74 k) := by decide +kernel
def RJxa66e6 : String := "java/util/SequencedCollection"
def TJxa66e6 : u_T := fun k => match k with
  | _ => ("", "", "", false)
def tyJxa66e6 : Nat → FieldType := fun k => match k with
  | _ => .int
theorem nmJxa66e6 : ∀ a, a < 0 → ∀ b, b < 0 → a ≠ b → (TJxa66e6 a).2.1 ≠ (TJxa66e6 b).2.1 := by decide +kernel
theorem tyJxa66e6_ok : ∀ k, k < 0 → parseFieldDescriptor (TJxa66e6 k).2.2.1 = some (tyJxa66e6 k) := by decide +kernel
def RJ8 : String := "jdk/internal/util/ArraysSupport"
def TJ8 : u_T := fun k => match k with
  | _ => ("", "", "", false)
def tyJ8 : Nat → FieldType := fun k => match k with
  | _ => .int
theorem nmJ8 : ∀ a, a < 0 → ∀ b, b < 0 → a ≠ b → (TJ8 a).2.1 ≠ (TJ8 b).2.1 := by decide +kernel
theorem tyJ8_ok : ∀ k, k < 0 → parseFieldDescriptor (TJ8 k).2.2.1 = some (tyJ8 k) := by decide +kernel
def RJ3 : String := "jdk/internal/util/Preconditions"
def TJ3 : u_T := fun k => match k with
  | _ => ("", "", "", false)
def tyJ3 : Nat → FieldType := fun k => match k with
  | _ => .int
theorem nmJ3 : ∀ a, a < 0 → ∀ b, b < 0 → a ≠ b → (TJ3 a).2.1 ≠ (TJ3 b).2.1 := by decide +kernel
theorem tyJ3_ok : ∀ k, k < 0 → parseFieldDescriptor (TJ3 k).2.2.1 = some (tyJ3 k) := by decide +kernel
def RL : String := "PegshoreHouseLaw"
abbrev cJ0_charAt_5068e : ByteArray := prog_27_method_56_code
def yJ0_charAt_5068e : MethodName := ⟨RJ0, "charAt", "(I)C"⟩
abbrev cJ0_checkBoundsBeginEnd_23922 : ByteArray := prog_27_method_158_code
def yJ0_checkBoundsBeginEnd_23922 : MethodName := ⟨RJ0, "checkBoundsBeginEnd", "(III)V"⟩
abbrev cJ0_checkBoundsOffCount_cabcc : ByteArray := prog_27_method_157_code
def yJ0_checkBoundsOffCount_cabcc : MethodName := ⟨RJ0, "checkBoundsOffCount", "(III)I"⟩
abbrev cJ0_checkIndex_df160 : ByteArray := prog_27_method_155_code
def yJ0_checkIndex_df160 : MethodName := ⟨RJ0, "checkIndex", "(II)V"⟩
abbrev cJ0_coder_7d493 : ByteArray := prog_27_method_152_code
def yJ0_coder_7d493 : MethodName := ⟨RJ0, "coder", "()B"⟩
abbrev cJ0_getBytes_840e7 : ByteArray := prog_27_method_147_code
def yJ0_getBytes_840e7 : MethodName := ⟨RJ0, "getBytes", "([BIB)V"⟩
abbrev cJ0_indexOf_0f7a4 : ByteArray := prog_27_method_79_code
def yJ0_indexOf_0f7a4 : MethodName := ⟨RJ0, "indexOf", "(I)I"⟩
abbrev cJ0_indexOf_7cf53 : ByteArray := prog_27_method_80_code
def yJ0_indexOf_7cf53 : MethodName := ⟨RJ0, "indexOf", "(II)I"⟩
abbrev cJ0_init_81219 : ByteArray := prog_27_method_53_code
def yJ0_init_81219 : MethodName := ⟨RJ0, "<init>", "(Ljava/lang/StringBuilder;)V"⟩
abbrev cJ0_init_db425 : ByteArray := prog_27_method_150_code
def yJ0_init_db425 : MethodName := ⟨RJ0, "<init>", "(Ljava/lang/AbstractStringBuilder;Ljava/lang/Void;)V"⟩
abbrev cJ0_isLatin1_aae02 : ByteArray := prog_27_method_154_code
def yJ0_isLatin1_aae02 : MethodName := ⟨RJ0, "isLatin1", "()Z"⟩
abbrev cJ0_length_8abf5 : ByteArray := prog_27_method_54_code
def yJ0_length_8abf5 : MethodName := ⟨RJ0, "length", "()I"⟩
abbrev cJ1_canEncode_9a6ad : ByteArray := prog_29_method_4_code
def yJ1_canEncode_9a6ad : MethodName := ⟨RJ1, "canEncode", "(I)Z"⟩
abbrev cJ1_charAt_3b067 : ByteArray := prog_29_method_2_code
def yJ1_charAt_3b067 : MethodName := ⟨RJ1, "charAt", "([BI)C"⟩
abbrev cJ1_indexOfChar_4cfef : ByteArray := prog_29_method_23_code
def yJ1_indexOfChar_4cfef : MethodName := ⟨RJ1, "indexOfChar", "([BIII)I"⟩
abbrev cJ1_indexOf_4cfef : ByteArray := prog_29_method_22_code
def yJ1_indexOf_4cfef : MethodName := ⟨RJ1, "indexOf", "([BIII)I"⟩
abbrev cJ1_inflate_0e8fd : ByteArray := prog_29_method_50_code
def yJ1_inflate_0e8fd : MethodName := ⟨RJ1, "inflate", "([BI[BII)V"⟩
abbrev cJ11_highSurrogate_5068e : ByteArray := prog_13_method_28_code
def yJ11_highSurrogate_5068e : MethodName := ⟨RJ11, "highSurrogate", "(I)C"⟩
abbrev cJ11_isValidCodePoint_9a6ad : ByteArray := prog_13_method_11_code
def yJ11_isValidCodePoint_9a6ad : MethodName := ⟨RJ11, "isValidCodePoint", "(I)Z"⟩
abbrev cJ11_lowSurrogate_5068e : ByteArray := prog_13_method_29_code
def yJ11_lowSurrogate_5068e : MethodName := ⟨RJ11, "lowSurrogate", "(I)C"⟩
abbrev cJ15_checkIndex_7cf53 : ByteArray := prog_45_method_17_code
def yJ15_checkIndex_7cf53 : MethodName := ⟨RJ15, "checkIndex", "(II)I"⟩
abbrev cJ2_charAt_3b067 : ByteArray := prog_30_method_83_code
def yJ2_charAt_3b067 : MethodName := ⟨RJ2, "charAt", "([BI)C"⟩
abbrev cJ2_checkBoundsBeginEnd_d044e : ByteArray := prog_30_method_93_code
def yJ2_checkBoundsBeginEnd_d044e : MethodName := ⟨RJ2, "checkBoundsBeginEnd", "(II[B)V"⟩
abbrev cJ2_checkBoundsOffCount_d044e : ByteArray := prog_30_method_94_code
def yJ2_checkBoundsOffCount_d044e : MethodName := ⟨RJ2, "checkBoundsOffCount", "(II[B)V"⟩
abbrev cJ2_checkIndex_2214a : ByteArray := prog_30_method_91_code
def yJ2_checkIndex_2214a : MethodName := ⟨RJ2, "checkIndex", "(I[B)V"⟩
abbrev cJ2_coderFromArrayLen_85cad : ByteArray := prog_30_method_15_code
def yJ2_coderFromArrayLen_85cad : MethodName := ⟨RJ2, "coderFromArrayLen", "([BI)B"⟩
abbrev cJ2_compress_39247 : ByteArray := prog_30_method_17_code
def yJ2_compress_39247 : MethodName := ⟨RJ2, "compress", "([BII)[B"⟩
abbrev cJ2_compress_5af95 : ByteArray := prog_30_method_22_code
def yJ2_compress_5af95 : MethodName := ⟨RJ2, "compress", "([BI[BII)I"⟩
abbrev cJ2_getChar_3b067 : ByteArray := prog_30_method_5_code
def yJ2_getChar_3b067 : MethodName := ⟨RJ2, "getChar", "([BI)C"⟩
abbrev cJ2_getChars_46870 : ByteArray := prog_30_method_77_code
def yJ2_getChars_46870 : MethodName := ⟨RJ2, "getChars", "(III[B)I"⟩
abbrev cJ2_getChars_ba4f3 : ByteArray := prog_30_method_89_code
def yJ2_getChars_ba4f3 : MethodName := ⟨RJ2, "getChars", "(II[B)I"⟩
abbrev cJ2_indexOfCharUnsafe_4cfef : ByteArray := prog_30_method_48_code
def yJ2_indexOfCharUnsafe_4cfef : MethodName := ⟨RJ2, "indexOfCharUnsafe", "([BIII)I"⟩
abbrev cJ2_indexOfChar_4cfef : ByteArray := prog_30_method_47_code
def yJ2_indexOfChar_4cfef : MethodName := ⟨RJ2, "indexOfChar", "([BIII)I"⟩
abbrev cJ2_indexOfSupplementary_4cfef : ByteArray := prog_30_method_49_code
def yJ2_indexOfSupplementary_4cfef : MethodName := ⟨RJ2, "indexOfSupplementary", "([BIII)I"⟩
abbrev cJ2_indexOf_4cfef : ByteArray := prog_30_method_40_code
def yJ2_indexOf_4cfef : MethodName := ⟨RJ2, "indexOf", "([BIII)I"⟩
abbrev cJ2_inflate_0e8fd : ByteArray := prog_30_method_86_code
def yJ2_inflate_0e8fd : MethodName := ⟨RJ2, "inflate", "([BI[BII)V"⟩
abbrev cJ2_length_9d52b : ByteArray := prog_30_method_6_code
def yJ2_length_9d52b : MethodName := ⟨RJ2, "length", "([B)I"⟩
abbrev cJ2_newBytesFor_77867 : ByteArray := prog_30_method_2_code
def yJ2_newBytesFor_77867 : MethodName := ⟨RJ2, "newBytesFor", "(I)[B"⟩
abbrev cJ2_newBytesLength_0f7a4 : ByteArray := prog_30_method_3_code
def yJ2_newBytesLength_0f7a4 : MethodName := ⟨RJ2, "newBytesLength", "(I)I"⟩
abbrev cJ2_putChar_b72d1 : ByteArray := prog_30_method_4_code
def yJ2_putChar_b72d1 : MethodName := ⟨RJ2, "putChar", "([BII)V"⟩
abbrev cJ2_putCharsAt_cd4e5 : ByteArray := prog_30_method_81_code
def yJ2_putCharsAt_cd4e5 : MethodName := ⟨RJ2, "putCharsAt", "([BICCCC)I"⟩
abbrev cJ3_checkFromIndexSize_8c36e : ByteArray := prog_49_method_13_code
def yJ3_checkFromIndexSize_8c36e : MethodName := ⟨RJ3, "checkFromIndexSize", "(IIILjava/util/function/BiFunction;)I"⟩
abbrev cJ3_checkFromToIndex_8c36e : ByteArray := prog_49_method_12_code
def yJ3_checkFromToIndex_8c36e : MethodName := ⟨RJ3, "checkFromToIndex", "(IIILjava/util/function/BiFunction;)I"⟩
abbrev cJ3_checkIndex_8e157 : ByteArray := prog_49_method_11_code
def yJ3_checkIndex_8e157 : MethodName := ⟨RJ3, "checkIndex", "(IILjava/util/function/BiFunction;)I"⟩
abbrev cJ4_append_15ec4 : ByteArray := prog_28_method_7_code
def yJ4_append_15ec4 : MethodName := ⟨RJ4, "append", "(Ljava/lang/String;)Ljava/lang/StringBuilder;"⟩
abbrev cJ4_append_bf812 : ByteArray := prog_28_method_15_code
def yJ4_append_bf812 : MethodName := ⟨RJ4, "append", "(I)Ljava/lang/StringBuilder;"⟩
abbrev cJ4_init_da8c8 : ByteArray := prog_28_method_1_code
def yJ4_init_da8c8 : MethodName := ⟨RJ4, "<init>", "()V"⟩
abbrev cJ4_length_8abf5 : ByteArray := prog_28_method_93_code
def yJ4_length_8abf5 : MethodName := ⟨RJ4, "length", "()I"⟩
abbrev cJ4_toString_0e30d : ByteArray := prog_28_method_42_code
def yJ4_toString_0e30d : MethodName := ⟨RJ4, "toString", "()Ljava/lang/String;"⟩
abbrev cJ5_appendNull_278bc : ByteArray := prog_8_method_26_code
def yJ5_appendNull_278bc : MethodName := ⟨RJ5, "appendNull", "()Ljava/lang/AbstractStringBuilder;"⟩
abbrev cJ5_append_c97b9 : ByteArray := prog_8_method_32_code
def yJ5_append_c97b9 : MethodName := ⟨RJ5, "append", "(I)Ljava/lang/AbstractStringBuilder;"⟩
abbrev cJ5_append_cf1ce : ByteArray := prog_8_method_22_code
def yJ5_append_cf1ce : MethodName := ⟨RJ5, "append", "(Ljava/lang/String;)Ljava/lang/AbstractStringBuilder;"⟩
abbrev cJ5_ensureCapacityInternal_d00df : ByteArray := prog_8_method_9_code
def yJ5_ensureCapacityInternal_d00df : MethodName := ⟨RJ5, "ensureCapacityInternal", "(I)V"⟩
abbrev cJ5_getValue_6d5f1 : ByteArray := prog_8_method_64_code
def yJ5_getValue_6d5f1 : MethodName := ⟨RJ5, "getValue", "()[B"⟩
abbrev cJ5_inflateIfNeededFor_a7421 : ByteArray := prog_8_method_71_code
def yJ5_inflateIfNeededFor_a7421 : MethodName := ⟨RJ5, "inflateIfNeededFor", "(Ljava/lang/String;)V"⟩
abbrev cJ5_inflate_da8c8 : ByteArray := prog_8_method_11_code
def yJ5_inflate_da8c8 : MethodName := ⟨RJ5, "inflate", "()V"⟩
abbrev cJ5_init_d00df : ByteArray := prog_8_method_2_code
def yJ5_init_d00df : MethodName := ⟨RJ5, "<init>", "(I)V"⟩
abbrev cJ5_isLatin1_aae02 : ByteArray := prog_8_method_68_code
def yJ5_isLatin1_aae02 : MethodName := ⟨RJ5, "isLatin1", "()Z"⟩
abbrev cJ5_length_8abf5 : ByteArray := prog_8_method_6_code
def yJ5_length_8abf5 : MethodName := ⟨RJ5, "length", "()I"⟩
abbrev cJ5_newCapacity_0f7a4 : ByteArray := prog_8_method_10_code
def yJ5_newCapacity_0f7a4 : MethodName := ⟨RJ5, "newCapacity", "(I)I"⟩
abbrev cJ5_putStringAt_47b60 : ByteArray := prog_8_method_73_code
def yJ5_putStringAt_47b60 : MethodName := ⟨RJ5, "putStringAt", "(ILjava/lang/String;)V"⟩
abbrev cJ6_bitCount_0f7a4 : ByteArray := prog_21_method_49_code
def yJ6_bitCount_0f7a4 : MethodName := ⟨RJ6, "bitCount", "(I)I"⟩
abbrev cJ6_getChars_ba4f3 : ByteArray := prog_21_method_12_code
def yJ6_getChars_ba4f3 : MethodName := ⟨RJ6, "getChars", "(II[B)I"⟩
abbrev cJ6_init_d00df : ByteArray := prog_21_method_23_code
def yJ6_init_d00df : MethodName := ⟨RJ6, "<init>", "(I)V"⟩
abbrev cJ6_intValue_8abf5 : ByteArray := prog_21_method_27_code
def yJ6_intValue_8abf5 : MethodName := ⟨RJ6, "intValue", "()I"⟩
abbrev cJ6_numberOfTrailingZeros_0f7a4 : ByteArray := prog_21_method_48_code
def yJ6_numberOfTrailingZeros_0f7a4 : MethodName := ⟨RJ6, "numberOfTrailingZeros", "(I)I"⟩
abbrev cJ6_stringSize_0f7a4 : ByteArray := prog_21_method_13_code
def yJ6_stringSize_0f7a4 : MethodName := ⟨RJ6, "stringSize", "(I)I"⟩
abbrev cJ6_valueOf_2dffe : ByteArray := prog_21_method_22_code
def yJ6_valueOf_2dffe : MethodName := ⟨RJ6, "valueOf", "(I)Ljava/lang/Integer;"⟩
abbrev cJ7_checkLength_df160 : ByteArray := prog_40_method_131_code
def yJ7_checkLength_df160 : MethodName := ⟨RJ7, "checkLength", "(II)V"⟩
abbrev cJ7_copyOfRangeByte_39247 : ByteArray := prog_40_method_133_code
def yJ7_copyOfRangeByte_39247 : MethodName := ⟨RJ7, "copyOfRangeByte", "([BII)[B"⟩
abbrev cJ7_copyOfRange_39247 : ByteArray := prog_40_method_132_code
def yJ7_copyOfRange_39247 : MethodName := ⟨RJ7, "copyOfRange", "([BII)[B"⟩
abbrev cJ7_copyOf_1904c : ByteArray := prog_40_method_119_code
def yJ7_copyOf_1904c : MethodName := ⟨RJ7, "copyOf", "([Ljava/lang/Object;I)[Ljava/lang/Object;"⟩
abbrev cJ7_copyOf_6403c : ByteArray := prog_40_method_120_code
def yJ7_copyOf_6403c : MethodName := ⟨RJ7, "copyOf", "([Ljava/lang/Object;ILjava/lang/Class;)[Ljava/lang/Object;"⟩
abbrev cJ7_copyOf_9075b : ByteArray := prog_40_method_121_code
def yJ7_copyOf_9075b : MethodName := ⟨RJ7, "copyOf", "([BI)[B"⟩
abbrev cJ7_fill_479d4 : ByteArray := prog_40_method_112_code
def yJ7_fill_479d4 : MethodName := ⟨RJ7, "fill", "([ZIIZ)V"⟩
abbrev cJ7_fill_53178 : ByteArray := prog_40_method_103_code
def yJ7_fill_53178 : MethodName := ⟨RJ7, "fill", "([II)V"⟩
abbrev cJ7_rangeCheck_23922 : ByteArray := prog_40_method_30_code
def yJ7_rangeCheck_23922 : MethodName := ⟨RJ7, "rangeCheck", "(III)V"⟩
abbrev cJ8_hugeLength_7cf53 : ByteArray := prog_48_method_28_code
def yJ8_hugeLength_7cf53 : MethodName := ⟨RJ8, "hugeLength", "(II)I"⟩
abbrev cJ8_newLength_cabcc : ByteArray := prog_48_method_27_code
def yJ8_newLength_cabcc : MethodName := ⟨RJ8, "newLength", "(III)I"⟩
abbrev cJ9_abs_0f7a4 : ByteArray := prog_24_method_59_code
def yJ9_abs_0f7a4 : MethodName := ⟨RJ9, "abs", "(I)I"⟩
abbrev cJ9_max_7cf53 : ByteArray := prog_24_method_65_code
def yJ9_max_7cf53 : MethodName := ⟨RJ9, "max", "(II)I"⟩
abbrev cJ9_min_7cf53 : ByteArray := prog_24_method_69_code
def yJ9_min_7cf53 : MethodName := ⟨RJ9, "min", "(II)I"⟩
abbrev cJx00060_init_a7421 : ByteArray := prog_11_method_2_code
def yJx00060_init_a7421 : MethodName := ⟨RJx00060, "<init>", "(Ljava/lang/String;)V"⟩
abbrev cJx00060_init_d00df : ByteArray := prog_11_method_3_code
def yJx00060_init_d00df : MethodName := ⟨RJx00060, "<init>", "(I)V"⟩
abbrev cJx35411_checkForComodification_da8c8 : ByteArray := prog_39_method_6_code
def yJx35411_checkForComodification_da8c8 : MethodName := ⟨RJx35411, "checkForComodification", "()V"⟩
abbrev cJx35411_hasNext_aae02 : ByteArray := prog_39_method_2_code
def yJx35411_hasNext_aae02 : MethodName := ⟨RJx35411, "hasNext", "()Z"⟩
abbrev cJx35411_init_45d68 : ByteArray := prog_39_method_1_code
def yJx35411_init_45d68 : MethodName := ⟨RJx35411, "<init>", "(Ljava/util/ArrayList;)V"⟩
abbrev cJx35411_next_0502b : ByteArray := prog_39_method_3_code
def yJx35411_next_0502b : MethodName := ⟨RJx35411, "next", "()Ljava/lang/Object;"⟩
abbrev cJx4a65c_add_72be8 : ByteArray := prog_38_method_24_code
def yJx4a65c_add_72be8 : MethodName := ⟨RJx4a65c, "add", "(Ljava/lang/Object;[Ljava/lang/Object;I)V"⟩
abbrev cJx4a65c_add_9ea2d : ByteArray := prog_38_method_25_code
def yJx4a65c_add_9ea2d : MethodName := ⟨RJx4a65c, "add", "(Ljava/lang/Object;)Z"⟩
abbrev cJx4a65c_clear_da8c8 : ByteArray := prog_38_method_40_code
def yJx4a65c_clear_da8c8 : MethodName := ⟨RJx4a65c, "clear", "()V"⟩
abbrev cJx4a65c_elementData_915e3 : ByteArray := prog_38_method_18_code
def yJx4a65c_elementData_915e3 : MethodName := ⟨RJx4a65c, "elementData", "(I)Ljava/lang/Object;"⟩
abbrev cJx4a65c_fastRemove_b59b0 : ByteArray := prog_38_method_39_code
def yJx4a65c_fastRemove_b59b0 : MethodName := ⟨RJx4a65c, "fastRemove", "([Ljava/lang/Object;I)V"⟩
abbrev cJx4a65c_get_915e3 : ByteArray := prog_38_method_20_code
def yJx4a65c_get_915e3 : MethodName := ⟨RJx4a65c, "get", "(I)Ljava/lang/Object;"⟩
abbrev cJx4a65c_grow_92f84 : ByteArray := prog_38_method_6_code
def yJx4a65c_grow_92f84 : MethodName := ⟨RJx4a65c, "grow", "(I)[Ljava/lang/Object;"⟩
abbrev cJx4a65c_grow_d5877 : ByteArray := prog_38_method_7_code
def yJx4a65c_grow_d5877 : MethodName := ⟨RJx4a65c, "grow", "()[Ljava/lang/Object;"⟩
abbrev cJx4a65c_init_da8c8 : ByteArray := prog_38_method_2_code
def yJx4a65c_init_da8c8 : MethodName := ⟨RJx4a65c, "<init>", "()V"⟩
abbrev cJx4a65c_isEmpty_aae02 : ByteArray := prog_38_method_9_code
def yJx4a65c_isEmpty_aae02 : MethodName := ⟨RJx4a65c, "isEmpty", "()Z"⟩
abbrev cJx4a65c_iterator_32c93 : ByteArray := prog_38_method_55_code
def yJx4a65c_iterator_32c93 : MethodName := ⟨RJx4a65c, "iterator", "()Ljava/util/Iterator;"⟩
abbrev cJx4a65c_remove_915e3 : ByteArray := prog_38_method_29_code
def yJx4a65c_remove_915e3 : MethodName := ⟨RJx4a65c, "remove", "(I)Ljava/lang/Object;"⟩
abbrev cJx4a65c_size_8abf5 : ByteArray := prog_38_method_8_code
def yJx4a65c_size_8abf5 : MethodName := ⟨RJx4a65c, "size", "()I"⟩
abbrev cJxa1e45_init_da8c8 : ByteArray := prog_36_method_1_code
def yJxa1e45_init_da8c8 : MethodName := ⟨RJxa1e45, "<init>", "()V"⟩
abbrev cJxc12de_init_da8c8 : ByteArray := prog_37_method_1_code
def yJxc12de_init_da8c8 : MethodName := ⟨RJxc12de, "<init>", "()V"⟩
abbrev cJxd2413_init_da8c8 : ByteArray := prog_25_method_1_code
def yJxd2413_init_da8c8 : MethodName := ⟨RJxd2413, "<init>", "()V"⟩
abbrev cJxf58ca_floatToIntBits_5c35a : ByteArray := prog_17_method_24_code
def yJxf58ca_floatToIntBits_5c35a : MethodName := ⟨RJxf58ca, "floatToIntBits", "(F)I"⟩
abbrev cJxf58ca_isNaN_12338 : ByteArray := prog_17_method_6_code
def yJxf58ca_isNaN_12338 : MethodName := ⟨RJxf58ca, "isNaN", "(F)Z"⟩
abbrev cL_cell : ByteArray := method_7_code
def yL_cell : MethodName := ⟨RL, "cell", "(LPegshoreHouse;I[J)I"⟩
abbrev cL_colour : ByteArray := method_22_code
def yL_colour : MethodName := ⟨RL, "colour", "(LPegshoreHouse;II[J)I"⟩
abbrev cL_drill : ByteArray := method_4_code
def yL_drill : MethodName := ⟨RL, "drill", "(LPegshoreHouse;I[J)I"⟩
abbrev cL_fault : ByteArray := method_21_code
def yL_fault : MethodName := ⟨RL, "fault", "(LPegshoreHouse;[J)I"⟩
abbrev cL_faultAt : ByteArray := method_27_code
def yL_faultAt : MethodName := ⟨RL, "faultAt", "(LPegshoreHouse;[J)I"⟩
abbrev cL_fill : ByteArray := method_5_code
def yL_fill : MethodName := ⟨RL, "fill", "(LPegshoreHouse;I[J)I"⟩
abbrev cL_highest : ByteArray := method_18_code
def yL_highest : MethodName := ⟨RL, "highest", "(LPegshoreHouse;[J)I"⟩
abbrev cL_hint : ByteArray := method_15_code
def yL_hint : MethodName := ⟨RL, "hint", "(LPegshoreHouse;[J)I"⟩
abbrev cL_hole : ByteArray := method_6_code
def yL_hole : MethodName := ⟨RL, "hole", "(LPegshoreHouse;I[J)I"⟩
abbrev cL_isFit : ByteArray := method_23_code
def yL_isFit : MethodName := ⟨RL, "isFit", "(LPegshoreHouse;I[J)I"⟩
abbrev cL_jump : ByteArray := method_10_code
def yL_jump : MethodName := ⟨RL, "jump", "(LPegshoreHouse;II[J)I"⟩
abbrev cL_jumpAt : ByteArray := method_11_code
def yL_jumpAt : MethodName := ⟨RL, "jumpAt", "(LPegshoreHouse;I[J)I"⟩
abbrev cL_law : ByteArray := code
def yL_law : MethodName := ⟨RL, "law", "([I)Z"⟩
abbrev cL_leastForm : ByteArray := method_13_code
def yL_leastForm : MethodName := ⟨RL, "leastForm", "(LPegshoreHouse;I[J)I"⟩
abbrev cL_leastSweeps : ByteArray := method_17_code
def yL_leastSweeps : MethodName := ⟨RL, "leastSweeps", "(LPegshoreHouse;[J)I"⟩
abbrev cL_loses : ByteArray := method_16_code
def yL_loses : MethodName := ⟨RL, "loses", "(LPegshoreHouse;II[J)I"⟩
abbrev cL_mayJump : ByteArray := method_9_code
def yL_mayJump : MethodName := ⟨RL, "mayJump", "(LPegshoreHouse;II[J)I"⟩
abbrev cL_pegBits : ByteArray := method_28_code
def yL_pegBits : MethodName := ⟨RL, "pegBits", "(LPegshoreHouse;[J)I"⟩
abbrev cL_play : ByteArray := method_26_code
def yL_play : MethodName := ⟨RL, "play", "(LPegshoreHouse;[J)I"⟩
abbrev cL_put : ByteArray := method_8_code
def yL_put : MethodName := ⟨RL, "put", "(LPegshoreHouse;I[J)I"⟩
abbrev cL_setEnd : ByteArray := method_14_code
def yL_setEnd : MethodName := ⟨RL, "setEnd", "(LPegshoreHouse;I[J)I"⟩
abbrev cL_setKind : ByteArray := method_3_code
def yL_setKind : MethodName := ⟨RL, "setKind", "(LPegshoreHouse;C[J)I"⟩
abbrev cL_takeBack : ByteArray := method_12_code
def yL_takeBack : MethodName := ⟨RL, "takeBack", "(LPegshoreHouse;[J)I"⟩
abbrev cL_tell : ByteArray := method_25_code
def yL_tell : MethodName := ⟨RL, "tell", "(LPegshoreHouse;I[J)I"⟩
abbrev cL_weigh : ByteArray := method_19_code
def yL_weigh : MethodName := ⟨RL, "weigh", "(LPegshoreHouse;II[J)I"⟩
abbrev cL_weight : ByteArray := method_20_code
def yL_weight : MethodName := ⟨RL, "weight", "(LPegshoreHouse;I[J)I"⟩
abbrev cL_winning : ByteArray := method_24_code
def yL_winning : MethodName := ⟨RL, "winning", "(LPegshoreHouse;[J)I"⟩
abbrev cX0_addLine : ByteArray := prog_2_method_7_code
def yX0_addLine : MethodName := ⟨RX0, "addLine", "(II)V"⟩
abbrev cX0_ahead : ByteArray := prog_2_method_19_code
def yX0_ahead : MethodName := ⟨RX0, "ahead", "(II)I"⟩
abbrev cX0_behind : ByteArray := prog_2_method_18_code
def yX0_behind : MethodName := ⟨RX0, "behind", "(II)I"⟩
abbrev cX0_cellOf : ByteArray := prog_2_method_13_code
def yX0_cellOf : MethodName := ⟨RX0, "cellOf", "(I)I"⟩
abbrev cX0_changeKind : ByteArray := prog_2_method_2_code
def yX0_changeKind : MethodName := ⟨RX0, "changeKind", "(C)V"⟩
abbrev cX0_changeWeight : ByteArray := prog_2_method_25_code
def yX0_changeWeight : MethodName := ⟨RX0, "changeWeight", "(II)V"⟩
abbrev cX0_close : ByteArray := prog_2_method_4_code
def yX0_close : MethodName := ⟨RX0, "close", "(I)V"⟩
abbrev cX0_codeOf : ByteArray := prog_2_method_16_code
def yX0_codeOf : MethodName := ⟨RX0, "codeOf", "(I)I"⟩
abbrev cX0_colourOf : ByteArray := prog_2_method_28_code
def yX0_colourOf : MethodName := ⟨RX0, "colourOf", "(II)I"⟩
abbrev cX0_countColour : ByteArray := prog_2_method_29_code
def yX0_countColour : MethodName := ⟨RX0, "countColour", "(III)I"⟩
abbrev cX0_countJumps : ByteArray := prog_2_method_20_code
def yX0_countJumps : MethodName := ⟨RX0, "countJumps", "(I)I"⟩
abbrev cX0_faultLine : ByteArray := prog_2_method_27_code
def yX0_faultLine : MethodName := ⟨RX0, "faultLine", "()I"⟩
abbrev cX0_hasPegs : ByteArray := prog_2_method_14_code
def yX0_hasPegs : MethodName := ⟨RX0, "hasPegs", "(I)Z"⟩
abbrev cX0_holes : ByteArray := prog_2_method_10_code
def yX0_holes : MethodName := ⟨RX0, "holes", "()I"⟩
abbrev cX0_init : ByteArray := prog_2_method_1_code
def yX0_init : MethodName := ⟨RX0, "<init>", "()V"⟩
abbrev cX0_isFitColouring : ByteArray := prog_2_method_30_code
def yX0_isFitColouring : MethodName := ⟨RX0, "isFitColouring", "(I)Z"⟩
abbrev cX0_isHole : ByteArray := prog_2_method_11_code
def yX0_isHole : MethodName := ⟨RX0, "isHole", "(I)Z"⟩
abbrev cX0_isLine : ByteArray := prog_2_method_8_code
def yX0_isLine : MethodName := ⟨RX0, "isLine", "(II)Z"⟩
abbrev cX0_isSymmetry : ByteArray := prog_2_method_21_code
def yX0_isSymmetry : MethodName := ⟨RX0, "isSymmetry", "(I)Z"⟩
abbrev cX0_isTwoSteps : ByteArray := prog_2_method_9_code
def yX0_isTwoSteps : MethodName := ⟨RX0, "isTwoSteps", "(II)Z"⟩
abbrev cX0_layHoles : ByteArray := prog_2_method_5_code
def yX0_layHoles : MethodName := ⟨RX0, "layHoles", "()V"⟩
abbrev cX0_layLines : ByteArray := prog_2_method_6_code
def yX0_layLines : MethodName := ⟨RX0, "layLines", "()V"⟩
abbrev cX0_lineCount : ByteArray := prog_2_method_15_code
def yX0_lineCount : MethodName := ⟨RX0, "lineCount", "()I"⟩
abbrev cX0_lineOf : ByteArray := prog_2_method_17_code
def yX0_lineOf : MethodName := ⟨RX0, "lineOf", "(I)I"⟩
abbrev cX0_numberOf : ByteArray := prog_2_method_12_code
def yX0_numberOf : MethodName := ⟨RX0, "numberOf", "(I)I"⟩
abbrev cX0_open : ByteArray := prog_2_method_3_code
def yX0_open : MethodName := ⟨RX0, "open", "(I)V"⟩
abbrev cX0_turned : ByteArray := prog_2_method_22_code
def yX0_turned : MethodName := ⟨RX0, "turned", "(II)I"⟩
abbrev cX0_turnedPegs : ByteArray := prog_2_method_23_code
def yX0_turnedPegs : MethodName := ⟨RX0, "turnedPegs", "(II)I"⟩
abbrev cX0_weightOf : ByteArray := prog_2_method_24_code
def yX0_weightOf : MethodName := ⟨RX0, "weightOf", "(I)I"⟩
abbrev cX0_weightOfPegs : ByteArray := prog_2_method_26_code
def yX0_weightOfPegs : MethodName := ⟨RX0, "weightOfPegs", "(I)I"⟩
abbrev cX1_add : ByteArray := prog_3_method_4_code
def yX1_add : MethodName := ⟨RX1, "add", "(I)V"⟩
abbrev cX1_at : ByteArray := prog_3_method_3_code
def yX1_at : MethodName := ⟨RX1, "at", "(I)I"⟩
abbrev cX1_empty : ByteArray := prog_3_method_6_code
def yX1_empty : MethodName := ⟨RX1, "empty", "()V"⟩
abbrev cX1_init : ByteArray := prog_3_method_1_code
def yX1_init : MethodName := ⟨RX1, "<init>", "(I)V"⟩
abbrev cX1_removeLast : ByteArray := prog_3_method_5_code
def yX1_removeLast : MethodName := ⟨RX1, "removeLast", "()I"⟩
abbrev cX1_size : ByteArray := prog_3_method_2_code
def yX1_size : MethodName := ⟨RX1, "size", "()I"⟩
abbrev cX2_begin : ByteArray := prog_4_method_3_code
def yX2_begin : MethodName := ⟨RX2, "begin", "(I)V"⟩
abbrev cX2_changeFigure : ByteArray := prog_4_method_9_code
def yX2_changeFigure : MethodName := ⟨RX2, "changeFigure", "(II)V"⟩
abbrev cX2_figureAt : ByteArray := prog_4_method_8_code
def yX2_figureAt : MethodName := ⟨RX2, "figureAt", "(I)I"⟩
abbrev cX2_figureLeads : ByteArray := prog_4_method_10_code
def yX2_figureLeads : MethodName := ⟨RX2, "figureLeads", "(I)V"⟩
abbrev cX2_figureValues : ByteArray := prog_4_method_12_code
def yX2_figureValues : MethodName := ⟨RX2, "figureValues", "()V"⟩
abbrev cX2_find : ByteArray := prog_4_method_5_code
def yX2_find : MethodName := ⟨RX2, "find", "(IJ)V"⟩
abbrev cX2_forget : ByteArray := prog_4_method_2_code
def yX2_forget : MethodName := ⟨RX2, "forget", "()V"⟩
abbrev cX2_init : ByteArray := prog_4_method_1_code
def yX2_init : MethodName := ⟨RX2, "<init>", "(LPegshoreHouse$Board;)V"⟩
abbrev cX2_leads : ByteArray := prog_4_method_11_code
def yX2_leads : MethodName := ⟨RX2, "leads", "(II)Z"⟩
abbrev cX2_leastOther : ByteArray := prog_4_method_13_code
def yX2_leastOther : MethodName := ⟨RX2, "leastOther", "(I)I"⟩
abbrev cX2_leastSweepsAt : ByteArray := prog_4_method_15_code
def yX2_leastSweepsAt : MethodName := ⟨RX2, "leastSweepsAt", "(I)I"⟩
abbrev cX2_leastSweepsTo : ByteArray := prog_4_method_14_code
def yX2_leastSweepsTo : MethodName := ⟨RX2, "leastSweepsTo", "(I)I"⟩
abbrev cX2_sweepOn : ByteArray := prog_4_method_16_code
def yX2_sweepOn : MethodName := ⟨RX2, "sweepOn", "(II)V"⟩
abbrev cX2_visit : ByteArray := prog_4_method_6_code
def yX2_visit : MethodName := ⟨RX2, "visit", "(I)V"⟩
abbrev cX2_waysTo : ByteArray := prog_4_method_7_code
def yX2_waysTo : MethodName := ⟨RX2, "waysTo", "(I)J"⟩
abbrev cX2_wipe : ByteArray := prog_4_method_4_code
def yX2_wipe : MethodName := ⟨RX2, "wipe", "()V"⟩
abbrev cX3_behindJump : ByteArray := prog_1_method_51_code
def yX3_behindJump : MethodName := ⟨RX3, "behindJump", "(III)I"⟩
abbrev cX3_canEnd : ByteArray := prog_1_method_20_code
def yX3_canEnd : MethodName := ⟨RX3, "canEnd", "()Z"⟩
abbrev cX3_cell : ByteArray := prog_1_method_6_code
def yX3_cell : MethodName := ⟨RX3, "cell", "(I)I"⟩
abbrev cX3_checksum : ByteArray := prog_1_method_42_code
def yX3_checksum : MethodName := ⟨RX3, "checksum", "()J"⟩
abbrev cX3_clear : ByteArray := prog_1_method_41_code
def yX3_clear : MethodName := ⟨RX3, "clear", "()I"⟩
abbrev cX3_colour : ByteArray := prog_1_method_34_code
def yX3_colour : MethodName := ⟨RX3, "colour", "(II)I"⟩
abbrev cX3_dead : ByteArray := prog_1_method_25_code
def yX3_dead : MethodName := ⟨RX3, "dead", "()I"⟩
abbrev cX3_drill : ByteArray := prog_1_method_3_code
def yX3_drill : MethodName := ⟨RX3, "drill", "(I)I"⟩
abbrev cX3_fault : ByteArray := prog_1_method_32_code
def yX3_fault : MethodName := ⟨RX3, "fault", "()I"⟩
abbrev cX3_faultAt : ByteArray := prog_1_method_40_code
def yX3_faultAt : MethodName := ⟨RX3, "faultAt", "()I"⟩
abbrev cX3_fewest : ByteArray := prog_1_method_26_code
def yX3_fewest : MethodName := ⟨RX3, "fewest", "()I"⟩
abbrev cX3_fill : ByteArray := prog_1_method_4_code
def yX3_fill : MethodName := ⟨RX3, "fill", "(I)I"⟩
abbrev cX3_floatBits : ByteArray := prog_1_method_57_code
def yX3_floatBits : MethodName := ⟨RX3, "floatBits", "(F)I"⟩
abbrev cX3_forgetAll : ByteArray := prog_1_method_53_code
def yX3_forgetAll : MethodName := ⟨RX3, "forgetAll", "()V"⟩
abbrev cX3_highest : ByteArray := prog_1_method_28_code
def yX3_highest : MethodName := ⟨RX3, "highest", "()I"⟩
abbrev cX3_hint : ByteArray := prog_1_method_22_code
def yX3_hint : MethodName := ⟨RX3, "hint", "()I"⟩
abbrev cX3_hole : ByteArray := prog_1_method_5_code
def yX3_hole : MethodName := ⟨RX3, "hole", "(I)I"⟩
abbrev cX3_init : ByteArray := prog_1_method_1_code
def yX3_init : MethodName := ⟨RX3, "<init>", "()V"⟩
abbrev cX3_isBarred : ByteArray := prog_1_method_33_code
def yX3_isBarred : MethodName := ⟨RX3, "isBarred", "(Z)Z"⟩
abbrev cX3_isFit : ByteArray := prog_1_method_35_code
def yX3_isFit : MethodName := ⟨RX3, "isFit", "(I)Z"⟩
abbrev cX3_isMadeSound : ByteArray := prog_1_method_59_code
def yX3_isMadeSound : MethodName := ⟨RX3, "isMadeSound", "()Z"⟩
abbrev cX3_isOddApart : ByteArray := prog_1_method_55_code
def yX3_isOddApart : MethodName := ⟨RX3, "isOddApart", "(I)Z"⟩
abbrev cX3_isProof : ByteArray := prog_1_method_31_code
def yX3_isProof : MethodName := ⟨RX3, "isProof", "()Z"⟩
abbrev cX3_isSound : ByteArray := prog_1_method_45_code
def yX3_isSound : MethodName := ⟨RX3, "isSound", "()Z"⟩
abbrev cX3_isToldSound : ByteArray := prog_1_method_58_code
def yX3_isToldSound : MethodName := ⟨RX3, "isToldSound", "()Z"⟩
abbrev cX3_jump : ByteArray := prog_1_method_12_code
def yX3_jump : MethodName := ⟨RX3, "jump", "(II)I"⟩
abbrev cX3_jumpAt : ByteArray := prog_1_method_14_code
def yX3_jumpAt : MethodName := ⟨RX3, "jumpAt", "(I)I"⟩
abbrev cX3_jumps : ByteArray := prog_1_method_13_code
def yX3_jumps : MethodName := ⟨RX3, "jumps", "()I"⟩
abbrev cX3_leastForm : ByteArray := prog_1_method_18_code
def yX3_leastForm : MethodName := ⟨RX3, "leastForm", "(I)I"⟩
abbrev cX3_leastSweeps : ByteArray := prog_1_method_27_code
def yX3_leastSweeps : MethodName := ⟨RX3, "leastSweeps", "()I"⟩
abbrev cX3_lineTo : ByteArray := prog_1_method_54_code
def yX3_lineTo : MethodName := ⟨RX3, "lineTo", "(I)I"⟩
abbrev cX3_lines : ByteArray := prog_1_method_7_code
def yX3_lines : MethodName := ⟨RX3, "lines", "()I"⟩
abbrev cX3_loses : ByteArray := prog_1_method_23_code
def yX3_loses : MethodName := ⟨RX3, "loses", "(II)Z"⟩
abbrev cX3_made : ByteArray := prog_1_method_16_code
def yX3_made : MethodName := ⟨RX3, "made", "()I"⟩
abbrev cX3_makeJump : ByteArray := prog_1_method_52_code
def yX3_makeJump : MethodName := ⟨RX3, "makeJump", "(III)V"⟩
abbrev cX3_mayJump : ByteArray := prog_1_method_11_code
def yX3_mayJump : MethodName := ⟨RX3, "mayJump", "(II)Z"⟩
abbrev cX3_meanJumps : ByteArray := prog_1_method_44_code
def yX3_meanJumps : MethodName := ⟨RX3, "meanJumps", "()D"⟩
abbrev cX3_now : ByteArray := prog_1_method_10_code
def yX3_now : MethodName := ⟨RX3, "now", "()I"⟩
abbrev cX3_pegBits : ByteArray := prog_1_method_43_code
def yX3_pegBits : MethodName := ⟨RX3, "pegBits", "()I"⟩
abbrev cX3_play : ByteArray := prog_1_method_39_code
def yX3_play : MethodName := ⟨RX3, "play", "()I"⟩
abbrev cX3_put : ByteArray := prog_1_method_9_code
def yX3_put : MethodName := ⟨RX3, "put", "(I)I"⟩
abbrev cX3_reached : ByteArray := prog_1_method_24_code
def yX3_reached : MethodName := ⟨RX3, "reached", "()I"⟩
abbrev cX3_requireCell : ByteArray := prog_1_method_46_code
def yX3_requireCell : MethodName := ⟨RX3, "requireCell", "(I)V"⟩
abbrev cX3_requireColouring : ByteArray := prog_1_method_49_code
def yX3_requireColouring : MethodName := ⟨RX3, "requireColouring", "(I)V"⟩
abbrev cX3_requireHole : ByteArray := prog_1_method_47_code
def yX3_requireHole : MethodName := ⟨RX3, "requireHole", "(I)V"⟩
abbrev cX3_requireJump : ByteArray := prog_1_method_50_code
def yX3_requireJump : MethodName := ⟨RX3, "requireJump", "(II)I"⟩
abbrev cX3_requirePegs : ByteArray := prog_1_method_48_code
def yX3_requirePegs : MethodName := ⟨RX3, "requirePegs", "(I)V"⟩
abbrev cX3_rowFault : ByteArray := prog_1_method_56_code
def yX3_rowFault : MethodName := ⟨RX3, "rowFault", "()I"⟩
abbrev cX3_setEnd : ByteArray := prog_1_method_19_code
def yX3_setEnd : MethodName := ⟨RX3, "setEnd", "(I)I"⟩
abbrev cX3_setKind : ByteArray := prog_1_method_2_code
def yX3_setKind : MethodName := ⟨RX3, "setKind", "(C)C"⟩
abbrev cX3_sweeps : ByteArray := prog_1_method_17_code
def yX3_sweeps : MethodName := ⟨RX3, "sweeps", "()I"⟩
abbrev cX3_symmetries : ByteArray := prog_1_method_8_code
def yX3_symmetries : MethodName := ⟨RX3, "symmetries", "()I"⟩
abbrev cX3_takeBack : ByteArray := prog_1_method_15_code
def yX3_takeBack : MethodName := ⟨RX3, "takeBack", "()I"⟩
abbrev cX3_tell : ByteArray := prog_1_method_38_code
def yX3_tell : MethodName := ⟨RX3, "tell", "(I)I"⟩
abbrev cX3_value : ByteArray := prog_1_method_36_code
def yX3_value : MethodName := ⟨RX3, "value", "()I"⟩
abbrev cX3_ways : ByteArray := prog_1_method_21_code
def yX3_ways : MethodName := ⟨RX3, "ways", "()J"⟩
abbrev cX3_weigh : ByteArray := prog_1_method_29_code
def yX3_weigh : MethodName := ⟨RX3, "weigh", "(II)I"⟩
abbrev cX3_weight : ByteArray := prog_1_method_30_code
def yX3_weight : MethodName := ⟨RX3, "weight", "(I)I"⟩
abbrev cX3_winning : ByteArray := prog_1_method_37_code
def yX3_winning : MethodName := ⟨RX3, "winning", "()I"⟩
abbrev cX4_behind : ByteArray := prog_6_method_29_code
def yX4_behind : MethodName := ⟨RX4, "behind", "(II)I"⟩
abbrev cX4_can : ByteArray := prog_6_method_28_code
def yX4_can : MethodName := ⟨RX4, "can", "(II)Z"⟩
abbrev cX4_canEnd : ByteArray := prog_6_method_45_code
def yX4_canEnd : MethodName := ⟨RX4, "canEnd", "()Z"⟩
abbrev cX4_cell : ByteArray := prog_6_method_18_code
def yX4_cell : MethodName := ⟨RX4, "cell", "(I)I"⟩
abbrev cX4_checksum : ByteArray := prog_6_method_78_code
def yX4_checksum : MethodName := ⟨RX4, "checksum", "()J"⟩
abbrev cX4_clear : ByteArray := prog_6_method_77_code
def yX4_clear : MethodName := ⟨RX4, "clear", "()I"⟩
abbrev cX4_codeOf : ByteArray := prog_6_method_30_code
def yX4_codeOf : MethodName := ⟨RX4, "codeOf", "(I)I"⟩
abbrev cX4_colour : ByteArray := prog_6_method_64_code
def yX4_colour : MethodName := ⟨RX4, "colour", "(II)I"⟩
abbrev cX4_colourOf : ByteArray := prog_6_method_63_code
def yX4_colourOf : MethodName := ⟨RX4, "colourOf", "(II)I"⟩
abbrev cX4_counts : ByteArray := prog_6_method_43_code
def yX4_counts : MethodName := ⟨RX4, "counts", "()V"⟩
abbrev cX4_dead : ByteArray := prog_6_method_51_code
def yX4_dead : MethodName := ⟨RX4, "dead", "()I"⟩
abbrev cX4_drill : ByteArray := prog_6_method_15_code
def yX4_drill : MethodName := ⟨RX4, "drill", "(I)I"⟩
abbrev cX4_fails : ByteArray := prog_6_method_3_code
def yX4_fails : MethodName := ⟨RX4, "fails", "(I)Z"⟩
abbrev cX4_fault : ByteArray := prog_6_method_62_code
def yX4_fault : MethodName := ⟨RX4, "fault", "()I"⟩
abbrev cX4_faultAt : ByteArray := prog_6_method_76_code
def yX4_faultAt : MethodName := ⟨RX4, "faultAt", "()I"⟩
abbrev cX4_faultIn : ByteArray := prog_6_method_74_code
def yX4_faultIn : MethodName := ⟨RX4, "faultIn", "()I"⟩
abbrev cX4_fewest : ByteArray := prog_6_method_52_code
def yX4_fewest : MethodName := ⟨RX4, "fewest", "()I"⟩
abbrev cX4_fill : ByteArray := prog_6_method_16_code
def yX4_fill : MethodName := ⟨RX4, "fill", "(I)I"⟩
abbrev cX4_fits : ByteArray := prog_6_method_65_code
def yX4_fits : MethodName := ⟨RX4, "fits", "(I)Z"⟩
abbrev cX4_gains : ByteArray := prog_6_method_59_code
def yX4_gains : MethodName := ⟨RX4, "gains", "(I)I"⟩
abbrev cX4_has : ByteArray := prog_6_method_7_code
def yX4_has : MethodName := ⟨RX4, "has", "(II)Z"⟩
abbrev cX4_highest : ByteArray := prog_6_method_55_code
def yX4_highest : MethodName := ⟨RX4, "highest", "()I"⟩
abbrev cX4_hint : ByteArray := prog_6_method_47_code
def yX4_hint : MethodName := ⟨RX4, "hint", "()I"⟩
abbrev cX4_hole : ByteArray := prog_6_method_17_code
def yX4_hole : MethodName := ⟨RX4, "hole", "(I)I"⟩
abbrev cX4_holeAt : ByteArray := prog_6_method_21_code
def yX4_holeAt : MethodName := ⟨RX4, "holeAt", "(I)I"⟩
abbrev cX4_in : ByteArray := prog_6_method_4_code
def yX4_in : MethodName := ⟨RX4, "in", "(III)Z"⟩
abbrev cX4_init : ByteArray := prog_6_method_1_code
def yX4_init : MethodName := ⟨RX4, "<init>", "()V"⟩
abbrev cX4_isBarred : ByteArray := prog_6_method_68_code
def yX4_isBarred : MethodName := ⟨RX4, "isBarred", "(Z)Z"⟩
abbrev cX4_isDrilled : ByteArray := prog_6_method_11_code
def yX4_isDrilled : MethodName := ⟨RX4, "isDrilled", "(I)Z"⟩
abbrev cX4_isFit : ByteArray := prog_6_method_66_code
def yX4_isFit : MethodName := ⟨RX4, "isFit", "(I)Z"⟩
abbrev cX4_isHole : ByteArray := prog_6_method_5_code
def yX4_isHole : MethodName := ⟨RX4, "isHole", "(I)Z"⟩
abbrev cX4_isJump : ByteArray := prog_6_method_22_code
def yX4_isJump : MethodName := ⟨RX4, "isJump", "(III)Z"⟩
abbrev cX4_isPosition : ByteArray := prog_6_method_6_code
def yX4_isPosition : MethodName := ⟨RX4, "isPosition", "(I)Z"⟩
abbrev cX4_isProof : ByteArray := prog_6_method_61_code
def yX4_isProof : MethodName := ⟨RX4, "isProof", "()Z"⟩
abbrev cX4_isSound : ByteArray := prog_6_method_81_code
def yX4_isSound : MethodName := ⟨RX4, "isSound", "()Z"⟩
abbrev cX4_isSymmetry : ByteArray := prog_6_method_23_code
def yX4_isSymmetry : MethodName := ⟨RX4, "isSymmetry", "(I)Z"⟩
abbrev cX4_jump : ByteArray := prog_6_method_35_code
def yX4_jump : MethodName := ⟨RX4, "jump", "(II)I"⟩
abbrev cX4_jumpAt : ByteArray := prog_6_method_38_code
def yX4_jumpAt : MethodName := ⟨RX4, "jumpAt", "(I)I"⟩
abbrev cX4_jumpOf : ByteArray := prog_6_method_31_code
def yX4_jumpOf : MethodName := ⟨RX4, "jumpOf", "(III)I"⟩
abbrev cX4_jumps : ByteArray := prog_6_method_37_code
def yX4_jumps : MethodName := ⟨RX4, "jumps", "()I"⟩
abbrev cX4_jumpsOf : ByteArray := prog_6_method_36_code
def yX4_jumpsOf : MethodName := ⟨RX4, "jumpsOf", "(I)I"⟩
abbrev cX4_leastForm : ByteArray := prog_6_method_25_code
def yX4_leastForm : MethodName := ⟨RX4, "leastForm", "(I)I"⟩
abbrev cX4_leastSweeps : ByteArray := prog_6_method_54_code
def yX4_leastSweeps : MethodName := ⟨RX4, "leastSweeps", "()I"⟩
abbrev cX4_lines : ByteArray := prog_6_method_19_code
def yX4_lines : MethodName := ⟨RX4, "lines", "()I"⟩
abbrev cX4_lists : ByteArray := prog_6_method_8_code
def yX4_lists : MethodName := ⟨RX4, "lists", "()V"⟩
abbrev cX4_loses : ByteArray := prog_6_method_48_code
def yX4_loses : MethodName := ⟨RX4, "loses", "(II)Z"⟩
abbrev cX4_made : ByteArray := prog_6_method_40_code
def yX4_made : MethodName := ⟨RX4, "made", "()I"⟩
abbrev cX4_makes : ByteArray := prog_6_method_33_code
def yX4_makes : MethodName := ⟨RX4, "makes", "(I)I"⟩
abbrev cX4_mayJump : ByteArray := prog_6_method_32_code
def yX4_mayJump : MethodName := ⟨RX4, "mayJump", "(II)Z"⟩
abbrev cX4_meanJumps : ByteArray := prog_6_method_80_code
def yX4_meanJumps : MethodName := ⟨RX4, "meanJumps", "()D"⟩
abbrev cX4_narrower : ByteArray := prog_6_method_13_code
def yX4_narrower : MethodName := ⟨RX4, "narrower", "(II)I"⟩
abbrev cX4_now : ByteArray := prog_6_method_27_code
def yX4_now : MethodName := ⟨RX4, "now", "()I"⟩
abbrev cX4_numbers : ByteArray := prog_6_method_14_code
def yX4_numbers : MethodName := ⟨RX4, "numbers", "()V"⟩
abbrev cX4_others : ByteArray := prog_6_method_67_code
def yX4_others : MethodName := ⟨RX4, "others", "(III)I"⟩
abbrev cX4_pegBits : ByteArray := prog_6_method_79_code
def yX4_pegBits : MethodName := ⟨RX4, "pegBits", "()I"⟩
abbrev cX4_play : ByteArray := prog_6_method_75_code
def yX4_play : MethodName := ⟨RX4, "play", "()I"⟩
abbrev cX4_put : ByteArray := prog_6_method_26_code
def yX4_put : MethodName := ⟨RX4, "put", "(I)I"⟩
abbrev cX4_reached : ByteArray := prog_6_method_50_code
def yX4_reached : MethodName := ⟨RX4, "reached", "()I"⟩
abbrev cX4_reaches : ByteArray := prog_6_method_49_code
def yX4_reaches : MethodName := ⟨RX4, "reaches", "()I"⟩
abbrev cX4_setEnd : ByteArray := prog_6_method_42_code
def yX4_setEnd : MethodName := ⟨RX4, "setEnd", "(I)I"⟩
abbrev cX4_setKind : ByteArray := prog_6_method_10_code
def yX4_setKind : MethodName := ⟨RX4, "setKind", "(C)C"⟩
abbrev cX4_step : ByteArray := prog_6_method_9_code
def yX4_step : MethodName := ⟨RX4, "step", "(II)I"⟩
abbrev cX4_sweep : ByteArray := prog_6_method_53_code
def yX4_sweep : MethodName := ⟨RX4, "sweep", "()V"⟩
abbrev cX4_sweeps : ByteArray := prog_6_method_41_code
def yX4_sweeps : MethodName := ⟨RX4, "sweeps", "()I"⟩
abbrev cX4_symmetries : ByteArray := prog_6_method_24_code
def yX4_symmetries : MethodName := ⟨RX4, "symmetries", "()I"⟩
abbrev cX4_takeBack : ByteArray := prog_6_method_39_code
def yX4_takeBack : MethodName := ⟨RX4, "takeBack", "()I"⟩
abbrev cX4_tell : ByteArray := prog_6_method_73_code
def yX4_tell : MethodName := ⟨RX4, "tell", "(I)I"⟩
abbrev cX4_thrown : ByteArray := prog_6_method_2_code
def yX4_thrown : MethodName := ⟨RX4, "thrown", "()I"⟩
abbrev cX4_turned : ByteArray := prog_6_method_20_code
def yX4_turned : MethodName := ⟨RX4, "turned", "(II)I"⟩
abbrev cX4_value : ByteArray := prog_6_method_69_code
def yX4_value : MethodName := ⟨RX4, "value", "(I)V"⟩
abbrev cX4_valueAll : ByteArray := prog_6_method_70_code
def yX4_valueAll : MethodName := ⟨RX4, "valueAll", "()V"⟩
abbrev cX4_value_ : ByteArray := prog_6_method_71_code
def yX4_value_ : MethodName := ⟨RX4, "value", "()I"⟩
abbrev cX4_ways : ByteArray := prog_6_method_46_code
def yX4_ways : MethodName := ⟨RX4, "ways", "()J"⟩
abbrev cX4_waysNow : ByteArray := prog_6_method_44_code
def yX4_waysNow : MethodName := ⟨RX4, "waysNow", "()J"⟩
abbrev cX4_weigh : ByteArray := prog_6_method_56_code
def yX4_weigh : MethodName := ⟨RX4, "weigh", "(II)I"⟩
abbrev cX4_weight : ByteArray := prog_6_method_58_code
def yX4_weight : MethodName := ⟨RX4, "weight", "(I)I"⟩
abbrev cX4_weightOf : ByteArray := prog_6_method_57_code
def yX4_weightOf : MethodName := ⟨RX4, "weightOf", "(I)I"⟩
abbrev cX4_whyNoJump : ByteArray := prog_6_method_34_code
def yX4_whyNoJump : MethodName := ⟨RX4, "whyNoJump", "(II)I"⟩
abbrev cX4_wider : ByteArray := prog_6_method_12_code
def yX4_wider : MethodName := ⟨RX4, "wider", "(II)I"⟩
abbrev cX4_winning : ByteArray := prog_6_method_72_code
def yX4_winning : MethodName := ⟨RX4, "winning", "()I"⟩
abbrev cX4_worst : ByteArray := prog_6_method_60_code
def yX4_worst : MethodName := ⟨RX4, "worst", "()I"⟩
def lw_all : List Cond := lw_tbl.filter goodWord
theorem lw_all_tbl {w : Cond} (h : w ∈ lw_all) : w ∈ lw_tbl := (List.mem_filter.mp h).1
theorem lw_all_of {w : Cond} (h : w ∈ tables_1) (g : goodWord w = true) : w ∈ lw_all := List.mem_filter.mpr ⟨List.mem_append_right _ h, g⟩
theorem lw_in1 {w : Cond} (h : w ∈ tables_1_1) : w ∈ tables_1 := List.mem_append_left _ h
theorem lw_in2 {w : Cond} (h : w ∈ tables_1_2) : w ∈ tables_1 := List.mem_append_right _ (List.mem_append_left _ h)
theorem lw_in3 {w : Cond} (h : w ∈ tables_1_3) : w ∈ tables_1 := List.mem_append_right _ (List.mem_append_right _ (List.mem_append_left _ h))
theorem lw_in4 {w : Cond} (h : w ∈ tables_1_4) : w ∈ tables_1 := List.mem_append_right _ (List.mem_append_right _ (List.mem_append_right _ (List.mem_append_left _ h)))
theorem lw_in5 {w : Cond} (h : w ∈ tables_1_5) : w ∈ tables_1 := List.mem_append_right _ (List.mem_append_right _ (List.mem_append_right _ (List.mem_append_right _ (List.mem_append_left _ h))))
theorem lw_in6 {w : Cond} (h : w ∈ tables_1_6) : w ∈ tables_1 := List.mem_append_right _ (List.mem_append_right _ (List.mem_append_right _ (List.mem_append_right _ (List.mem_append_right _ (List.mem_append_left _ h)))))
theorem lw_in7 {w : Cond} (h : w ∈ tables_1_7) : w ∈ tables_1 := List.mem_append_right _ (List.mem_append_right _ (List.mem_append_right _ (List.mem_append_right _ (List.mem_append_right _ (List.mem_append_right _ (List.mem_append_left _ h))))))
theorem lw_in8 {w : Cond} (h : w ∈ tables_1_8) : w ∈ tables_1 := List.mem_append_right _ (List.mem_append_right _ (List.mem_append_right _ (List.mem_append_right _ (List.mem_append_right _ (List.mem_append_right _ (List.mem_append_right _ (h)))))))
theorem q0 : (Jvm.Cond.initialized "PegshoreHouseLaw") ∈ lw_all := lw_all_of (lw_in1 (List.mem_of_getElem? (i := 0) rfl)) rfl
theorem q1 : (Jvm.Cond.initialized "PegshoreHouse") ∈ lw_all := lw_all_of (lw_in1 (List.mem_of_getElem? (i := 1) rfl)) rfl
theorem q2 : (Jvm.Cond.initialized "PegshoreHouse$Board") ∈ lw_all := lw_all_of (lw_in1 (List.mem_of_getElem? (i := 2) rfl)) rfl
theorem q3 : (Jvm.Cond.initialized "PegshoreHouse$Row") ∈ lw_all := lw_all_of (lw_in1 (List.mem_of_getElem? (i := 3) rfl)) rfl
theorem q4 : (Jvm.Cond.initialized "PegshoreHouse$Walk") ∈ lw_all := lw_all_of (lw_in1 (List.mem_of_getElem? (i := 4) rfl)) rfl
theorem q5 : (Jvm.Cond.initialized "PegshoreHouseModel") ∈ lw_all := lw_all_of (lw_in1 (List.mem_of_getElem? (i := 5) rfl)) rfl
theorem q6 : (Jvm.Cond.initialized "java/util/AbstractCollection") ∈ lw_all := lw_all_of (lw_in1 (List.mem_of_getElem? (i := 6) rfl)) rfl
theorem q7 : (Jvm.Cond.initialized "java/util/AbstractList") ∈ lw_all := lw_all_of (lw_in1 (List.mem_of_getElem? (i := 7) rfl)) rfl
theorem q8 : (Jvm.Cond.initialized "java/util/ArrayList") ∈ lw_all := lw_all_of (lw_in1 (List.mem_of_getElem? (i := 8) rfl)) rfl
theorem q9 : (Jvm.Cond.initialized "java/lang/Throwable") ∈ lw_all := lw_all_of (lw_in1 (List.mem_of_getElem? (i := 9) rfl)) rfl
theorem q10 : (Jvm.Cond.initialized "java/lang/Exception") ∈ lw_all := lw_all_of (lw_in1 (List.mem_of_getElem? (i := 10) rfl)) rfl
theorem q11 : (Jvm.Cond.initialized "java/lang/RuntimeException") ∈ lw_all := lw_all_of (lw_in1 (List.mem_of_getElem? (i := 11) rfl)) rfl
theorem q12 : (Jvm.Cond.initialized "java/lang/IllegalArgumentException") ∈ lw_all := lw_all_of (lw_in1 (List.mem_of_getElem? (i := 12) rfl)) rfl
theorem q13 : (Jvm.Cond.initialized "java/lang/Math") ∈ lw_all := lw_all_of (lw_in1 (List.mem_of_getElem? (i := 13) rfl)) rfl
theorem q14 : (Jvm.Cond.initialized "java/lang/Number") ∈ lw_all := lw_all_of (lw_in1 (List.mem_of_getElem? (i := 14) rfl)) rfl
theorem q15 : (Jvm.Cond.initialized "java/lang/Integer") ∈ lw_all := lw_all_of (lw_in1 (List.mem_of_getElem? (i := 15) rfl)) rfl
theorem q16 : (Jvm.Cond.initialized "java/lang/String") ∈ lw_all := lw_all_of (lw_in1 (List.mem_of_getElem? (i := 16) rfl)) rfl
theorem q17 : (Jvm.Cond.initialized "java/lang/StringLatin1") ∈ lw_all := lw_all_of (lw_in1 (List.mem_of_getElem? (i := 17) rfl)) rfl
theorem q18 : (Jvm.Cond.initialized "java/lang/StringUTF16") ∈ lw_all := lw_all_of (lw_in1 (List.mem_of_getElem? (i := 18) rfl)) rfl
theorem q19 : (Jvm.Cond.initialized "jdk/internal/util/Preconditions") ∈ lw_all := lw_all_of (lw_in1 (List.mem_of_getElem? (i := 19) rfl)) rfl
theorem q20 : (Jvm.Cond.initialized "java/lang/Character") ∈ lw_all := lw_all_of (lw_in1 (List.mem_of_getElem? (i := 20) rfl)) rfl
theorem q21 : (Jvm.Cond.initialized "java/lang/UnsupportedOperationException") ∈ lw_all := lw_all_of (lw_in1 (List.mem_of_getElem? (i := 21) rfl)) rfl
theorem q22 : (Jvm.Cond.initialized "java/lang/IllegalStateException") ∈ lw_all := lw_all_of (lw_in1 (List.mem_of_getElem? (i := 22) rfl)) rfl
theorem q23 : (Jvm.Cond.initialized "java/util/Arrays") ∈ lw_all := lw_all_of (lw_in1 (List.mem_of_getElem? (i := 23) rfl)) rfl
theorem q24 : (Jvm.Cond.initialized "java/util/NoSuchElementException") ∈ lw_all := lw_all_of (lw_in1 (List.mem_of_getElem? (i := 24) rfl)) rfl
theorem q25 : (Jvm.Cond.initialized "java/lang/IndexOutOfBoundsException") ∈ lw_all := lw_all_of (lw_in1 (List.mem_of_getElem? (i := 25) rfl)) rfl
theorem q26 : (Jvm.Cond.initialized "java/lang/ArrayIndexOutOfBoundsException") ∈ lw_all := lw_all_of (lw_in1 (List.mem_of_getElem? (i := 26) rfl)) rfl
theorem q27 : (Jvm.Cond.initialized "java/lang/Integer$IntegerCache") ∈ lw_all := lw_all_of (lw_in1 (List.mem_of_getElem? (i := 27) rfl)) rfl
theorem q28 : (Jvm.Cond.initialized "jdk/internal/util/ArraysSupport") ∈ lw_all := lw_all_of (lw_in1 (List.mem_of_getElem? (i := 28) rfl)) rfl
theorem q29 : (Jvm.Cond.initialized "java/lang/System") ∈ lw_all := lw_all_of (lw_in1 (List.mem_of_getElem? (i := 29) rfl)) rfl
theorem q30 : (Jvm.Cond.initialized "java/util/Objects") ∈ lw_all := lw_all_of (lw_in1 (List.mem_of_getElem? (i := 30) rfl)) rfl
theorem q31 : (Jvm.Cond.initialized "java/lang/AbstractStringBuilder") ∈ lw_all := lw_all_of (lw_in1 (List.mem_of_getElem? (i := 31) rfl)) rfl
theorem q32 : (Jvm.Cond.initialized "java/lang/StringBuilder") ∈ lw_all := lw_all_of (lw_in1 (List.mem_of_getElem? (i := 32) rfl)) rfl
theorem q33 : (Jvm.Cond.initialized "java/util/ArrayList$Itr") ∈ lw_all := lw_all_of (lw_in1 (List.mem_of_getElem? (i := 33) rfl)) rfl
theorem q34 : (Jvm.Cond.initialized "java/lang/ArithmeticException") ∈ lw_all := lw_all_of (lw_in1 (List.mem_of_getElem? (i := 34) rfl)) rfl
theorem q35 : (Jvm.Cond.initialized "java/lang/Float") ∈ lw_all := lw_all_of (lw_in1 (List.mem_of_getElem? (i := 35) rfl)) rfl
theorem q36 : (Jvm.Cond.classLink "PegshoreHouseLaw" (8 : Nat) "PegshoreHouse") ∈ lw_all := lw_all_of (lw_in1 (List.mem_of_getElem? (i := 36) rfl)) rfl
theorem q37 : (Jvm.Cond.instantiable "PegshoreHouse" (6 : Nat)) ∈ lw_all := lw_all_of (lw_in1 (List.mem_of_getElem? (i := 37) rfl)) rfl
theorem q38 : (Jvm.Cond.methodLink "PegshoreHouseLaw" (105 : Nat) ({ cls := "PegshoreHouse", name := "<init>", desc := "()V" } : Jvm.MethodName)) ∈ lw_all := lw_all_of (lw_in1 (List.mem_of_getElem? (i := 38) rfl)) rfl
theorem q39 : (Jvm.Cond.instanceMethod ({ cls := "PegshoreHouse", name := "<init>", desc := "()V" } : Jvm.MethodName)) ∈ lw_all := lw_all_of (lw_in1 (List.mem_of_getElem? (i := 39) rfl)) rfl
theorem q40 : (Jvm.Cond.code ({ cls := "PegshoreHouse", name := "<init>", desc := "()V" } : Jvm.MethodName) prog_1_method_1_code (2 : Nat) (Option.none : Option Jvm.ClassFile.FieldType)) ∈ lw_all := lw_all_of (lw_in1 (List.mem_of_getElem? (i := 40) rfl)) rfl
theorem q41 : (Jvm.Cond.methodLink "PegshoreHouse" (1 : Nat) ({ cls := "java/lang/Object", name := "<init>", desc := "()V" } : Jvm.MethodName)) ∈ lw_all := lw_all_of (lw_in1 (List.mem_of_getElem? (i := 41) rfl)) rfl
theorem q42 : (Jvm.Cond.instanceMethod ({ cls := "java/lang/Object", name := "<init>", desc := "()V" } : Jvm.MethodName)) ∈ lw_all := lw_all_of (lw_in1 (List.mem_of_getElem? (i := 42) rfl)) rfl
theorem q43 : (Jvm.Cond.code ({ cls := "java/lang/Object", name := "<init>", desc := "()V" } : Jvm.MethodName) object_method_1_code (1 : Nat) (Option.none : Option Jvm.ClassFile.FieldType)) ∈ lw_all := lw_all_of (lw_in1 (List.mem_of_getElem? (i := 43) rfl)) rfl
theorem q44 : (Jvm.Cond.classLink "PegshoreHouse" (7 : Nat) "PegshoreHouse$Board") ∈ lw_all := lw_all_of (lw_in1 (List.mem_of_getElem? (i := 44) rfl)) rfl
theorem q45 : (Jvm.Cond.instantiable "PegshoreHouse$Board" (8 : Nat)) ∈ lw_all := lw_all_of (lw_in1 (List.mem_of_getElem? (i := 45) rfl)) rfl
theorem q47 : (Jvm.Cond.instanceMethod ({ cls := "PegshoreHouse$Board", name := "<init>", desc := "()V" } : Jvm.MethodName)) ∈ lw_all := lw_all_of (lw_in1 (List.mem_of_getElem? (i := 47) rfl)) rfl
theorem q48 : (Jvm.Cond.code ({ cls := "PegshoreHouse$Board", name := "<init>", desc := "()V" } : Jvm.MethodName) prog_2_method_1_code (1 : Nat) (Option.none : Option Jvm.ClassFile.FieldType)) ∈ lw_all := lw_all_of (lw_in1 (List.mem_of_getElem? (i := 48) rfl)) rfl
theorem q49 : (Jvm.Cond.methodLink "PegshoreHouse$Board" (3 : Nat) ({ cls := "java/lang/Object", name := "<init>", desc := "()V" } : Jvm.MethodName)) ∈ lw_all := lw_all_of (lw_in1 (List.mem_of_getElem? (i := 49) rfl)) rfl
theorem q50 : (Jvm.Cond.classLink "PegshoreHouse$Board" (19 : Nat) "PegshoreHouse$Row") ∈ lw_all := lw_all_of (lw_in1 (List.mem_of_getElem? (i := 50) rfl)) rfl
theorem q51 : (Jvm.Cond.instantiable "PegshoreHouse$Row" (2 : Nat)) ∈ lw_all := lw_all_of (lw_in1 (List.mem_of_getElem? (i := 51) rfl)) rfl
theorem q52 : (Jvm.Cond.methodLink "PegshoreHouse$Board" (21 : Nat) ({ cls := "PegshoreHouse$Row", name := "<init>", desc := "(I)V" } : Jvm.MethodName)) ∈ lw_all := lw_all_of (lw_in1 (List.mem_of_getElem? (i := 52) rfl)) rfl
theorem q53 : (Jvm.Cond.instanceMethod ({ cls := "PegshoreHouse$Row", name := "<init>", desc := "(I)V" } : Jvm.MethodName)) ∈ lw_all := lw_all_of (lw_in1 (List.mem_of_getElem? (i := 53) rfl)) rfl
theorem q54 : (Jvm.Cond.code ({ cls := "PegshoreHouse$Row", name := "<init>", desc := "(I)V" } : Jvm.MethodName) prog_3_method_1_code (2 : Nat) (Option.none : Option Jvm.ClassFile.FieldType)) ∈ lw_all := lw_all_of (lw_in1 (List.mem_of_getElem? (i := 54) rfl)) rfl
theorem q55 : (Jvm.Cond.methodLink "PegshoreHouse$Row" (3 : Nat) ({ cls := "java/lang/Object", name := "<init>", desc := "()V" } : Jvm.MethodName)) ∈ lw_all := lw_all_of (lw_in1 (List.mem_of_getElem? (i := 55) rfl)) rfl
theorem q56 : (Jvm.Cond.fieldLink "PegshoreHouse$Row" (9 : Nat) "PegshoreHouse$Row" "items" "[I") ∈ lw_all := lw_all_of (lw_in1 (List.mem_of_getElem? (i := 56) rfl)) rfl
theorem q57 : (Jvm.Cond.fieldLink "PegshoreHouse$Row" (15 : Nat) "PegshoreHouse$Row" "size" "I") ∈ lw_all := lw_all_of (lw_in1 (List.mem_of_getElem? (i := 57) rfl)) rfl
theorem q58 : (Jvm.Cond.laysFinal "PegshoreHouse$Row" "PegshoreHouse$Row" "items" "[I") ∈ lw_all := lw_all_of (lw_in1 (List.mem_of_getElem? (i := 58) rfl)) rfl
theorem q60 : (Jvm.Cond.lays "PegshoreHouse$Row" "PegshoreHouse$Row" "size" "I") ∈ lw_all := lw_all_of (lw_in1 (List.mem_of_getElem? (i := 60) rfl)) rfl
theorem q62 : (Jvm.Cond.superclass "PegshoreHouse$Row" "java/lang/Object") ∈ lw_all := lw_all_of (lw_in1 (List.mem_of_getElem? (i := 62) rfl)) rfl
theorem q63 : (Jvm.Cond.arrayClass Jvm.ClassFile.FieldType.int) ∈ lw_all := lw_all_of (lw_in1 (List.mem_of_getElem? (i := 63) rfl)) rfl
theorem q64 : (Jvm.Cond.fieldLink "PegshoreHouse$Board" (9 : Nat) "PegshoreHouse$Board" "kind" "C") ∈ lw_all := lw_all_of (lw_in1 (List.mem_of_getElem? (i := 64) rfl)) rfl
theorem q66 : (Jvm.Cond.fieldLink "PegshoreHouse$Board" (43 : Nat) "PegshoreHouse$Board" "drilled" "I") ∈ lw_all := lw_all_of (lw_in1 (List.mem_of_getElem? (i := 66) rfl)) rfl
theorem q67 : (Jvm.Cond.fieldLink "PegshoreHouse$Board" (15 : Nat) "PegshoreHouse$Board" "cellWeights" "[I") ∈ lw_all := lw_all_of (lw_in1 (List.mem_of_getElem? (i := 67) rfl)) rfl
theorem q68 : (Jvm.Cond.fieldLink "PegshoreHouse$Board" (24 : Nat) "PegshoreHouse$Board" "cells" "LPegshoreHouse$Row;") ∈ lw_all := lw_all_of (lw_in1 (List.mem_of_getElem? (i := 68) rfl)) rfl
theorem q69 : (Jvm.Cond.fieldLink "PegshoreHouse$Board" (28 : Nat) "PegshoreHouse$Board" "codes" "LPegshoreHouse$Row;") ∈ lw_all := lw_all_of (lw_in1 (List.mem_of_getElem? (i := 69) rfl)) rfl
theorem q70 : (Jvm.Cond.fieldLink "PegshoreHouse$Board" (31 : Nat) "PegshoreHouse$Board" "middles" "LPegshoreHouse$Row;") ∈ lw_all := lw_all_of (lw_in1 (List.mem_of_getElem? (i := 70) rfl)) rfl
theorem q71 : (Jvm.Cond.fieldLink "PegshoreHouse$Board" (34 : Nat) "PegshoreHouse$Board" "pairs" "LPegshoreHouse$Row;") ∈ lw_all := lw_all_of (lw_in1 (List.mem_of_getElem? (i := 71) rfl)) rfl
theorem q72 : (Jvm.Cond.fieldLink "PegshoreHouse$Board" (37 : Nat) "PegshoreHouse$Board" "spans" "LPegshoreHouse$Row;") ∈ lw_all := lw_all_of (lw_in1 (List.mem_of_getElem? (i := 72) rfl)) rfl
theorem q73 : (Jvm.Cond.lays "PegshoreHouse$Board" "PegshoreHouse$Board" "kind" "C") ∈ lw_all := lw_all_of (lw_in1 (List.mem_of_getElem? (i := 73) rfl)) rfl
theorem q75 : (Jvm.Cond.lays "PegshoreHouse$Board" "PegshoreHouse$Board" "drilled" "I") ∈ lw_all := lw_all_of (lw_in1 (List.mem_of_getElem? (i := 75) rfl)) rfl
theorem q77 : (Jvm.Cond.laysFinal "PegshoreHouse$Board" "PegshoreHouse$Board" "cellWeights" "[I") ∈ lw_all := lw_all_of (lw_in1 (List.mem_of_getElem? (i := 77) rfl)) rfl
theorem q79 : (Jvm.Cond.laysFinal "PegshoreHouse$Board" "PegshoreHouse$Board" "cells" "LPegshoreHouse$Row;") ∈ lw_all := lw_all_of (lw_in1 (List.mem_of_getElem? (i := 79) rfl)) rfl
theorem q81 : (Jvm.Cond.laysFinal "PegshoreHouse$Board" "PegshoreHouse$Board" "codes" "LPegshoreHouse$Row;") ∈ lw_all := lw_all_of (lw_in1 (List.mem_of_getElem? (i := 81) rfl)) rfl
theorem q83 : (Jvm.Cond.laysFinal "PegshoreHouse$Board" "PegshoreHouse$Board" "middles" "LPegshoreHouse$Row;") ∈ lw_all := lw_all_of (lw_in1 (List.mem_of_getElem? (i := 83) rfl)) rfl
theorem q85 : (Jvm.Cond.laysFinal "PegshoreHouse$Board" "PegshoreHouse$Board" "pairs" "LPegshoreHouse$Row;") ∈ lw_all := lw_all_of (lw_in1 (List.mem_of_getElem? (i := 85) rfl)) rfl
theorem q87 : (Jvm.Cond.laysFinal "PegshoreHouse$Board" "PegshoreHouse$Board" "spans" "LPegshoreHouse$Row;") ∈ lw_all := lw_all_of (lw_in1 (List.mem_of_getElem? (i := 87) rfl)) rfl
theorem q89 : (Jvm.Cond.superclass "PegshoreHouse$Board" "java/lang/Object") ∈ lw_all := lw_all_of (lw_in1 (List.mem_of_getElem? (i := 89) rfl)) rfl
theorem q90 : (Jvm.Cond.classLink "PegshoreHouse" (16 : Nat) "PegshoreHouse$Walk") ∈ lw_all := lw_all_of (lw_in1 (List.mem_of_getElem? (i := 90) rfl)) rfl
theorem q91 : (Jvm.Cond.instantiable "PegshoreHouse$Walk" (12 : Nat)) ∈ lw_all := lw_all_of (lw_in1 (List.mem_of_getElem? (i := 91) rfl)) rfl
theorem q92 : (Jvm.Cond.methodLink "PegshoreHouse" (18 : Nat) ({ cls := "PegshoreHouse$Walk", name := "<init>", desc := "(LPegshoreHouse$Board;)V" } : Jvm.MethodName)) ∈ lw_all := lw_all_of (lw_in1 (List.mem_of_getElem? (i := 92) rfl)) rfl
theorem q93 : (Jvm.Cond.instanceMethod ({ cls := "PegshoreHouse$Walk", name := "<init>", desc := "(LPegshoreHouse$Board;)V" } : Jvm.MethodName)) ∈ lw_all := lw_all_of (lw_in1 (List.mem_of_getElem? (i := 93) rfl)) rfl
theorem q94 : (Jvm.Cond.code ({ cls := "PegshoreHouse$Walk", name := "<init>", desc := "(LPegshoreHouse$Board;)V" } : Jvm.MethodName) prog_4_method_1_code (2 : Nat) (Option.none : Option Jvm.ClassFile.FieldType)) ∈ lw_all := lw_all_of (lw_in1 (List.mem_of_getElem? (i := 94) rfl)) rfl
theorem q95 : (Jvm.Cond.methodLink "PegshoreHouse$Walk" (3 : Nat) ({ cls := "java/lang/Object", name := "<init>", desc := "()V" } : Jvm.MethodName)) ∈ lw_all := lw_all_of (lw_in1 (List.mem_of_getElem? (i := 95) rfl)) rfl
theorem q96 : (Jvm.Cond.fieldLink "PegshoreHouse$Walk" (29 : Nat) "PegshoreHouse$Walk" "board" "LPegshoreHouse$Board;") ∈ lw_all := lw_all_of (lw_in1 (List.mem_of_getElem? (i := 96) rfl)) rfl
theorem q97 : (Jvm.Cond.fieldLink "PegshoreHouse$Walk" (9 : Nat) "PegshoreHouse$Walk" "found" "[I") ∈ lw_all := lw_all_of (lw_in1 (List.mem_of_getElem? (i := 97) rfl)) rfl
theorem q98 : (Jvm.Cond.fieldLink "PegshoreHouse$Walk" (15 : Nat) "PegshoreHouse$Walk" "ways" "[J") ∈ lw_all := lw_all_of (lw_in1 (List.mem_of_getElem? (i := 98) rfl)) rfl
theorem q99 : (Jvm.Cond.fieldLink "PegshoreHouse$Walk" (19 : Nat) "PegshoreHouse$Walk" "figures" "[I") ∈ lw_all := lw_all_of (lw_in1 (List.mem_of_getElem? (i := 99) rfl)) rfl
theorem q100 : (Jvm.Cond.fieldLink "PegshoreHouse$Walk" (49 : Nat) "PegshoreHouse$Walk" "size" "I") ∈ lw_all := lw_all_of (lw_in1 (List.mem_of_getElem? (i := 100) rfl)) rfl
theorem q102 : (Jvm.Cond.fieldLink "PegshoreHouse$Walk" (22 : Nat) "PegshoreHouse$Walk" "start" "I") ∈ lw_all := lw_all_of (lw_in1 (List.mem_of_getElem? (i := 102) rfl)) rfl
theorem q103 : (Jvm.Cond.fieldLink "PegshoreHouse$Walk" (56 : Nat) "PegshoreHouse$Walk" "deadCount" "I") ∈ lw_all := lw_all_of (lw_in1 (List.mem_of_getElem? (i := 103) rfl)) rfl
theorem q105 : (Jvm.Cond.fieldLink "PegshoreHouse$Walk" (42 : Nat) "PegshoreHouse$Walk" "fewestPegs" "I") ∈ lw_all := lw_all_of (lw_in1 (List.mem_of_getElem? (i := 105) rfl)) rfl
theorem q107 : (Jvm.Cond.fieldLink "PegshoreHouse$Walk" (59 : Nat) "PegshoreHouse$Walk" "touched" "I") ∈ lw_all := lw_all_of (lw_in1 (List.mem_of_getElem? (i := 107) rfl)) rfl
theorem q109 : (Jvm.Cond.fieldLink "PegshoreHouse$Walk" (62 : Nat) "PegshoreHouse$Walk" "jumpSum" "I") ∈ lw_all := lw_all_of (lw_in1 (List.mem_of_getElem? (i := 109) rfl)) rfl
theorem q111 : (Jvm.Cond.fieldLink "PegshoreHouse$Walk" (26 : Nat) "PegshoreHouse$Walk" "figured" "I") ∈ lw_all := lw_all_of (lw_in1 (List.mem_of_getElem? (i := 111) rfl)) rfl
theorem q112 : (Jvm.Cond.fieldLink "PegshoreHouse$Walk" (84 : Nat) "PegshoreHouse$Walk" "figuredEnd" "I") ∈ lw_all := lw_all_of (lw_in1 (List.mem_of_getElem? (i := 112) rfl)) rfl
theorem q113 : (Jvm.Cond.laysFinal "PegshoreHouse$Walk" "PegshoreHouse$Walk" "board" "LPegshoreHouse$Board;") ∈ lw_all := lw_all_of (lw_in1 (List.mem_of_getElem? (i := 113) rfl)) rfl
theorem q115 : (Jvm.Cond.laysFinal "PegshoreHouse$Walk" "PegshoreHouse$Walk" "found" "[I") ∈ lw_all := lw_all_of (lw_in1 (List.mem_of_getElem? (i := 115) rfl)) rfl
theorem q117 : (Jvm.Cond.laysFinal "PegshoreHouse$Walk" "PegshoreHouse$Walk" "ways" "[J") ∈ lw_all := lw_all_of (lw_in1 (List.mem_of_getElem? (i := 117) rfl)) rfl
theorem q119 : (Jvm.Cond.laysFinal "PegshoreHouse$Walk" "PegshoreHouse$Walk" "figures" "[I") ∈ lw_all := lw_all_of (lw_in1 (List.mem_of_getElem? (i := 119) rfl)) rfl
theorem q121 : (Jvm.Cond.lays "PegshoreHouse$Walk" "PegshoreHouse$Walk" "size" "I") ∈ lw_all := lw_all_of (lw_in1 (List.mem_of_getElem? (i := 121) rfl)) rfl
theorem q123 : (Jvm.Cond.lays "PegshoreHouse$Walk" "PegshoreHouse$Walk" "start" "I") ∈ lw_all := lw_all_of (lw_in1 (List.mem_of_getElem? (i := 123) rfl)) rfl
theorem q125 : (Jvm.Cond.lays "PegshoreHouse$Walk" "PegshoreHouse$Walk" "deadCount" "I") ∈ lw_all := lw_all_of (lw_in1 (List.mem_of_getElem? (i := 125) rfl)) rfl
theorem q127 : (Jvm.Cond.lays "PegshoreHouse$Walk" "PegshoreHouse$Walk" "fewestPegs" "I") ∈ lw_all := lw_all_of (lw_in1 (List.mem_of_getElem? (i := 127) rfl)) rfl
theorem q129 : (Jvm.Cond.lays "PegshoreHouse$Walk" "PegshoreHouse$Walk" "touched" "I") ∈ lw_all := lw_all_of (lw_in1 (List.mem_of_getElem? (i := 129) rfl)) rfl
theorem q131 : (Jvm.Cond.lays "PegshoreHouse$Walk" "PegshoreHouse$Walk" "jumpSum" "I") ∈ lw_all := lw_all_of (lw_in1 (List.mem_of_getElem? (i := 131) rfl)) rfl
theorem q133 : (Jvm.Cond.lays "PegshoreHouse$Walk" "PegshoreHouse$Walk" "figured" "I") ∈ lw_all := lw_all_of (lw_in1 (List.mem_of_getElem? (i := 133) rfl)) rfl
theorem q135 : (Jvm.Cond.lays "PegshoreHouse$Walk" "PegshoreHouse$Walk" "figuredEnd" "I") ∈ lw_all := lw_all_of (lw_in1 (List.mem_of_getElem? (i := 135) rfl)) rfl
theorem q137 : (Jvm.Cond.superclass "PegshoreHouse$Walk" "java/lang/Object") ∈ lw_all := lw_all_of (lw_in1 (List.mem_of_getElem? (i := 137) rfl)) rfl
theorem q138 : (Jvm.Cond.arrayClass Jvm.ClassFile.FieldType.long) ∈ lw_all := lw_all_of (lw_in1 (List.mem_of_getElem? (i := 138) rfl)) rfl
theorem q139 : (Jvm.Cond.classLink "PegshoreHouse" (25 : Nat) "PegshoreHouse$Row") ∈ lw_all := lw_all_of (lw_in1 (List.mem_of_getElem? (i := 139) rfl)) rfl
theorem q140 : (Jvm.Cond.methodLink "PegshoreHouse" (27 : Nat) ({ cls := "PegshoreHouse$Row", name := "<init>", desc := "(I)V" } : Jvm.MethodName)) ∈ lw_all := lw_all_of (lw_in1 (List.mem_of_getElem? (i := 140) rfl)) rfl
theorem q141 : (Jvm.Cond.fieldLink "PegshoreHouse" (10 : Nat) "PegshoreHouse" "board" "LPegshoreHouse$Board;") ∈ lw_all := lw_all_of (lw_in1 (List.mem_of_getElem? (i := 141) rfl)) rfl
theorem q142 : (Jvm.Cond.fieldLink "PegshoreHouse" (21 : Nat) "PegshoreHouse" "walk" "LPegshoreHouse$Walk;") ∈ lw_all := lw_all_of (lw_in1 (List.mem_of_getElem? (i := 142) rfl)) rfl
theorem q143 : (Jvm.Cond.fieldLink "PegshoreHouse" (30 : Nat) "PegshoreHouse" "madeCodes" "LPegshoreHouse$Row;") ∈ lw_all := lw_all_of (lw_in1 (List.mem_of_getElem? (i := 143) rfl)) rfl
theorem q144 : (Jvm.Cond.fieldLink "PegshoreHouse" (34 : Nat) "PegshoreHouse" "toldHoles" "LPegshoreHouse$Row;") ∈ lw_all := lw_all_of (lw_in1 (List.mem_of_getElem? (i := 144) rfl)) rfl
theorem q145 : (Jvm.Cond.fieldLink "PegshoreHouse" (83 : Nat) "PegshoreHouse" "position" "I") ∈ lw_all := lw_all_of (lw_in1 (List.mem_of_getElem? (i := 145) rfl)) rfl
theorem q146 : (Jvm.Cond.fieldLink "PegshoreHouse" (87 : Nat) "PegshoreHouse" "end" "I") ∈ lw_all := lw_all_of (lw_in1 (List.mem_of_getElem? (i := 146) rfl)) rfl
theorem q147 : (Jvm.Cond.laysFinal "PegshoreHouse" "PegshoreHouse" "board" "LPegshoreHouse$Board;") ∈ lw_all := lw_all_of (lw_in1 (List.mem_of_getElem? (i := 147) rfl)) rfl
theorem q149 : (Jvm.Cond.laysFinal "PegshoreHouse" "PegshoreHouse" "walk" "LPegshoreHouse$Walk;") ∈ lw_all := lw_all_of (lw_in1 (List.mem_of_getElem? (i := 149) rfl)) rfl
theorem q151 : (Jvm.Cond.laysFinal "PegshoreHouse" "PegshoreHouse" "madeCodes" "LPegshoreHouse$Row;") ∈ lw_all := lw_all_of (lw_in1 (List.mem_of_getElem? (i := 151) rfl)) rfl
theorem q153 : (Jvm.Cond.laysFinal "PegshoreHouse" "PegshoreHouse" "toldHoles" "LPegshoreHouse$Row;") ∈ lw_all := lw_all_of (lw_in1 (List.mem_of_getElem? (i := 153) rfl)) rfl
theorem q155 : (Jvm.Cond.lays "PegshoreHouse" "PegshoreHouse" "position" "I") ∈ lw_all := lw_all_of (lw_in1 (List.mem_of_getElem? (i := 155) rfl)) rfl
theorem q157 : (Jvm.Cond.lays "PegshoreHouse" "PegshoreHouse" "end" "I") ∈ lw_all := lw_all_of (lw_in1 (List.mem_of_getElem? (i := 157) rfl)) rfl
theorem q159 : (Jvm.Cond.superclass "PegshoreHouse" "java/lang/Object") ∈ lw_all := lw_all_of (lw_in1 (List.mem_of_getElem? (i := 159) rfl)) rfl
theorem q160 : (Jvm.Cond.methodLink "PegshoreHouseLaw" (131 : Nat) ({ cls := "PegshoreHouse", name := "lines", desc := "()I" } : Jvm.MethodName)) ∈ lw_all := lw_all_of (lw_in1 (List.mem_of_getElem? (i := 160) rfl)) rfl
theorem q161 : (Jvm.Cond.instanceMethod ({ cls := "PegshoreHouse", name := "lines", desc := "()I" } : Jvm.MethodName)) ∈ lw_all := lw_all_of (lw_in1 (List.mem_of_getElem? (i := 161) rfl)) rfl
theorem q162 : (Jvm.Cond.selects "PegshoreHouse" ({ cls := "PegshoreHouse", name := "lines", desc := "()I" } : Jvm.MethodName) ({ cls := "PegshoreHouse", name := "lines", desc := "()I" } : Jvm.MethodName)) ∈ lw_all := lw_all_of (lw_in1 (List.mem_of_getElem? (i := 162) rfl)) rfl
theorem q163 : (Jvm.Cond.code ({ cls := "PegshoreHouse", name := "lines", desc := "()I" } : Jvm.MethodName) prog_1_method_7_code (1 : Nat) (Option.some Jvm.ClassFile.FieldType.int)) ∈ lw_all := lw_all_of (lw_in1 (List.mem_of_getElem? (i := 163) rfl)) rfl
theorem q164 : (Jvm.Cond.methodLink "PegshoreHouse" (104 : Nat) ({ cls := "PegshoreHouse$Board", name := "lineCount", desc := "()I" } : Jvm.MethodName)) ∈ lw_all := lw_all_of (lw_in1 (List.mem_of_getElem? (i := 164) rfl)) rfl
theorem q165 : (Jvm.Cond.instanceMethod ({ cls := "PegshoreHouse$Board", name := "lineCount", desc := "()I" } : Jvm.MethodName)) ∈ lw_all := lw_all_of (lw_in1 (List.mem_of_getElem? (i := 165) rfl)) rfl
theorem q166 : (Jvm.Cond.selects "PegshoreHouse$Board" ({ cls := "PegshoreHouse$Board", name := "lineCount", desc := "()I" } : Jvm.MethodName) ({ cls := "PegshoreHouse$Board", name := "lineCount", desc := "()I" } : Jvm.MethodName)) ∈ lw_all := lw_all_of (lw_in1 (List.mem_of_getElem? (i := 166) rfl)) rfl
theorem q167 : (Jvm.Cond.code ({ cls := "PegshoreHouse$Board", name := "lineCount", desc := "()I" } : Jvm.MethodName) prog_2_method_15_code (1 : Nat) (Option.some Jvm.ClassFile.FieldType.int)) ∈ lw_all := lw_all_of (lw_in1 (List.mem_of_getElem? (i := 167) rfl)) rfl
theorem q168 : (Jvm.Cond.methodLink "PegshoreHouse$Board" (60 : Nat) ({ cls := "PegshoreHouse$Row", name := "size", desc := "()I" } : Jvm.MethodName)) ∈ lw_all := lw_all_of (lw_in1 (List.mem_of_getElem? (i := 168) rfl)) rfl
theorem q169 : (Jvm.Cond.instanceMethod ({ cls := "PegshoreHouse$Row", name := "size", desc := "()I" } : Jvm.MethodName)) ∈ lw_all := lw_all_of (lw_in1 (List.mem_of_getElem? (i := 169) rfl)) rfl
theorem q170 : (Jvm.Cond.selects "PegshoreHouse$Row" ({ cls := "PegshoreHouse$Row", name := "size", desc := "()I" } : Jvm.MethodName) ({ cls := "PegshoreHouse$Row", name := "size", desc := "()I" } : Jvm.MethodName)) ∈ lw_all := lw_all_of (lw_in1 (List.mem_of_getElem? (i := 170) rfl)) rfl
theorem q171 : (Jvm.Cond.code ({ cls := "PegshoreHouse$Row", name := "size", desc := "()I" } : Jvm.MethodName) prog_3_method_2_code (1 : Nat) (Option.some Jvm.ClassFile.FieldType.int)) ∈ lw_all := lw_all_of (lw_in1 (List.mem_of_getElem? (i := 171) rfl)) rfl
theorem q172 : (Jvm.Cond.methodLink "PegshoreHouseLaw" (135 : Nat) ({ cls := "PegshoreHouse", name := "symmetries", desc := "()I" } : Jvm.MethodName)) ∈ lw_all := lw_all_of (lw_in1 (List.mem_of_getElem? (i := 172) rfl)) rfl
theorem q173 : (Jvm.Cond.instanceMethod ({ cls := "PegshoreHouse", name := "symmetries", desc := "()I" } : Jvm.MethodName)) ∈ lw_all := lw_all_of (lw_in1 (List.mem_of_getElem? (i := 173) rfl)) rfl
theorem q174 : (Jvm.Cond.selects "PegshoreHouse" ({ cls := "PegshoreHouse", name := "symmetries", desc := "()I" } : Jvm.MethodName) ({ cls := "PegshoreHouse", name := "symmetries", desc := "()I" } : Jvm.MethodName)) ∈ lw_all := lw_all_of (lw_in1 (List.mem_of_getElem? (i := 174) rfl)) rfl
theorem q175 : (Jvm.Cond.code ({ cls := "PegshoreHouse", name := "symmetries", desc := "()I" } : Jvm.MethodName) prog_1_method_8_code (3 : Nat) (Option.some Jvm.ClassFile.FieldType.int)) ∈ lw_all := lw_all_of (lw_in1 (List.mem_of_getElem? (i := 175) rfl)) rfl
theorem q176 : (Jvm.Cond.methodLink "PegshoreHouse" (107 : Nat) ({ cls := "PegshoreHouse$Board", name := "isSymmetry", desc := "(I)Z" } : Jvm.MethodName)) ∈ lw_all := lw_all_of (lw_in1 (List.mem_of_getElem? (i := 176) rfl)) rfl
theorem q177 : (Jvm.Cond.instanceMethod ({ cls := "PegshoreHouse$Board", name := "isSymmetry", desc := "(I)Z" } : Jvm.MethodName)) ∈ lw_all := lw_all_of (lw_in1 (List.mem_of_getElem? (i := 177) rfl)) rfl
theorem q178 : (Jvm.Cond.selects "PegshoreHouse$Board" ({ cls := "PegshoreHouse$Board", name := "isSymmetry", desc := "(I)Z" } : Jvm.MethodName) ({ cls := "PegshoreHouse$Board", name := "isSymmetry", desc := "(I)Z" } : Jvm.MethodName)) ∈ lw_all := lw_all_of (lw_in1 (List.mem_of_getElem? (i := 178) rfl)) rfl
theorem q179 : (Jvm.Cond.code ({ cls := "PegshoreHouse$Board", name := "isSymmetry", desc := "(I)Z" } : Jvm.MethodName) prog_2_method_21_code (5 : Nat) (Option.some Jvm.ClassFile.FieldType.boolean)) ∈ lw_all := lw_all_of (lw_in1 (List.mem_of_getElem? (i := 179) rfl)) rfl
theorem q180 : (Jvm.Cond.methodLink "PegshoreHouse$Board" (64 : Nat) ({ cls := "PegshoreHouse$Row", name := "at", desc := "(I)I" } : Jvm.MethodName)) ∈ lw_all := lw_all_of (lw_in1 (List.mem_of_getElem? (i := 180) rfl)) rfl
theorem q181 : (Jvm.Cond.instanceMethod ({ cls := "PegshoreHouse$Row", name := "at", desc := "(I)I" } : Jvm.MethodName)) ∈ lw_all := lw_all_of (lw_in1 (List.mem_of_getElem? (i := 181) rfl)) rfl
theorem q182 : (Jvm.Cond.selects "PegshoreHouse$Row" ({ cls := "PegshoreHouse$Row", name := "at", desc := "(I)I" } : Jvm.MethodName) ({ cls := "PegshoreHouse$Row", name := "at", desc := "(I)I" } : Jvm.MethodName)) ∈ lw_all := lw_all_of (lw_in1 (List.mem_of_getElem? (i := 182) rfl)) rfl
theorem q183 : (Jvm.Cond.code ({ cls := "PegshoreHouse$Row", name := "at", desc := "(I)I" } : Jvm.MethodName) prog_3_method_3_code (2 : Nat) (Option.some Jvm.ClassFile.FieldType.int)) ∈ lw_all := lw_all_of (lw_in1 (List.mem_of_getElem? (i := 183) rfl)) rfl
theorem q184 : (Jvm.Cond.methodLink "PegshoreHouse$Board" (96 : Nat) ({ cls := "PegshoreHouse$Board", name := "turned", desc := "(II)I" } : Jvm.MethodName)) ∈ lw_all := lw_all_of (lw_in1 (List.mem_of_getElem? (i := 184) rfl)) rfl
theorem q185 : (Jvm.Cond.static ({ cls := "PegshoreHouse$Board", name := "turned", desc := "(II)I" } : Jvm.MethodName)) ∈ lw_all := lw_all_of (lw_in1 (List.mem_of_getElem? (i := 185) rfl)) rfl
theorem q186 : (Jvm.Cond.code ({ cls := "PegshoreHouse$Board", name := "turned", desc := "(II)I" } : Jvm.MethodName) prog_2_method_22_code (4 : Nat) (Option.some Jvm.ClassFile.FieldType.int)) ∈ lw_all := lw_all_of (lw_in1 (List.mem_of_getElem? (i := 186) rfl)) rfl
theorem q187 : (Jvm.Cond.methodLink "PegshoreHouse$Board" (53 : Nat) ({ cls := "PegshoreHouse$Board", name := "isHole", desc := "(I)Z" } : Jvm.MethodName)) ∈ lw_all := lw_all_of (lw_in1 (List.mem_of_getElem? (i := 187) rfl)) rfl
theorem q188 : (Jvm.Cond.instanceMethod ({ cls := "PegshoreHouse$Board", name := "isHole", desc := "(I)Z" } : Jvm.MethodName)) ∈ lw_all := lw_all_of (lw_in1 (List.mem_of_getElem? (i := 188) rfl)) rfl
theorem q189 : (Jvm.Cond.selects "PegshoreHouse$Board" ({ cls := "PegshoreHouse$Board", name := "isHole", desc := "(I)Z" } : Jvm.MethodName) ({ cls := "PegshoreHouse$Board", name := "isHole", desc := "(I)Z" } : Jvm.MethodName)) ∈ lw_all := lw_all_of (lw_in1 (List.mem_of_getElem? (i := 189) rfl)) rfl
theorem q190 : (Jvm.Cond.code ({ cls := "PegshoreHouse$Board", name := "isHole", desc := "(I)Z" } : Jvm.MethodName) prog_2_method_11_code (2 : Nat) (Option.some Jvm.ClassFile.FieldType.boolean)) ∈ lw_all := lw_all_of (lw_in1 (List.mem_of_getElem? (i := 190) rfl)) rfl
theorem q191 : (Jvm.Cond.methodLink "PegshoreHouse$Board" (68 : Nat) ({ cls := "PegshoreHouse$Board", name := "isLine", desc := "(II)Z" } : Jvm.MethodName)) ∈ lw_all := lw_all_of (lw_in1 (List.mem_of_getElem? (i := 191) rfl)) rfl
theorem q193 : (Jvm.Cond.instanceMethod ({ cls := "PegshoreHouse$Board", name := "isLine", desc := "(II)Z" } : Jvm.MethodName)) ∈ lw_all := lw_all_of (lw_in1 (List.mem_of_getElem? (i := 193) rfl)) rfl
theorem q194 : (Jvm.Cond.code ({ cls := "PegshoreHouse$Board", name := "isLine", desc := "(II)Z" } : Jvm.MethodName) prog_2_method_8_code (5 : Nat) (Option.some Jvm.ClassFile.FieldType.boolean)) ∈ lw_all := lw_all_of (lw_in1 (List.mem_of_getElem? (i := 194) rfl)) rfl
theorem q195 : (Jvm.Cond.methodLink "PegshoreHouse$Board" (79 : Nat) ({ cls := "PegshoreHouse$Board", name := "isTwoSteps", desc := "(II)Z" } : Jvm.MethodName)) ∈ lw_all := lw_all_of (lw_in1 (List.mem_of_getElem? (i := 195) rfl)) rfl
theorem q197 : (Jvm.Cond.instanceMethod ({ cls := "PegshoreHouse$Board", name := "isTwoSteps", desc := "(II)Z" } : Jvm.MethodName)) ∈ lw_all := lw_all_of (lw_in1 (List.mem_of_getElem? (i := 197) rfl)) rfl
theorem q198 : (Jvm.Cond.code ({ cls := "PegshoreHouse$Board", name := "isTwoSteps", desc := "(II)Z" } : Jvm.MethodName) prog_2_method_9_code (3 : Nat) (Option.some Jvm.ClassFile.FieldType.boolean)) ∈ lw_all := lw_all_of (lw_in1 (List.mem_of_getElem? (i := 198) rfl)) rfl
theorem q199 : (Jvm.Cond.methodLink "PegshoreHouse$Board" (82 : Nat) ({ cls := "java/lang/Math", name := "abs", desc := "(I)I" } : Jvm.MethodName)) ∈ lw_all := lw_all_of (lw_in1 (List.mem_of_getElem? (i := 199) rfl)) rfl
theorem q200 : (Jvm.Cond.static ({ cls := "java/lang/Math", name := "abs", desc := "(I)I" } : Jvm.MethodName)) ∈ lw_all := lw_all_of (lw_in1 (List.mem_of_getElem? (i := 200) rfl)) rfl
theorem q201 : (Jvm.Cond.code ({ cls := "java/lang/Math", name := "abs", desc := "(I)I" } : Jvm.MethodName) prog_24_method_59_code (1 : Nat) (Option.some Jvm.ClassFile.FieldType.int)) ∈ lw_all := lw_all_of (lw_in1 (List.mem_of_getElem? (i := 201) rfl)) rfl
theorem q202 : (Jvm.Cond.methodLink "PegshoreHouseLaw" (142 : Nat) ({ cls := "PegshoreHouse", name := "now", desc := "()I" } : Jvm.MethodName)) ∈ lw_all := lw_all_of (lw_in1 (List.mem_of_getElem? (i := 202) rfl)) rfl
theorem q203 : (Jvm.Cond.instanceMethod ({ cls := "PegshoreHouse", name := "now", desc := "()I" } : Jvm.MethodName)) ∈ lw_all := lw_all_of (lw_in1 (List.mem_of_getElem? (i := 203) rfl)) rfl
theorem q204 : (Jvm.Cond.selects "PegshoreHouse" ({ cls := "PegshoreHouse", name := "now", desc := "()I" } : Jvm.MethodName) ({ cls := "PegshoreHouse", name := "now", desc := "()I" } : Jvm.MethodName)) ∈ lw_all := lw_all_of (lw_in1 (List.mem_of_getElem? (i := 204) rfl)) rfl
theorem q205 : (Jvm.Cond.code ({ cls := "PegshoreHouse", name := "now", desc := "()I" } : Jvm.MethodName) prog_1_method_10_code (1 : Nat) (Option.some Jvm.ClassFile.FieldType.int)) ∈ lw_all := lw_all_of (lw_in1 (List.mem_of_getElem? (i := 205) rfl)) rfl
theorem q206 : (Jvm.Cond.methodLink "PegshoreHouseLaw" (153 : Nat) ({ cls := "PegshoreHouse", name := "jumps", desc := "()I" } : Jvm.MethodName)) ∈ lw_all := lw_all_of (lw_in1 (List.mem_of_getElem? (i := 206) rfl)) rfl
theorem q207 : (Jvm.Cond.instanceMethod ({ cls := "PegshoreHouse", name := "jumps", desc := "()I" } : Jvm.MethodName)) ∈ lw_all := lw_all_of (lw_in1 (List.mem_of_getElem? (i := 207) rfl)) rfl
theorem q208 : (Jvm.Cond.selects "PegshoreHouse" ({ cls := "PegshoreHouse", name := "jumps", desc := "()I" } : Jvm.MethodName) ({ cls := "PegshoreHouse", name := "jumps", desc := "()I" } : Jvm.MethodName)) ∈ lw_all := lw_all_of (lw_in1 (List.mem_of_getElem? (i := 208) rfl)) rfl
theorem q209 : (Jvm.Cond.code ({ cls := "PegshoreHouse", name := "jumps", desc := "()I" } : Jvm.MethodName) prog_1_method_13_code (1 : Nat) (Option.some Jvm.ClassFile.FieldType.int)) ∈ lw_all := lw_all_of (lw_in1 (List.mem_of_getElem? (i := 209) rfl)) rfl
theorem q210 : (Jvm.Cond.methodLink "PegshoreHouse" (133 : Nat) ({ cls := "PegshoreHouse$Board", name := "countJumps", desc := "(I)I" } : Jvm.MethodName)) ∈ lw_all := lw_all_of (lw_in1 (List.mem_of_getElem? (i := 210) rfl)) rfl
theorem q211 : (Jvm.Cond.instanceMethod ({ cls := "PegshoreHouse$Board", name := "countJumps", desc := "(I)I" } : Jvm.MethodName)) ∈ lw_all := lw_all_of (lw_in1 (List.mem_of_getElem? (i := 211) rfl)) rfl
theorem q212 : (Jvm.Cond.selects "PegshoreHouse$Board" ({ cls := "PegshoreHouse$Board", name := "countJumps", desc := "(I)I" } : Jvm.MethodName) ({ cls := "PegshoreHouse$Board", name := "countJumps", desc := "(I)I" } : Jvm.MethodName)) ∈ lw_all := lw_all_of (lw_in1 (List.mem_of_getElem? (i := 212) rfl)) rfl
theorem q213 : (Jvm.Cond.code ({ cls := "PegshoreHouse$Board", name := "countJumps", desc := "(I)I" } : Jvm.MethodName) prog_2_method_20_code (4 : Nat) (Option.some Jvm.ClassFile.FieldType.int)) ∈ lw_all := lw_all_of (lw_in1 (List.mem_of_getElem? (i := 213) rfl)) rfl
theorem q214 : (Jvm.Cond.methodLink "PegshoreHouse$Board" (92 : Nat) ({ cls := "PegshoreHouse$Board", name := "behind", desc := "(II)I" } : Jvm.MethodName)) ∈ lw_all := lw_all_of (lw_in1 (List.mem_of_getElem? (i := 214) rfl)) rfl
theorem q215 : (Jvm.Cond.instanceMethod ({ cls := "PegshoreHouse$Board", name := "behind", desc := "(II)I" } : Jvm.MethodName)) ∈ lw_all := lw_all_of (lw_in1 (List.mem_of_getElem? (i := 215) rfl)) rfl
theorem q216 : (Jvm.Cond.selects "PegshoreHouse$Board" ({ cls := "PegshoreHouse$Board", name := "behind", desc := "(II)I" } : Jvm.MethodName) ({ cls := "PegshoreHouse$Board", name := "behind", desc := "(II)I" } : Jvm.MethodName)) ∈ lw_all := lw_all_of (lw_in1 (List.mem_of_getElem? (i := 216) rfl)) rfl
theorem q217 : (Jvm.Cond.code ({ cls := "PegshoreHouse$Board", name := "behind", desc := "(II)I" } : Jvm.MethodName) prog_2_method_18_code (4 : Nat) (Option.some Jvm.ClassFile.FieldType.int)) ∈ lw_all := lw_all_of (lw_in1 (List.mem_of_getElem? (i := 217) rfl)) rfl
theorem q218 : (Jvm.Cond.methodLink "PegshoreHouseLaw" (164 : Nat) ({ cls := "PegshoreHouse", name := "made", desc := "()I" } : Jvm.MethodName)) ∈ lw_all := lw_all_of (lw_in1 (List.mem_of_getElem? (i := 218) rfl)) rfl
theorem q219 : (Jvm.Cond.instanceMethod ({ cls := "PegshoreHouse", name := "made", desc := "()I" } : Jvm.MethodName)) ∈ lw_all := lw_all_of (lw_in1 (List.mem_of_getElem? (i := 219) rfl)) rfl
theorem q220 : (Jvm.Cond.selects "PegshoreHouse" ({ cls := "PegshoreHouse", name := "made", desc := "()I" } : Jvm.MethodName) ({ cls := "PegshoreHouse", name := "made", desc := "()I" } : Jvm.MethodName)) ∈ lw_all := lw_all_of (lw_in1 (List.mem_of_getElem? (i := 220) rfl)) rfl
theorem q221 : (Jvm.Cond.code ({ cls := "PegshoreHouse", name := "made", desc := "()I" } : Jvm.MethodName) prog_1_method_16_code (1 : Nat) (Option.some Jvm.ClassFile.FieldType.int)) ∈ lw_all := lw_all_of (lw_in1 (List.mem_of_getElem? (i := 221) rfl)) rfl
theorem q222 : (Jvm.Cond.methodLink "PegshoreHouse" (144 : Nat) ({ cls := "PegshoreHouse$Row", name := "size", desc := "()I" } : Jvm.MethodName)) ∈ lw_all := lw_all_of (lw_in1 (List.mem_of_getElem? (i := 222) rfl)) rfl
theorem q223 : (Jvm.Cond.methodLink "PegshoreHouseLaw" (168 : Nat) ({ cls := "PegshoreHouse", name := "sweeps", desc := "()I" } : Jvm.MethodName)) ∈ lw_all := lw_all_of (lw_in1 (List.mem_of_getElem? (i := 223) rfl)) rfl
theorem q224 : (Jvm.Cond.instanceMethod ({ cls := "PegshoreHouse", name := "sweeps", desc := "()I" } : Jvm.MethodName)) ∈ lw_all := lw_all_of (lw_in1 (List.mem_of_getElem? (i := 224) rfl)) rfl
theorem q225 : (Jvm.Cond.selects "PegshoreHouse" ({ cls := "PegshoreHouse", name := "sweeps", desc := "()I" } : Jvm.MethodName) ({ cls := "PegshoreHouse", name := "sweeps", desc := "()I" } : Jvm.MethodName)) ∈ lw_all := lw_all_of (lw_in1 (List.mem_of_getElem? (i := 225) rfl)) rfl
theorem q226 : (Jvm.Cond.code ({ cls := "PegshoreHouse", name := "sweeps", desc := "()I" } : Jvm.MethodName) prog_1_method_17_code (5 : Nat) (Option.some Jvm.ClassFile.FieldType.int)) ∈ lw_all := lw_all_of (lw_in1 (List.mem_of_getElem? (i := 226) rfl)) rfl
theorem q227 : (Jvm.Cond.methodLink "PegshoreHouse" (158 : Nat) ({ cls := "PegshoreHouse$Row", name := "at", desc := "(I)I" } : Jvm.MethodName)) ∈ lw_all := lw_all_of (lw_in1 (List.mem_of_getElem? (i := 227) rfl)) rfl
theorem q228 : (Jvm.Cond.methodLink "PegshoreHouseLaw" (178 : Nat) ({ cls := "PegshoreHouse", name := "canEnd", desc := "()Z" } : Jvm.MethodName)) ∈ lw_all := lw_all_of (lw_in1 (List.mem_of_getElem? (i := 228) rfl)) rfl
theorem q229 : (Jvm.Cond.instanceMethod ({ cls := "PegshoreHouse", name := "canEnd", desc := "()Z" } : Jvm.MethodName)) ∈ lw_all := lw_all_of (lw_in1 (List.mem_of_getElem? (i := 229) rfl)) rfl
theorem q230 : (Jvm.Cond.selects "PegshoreHouse" ({ cls := "PegshoreHouse", name := "canEnd", desc := "()Z" } : Jvm.MethodName) ({ cls := "PegshoreHouse", name := "canEnd", desc := "()Z" } : Jvm.MethodName)) ∈ lw_all := lw_all_of (lw_in1 (List.mem_of_getElem? (i := 230) rfl)) rfl
theorem q231 : (Jvm.Cond.code ({ cls := "PegshoreHouse", name := "canEnd", desc := "()Z" } : Jvm.MethodName) prog_1_method_20_code (1 : Nat) (Option.some Jvm.ClassFile.FieldType.boolean)) ∈ lw_all := lw_all_of (lw_in1 (List.mem_of_getElem? (i := 231) rfl)) rfl
theorem q232 : (Jvm.Cond.methodLink "PegshoreHouse" (169 : Nat) ({ cls := "PegshoreHouse$Walk", name := "begin", desc := "(I)V" } : Jvm.MethodName)) ∈ lw_all := lw_all_of (lw_in1 (List.mem_of_getElem? (i := 232) rfl)) rfl
theorem q233 : (Jvm.Cond.instanceMethod ({ cls := "PegshoreHouse$Walk", name := "begin", desc := "(I)V" } : Jvm.MethodName)) ∈ lw_all := lw_all_of (lw_in1 (List.mem_of_getElem? (i := 233) rfl)) rfl
theorem q234 : (Jvm.Cond.selects "PegshoreHouse$Walk" ({ cls := "PegshoreHouse$Walk", name := "begin", desc := "(I)V" } : Jvm.MethodName) ({ cls := "PegshoreHouse$Walk", name := "begin", desc := "(I)V" } : Jvm.MethodName)) ∈ lw_all := lw_all_of (lw_in1 (List.mem_of_getElem? (i := 234) rfl)) rfl
theorem q235 : (Jvm.Cond.code ({ cls := "PegshoreHouse$Walk", name := "begin", desc := "(I)V" } : Jvm.MethodName) prog_4_method_3_code (3 : Nat) (Option.none : Option Jvm.ClassFile.FieldType)) ∈ lw_all := lw_all_of (lw_in1 (List.mem_of_getElem? (i := 235) rfl)) rfl
theorem q236 : (Jvm.Cond.methodLink "PegshoreHouse$Walk" (33 : Nat) ({ cls := "PegshoreHouse$Walk", name := "wipe", desc := "()V" } : Jvm.MethodName)) ∈ lw_all := lw_all_of (lw_in1 (List.mem_of_getElem? (i := 236) rfl)) rfl
theorem q238 : (Jvm.Cond.instanceMethod ({ cls := "PegshoreHouse$Walk", name := "wipe", desc := "()V" } : Jvm.MethodName)) ∈ lw_all := lw_all_of (lw_in1 (List.mem_of_getElem? (i := 238) rfl)) rfl
theorem q239 : (Jvm.Cond.code ({ cls := "PegshoreHouse$Walk", name := "wipe", desc := "()V" } : Jvm.MethodName) prog_4_method_4_code (3 : Nat) (Option.none : Option Jvm.ClassFile.FieldType)) ∈ lw_all := lw_all_of (lw_in1 (List.mem_of_getElem? (i := 239) rfl)) rfl
theorem q240 : (Jvm.Cond.methodLink "PegshoreHouse$Walk" (36 : Nat) ({ cls := "java/lang/Integer", name := "bitCount", desc := "(I)I" } : Jvm.MethodName)) ∈ lw_all := lw_all_of (lw_in2 (List.mem_of_getElem? (i := 0) rfl)) rfl
theorem q241 : (Jvm.Cond.static ({ cls := "java/lang/Integer", name := "bitCount", desc := "(I)I" } : Jvm.MethodName)) ∈ lw_all := lw_all_of (lw_in2 (List.mem_of_getElem? (i := 1) rfl)) rfl
theorem q242 : (Jvm.Cond.code ({ cls := "java/lang/Integer", name := "bitCount", desc := "(I)I" } : Jvm.MethodName) prog_21_method_49_code (1 : Nat) (Option.some Jvm.ClassFile.FieldType.int)) ∈ lw_all := lw_all_of (lw_in2 (List.mem_of_getElem? (i := 2) rfl)) rfl
theorem q243 : (Jvm.Cond.constant "java/lang/Integer" (265 : Nat) (1431655765 : Int32)) ∈ lw_all := lw_all_of (lw_in2 (List.mem_of_getElem? (i := 3) rfl)) rfl
theorem q244 : (Jvm.Cond.constant "java/lang/Integer" (266 : Nat) (858993459 : Int32)) ∈ lw_all := lw_all_of (lw_in2 (List.mem_of_getElem? (i := 4) rfl)) rfl
theorem q245 : (Jvm.Cond.constant "java/lang/Integer" (267 : Nat) (252645135 : Int32)) ∈ lw_all := lw_all_of (lw_in2 (List.mem_of_getElem? (i := 5) rfl)) rfl
theorem q246 : (Jvm.Cond.methodLink "PegshoreHouse$Walk" (45 : Nat) ({ cls := "PegshoreHouse$Walk", name := "find", desc := "(IJ)V" } : Jvm.MethodName)) ∈ lw_all := lw_all_of (lw_in2 (List.mem_of_getElem? (i := 6) rfl)) rfl
theorem q248 : (Jvm.Cond.instanceMethod ({ cls := "PegshoreHouse$Walk", name := "find", desc := "(IJ)V" } : Jvm.MethodName)) ∈ lw_all := lw_all_of (lw_in2 (List.mem_of_getElem? (i := 8) rfl)) rfl
theorem q249 : (Jvm.Cond.code ({ cls := "PegshoreHouse$Walk", name := "find", desc := "(IJ)V" } : Jvm.MethodName) prog_4_method_5_code (4 : Nat) (Option.none : Option Jvm.ClassFile.FieldType)) ∈ lw_all := lw_all_of (lw_in2 (List.mem_of_getElem? (i := 9) rfl)) rfl
theorem q250 : (Jvm.Cond.methodLink "PegshoreHouse$Walk" (52 : Nat) ({ cls := "PegshoreHouse$Walk", name := "visit", desc := "(I)V" } : Jvm.MethodName)) ∈ lw_all := lw_all_of (lw_in2 (List.mem_of_getElem? (i := 10) rfl)) rfl
theorem q252 : (Jvm.Cond.instanceMethod ({ cls := "PegshoreHouse$Walk", name := "visit", desc := "(I)V" } : Jvm.MethodName)) ∈ lw_all := lw_all_of (lw_in2 (List.mem_of_getElem? (i := 12) rfl)) rfl
theorem q253 : (Jvm.Cond.code ({ cls := "PegshoreHouse$Walk", name := "visit", desc := "(I)V" } : Jvm.MethodName) prog_4_method_6_code (5 : Nat) (Option.none : Option Jvm.ClassFile.FieldType)) ∈ lw_all := lw_all_of (lw_in2 (List.mem_of_getElem? (i := 13) rfl)) rfl
theorem q254 : (Jvm.Cond.methodLink "PegshoreHouse$Walk" (65 : Nat) ({ cls := "PegshoreHouse$Board", name := "lineCount", desc := "()I" } : Jvm.MethodName)) ∈ lw_all := lw_all_of (lw_in2 (List.mem_of_getElem? (i := 14) rfl)) rfl
theorem q255 : (Jvm.Cond.methodLink "PegshoreHouse$Walk" (71 : Nat) ({ cls := "PegshoreHouse$Board", name := "behind", desc := "(II)I" } : Jvm.MethodName)) ∈ lw_all := lw_all_of (lw_in2 (List.mem_of_getElem? (i := 15) rfl)) rfl
theorem q256 : (Jvm.Cond.methodLink "PegshoreHouse$Walk" (75 : Nat) ({ cls := "PegshoreHouse$Walk", name := "waysTo", desc := "(I)J" } : Jvm.MethodName)) ∈ lw_all := lw_all_of (lw_in2 (List.mem_of_getElem? (i := 16) rfl)) rfl
theorem q257 : (Jvm.Cond.instanceMethod ({ cls := "PegshoreHouse$Walk", name := "waysTo", desc := "(I)J" } : Jvm.MethodName)) ∈ lw_all := lw_all_of (lw_in2 (List.mem_of_getElem? (i := 17) rfl)) rfl
theorem q258 : (Jvm.Cond.selects "PegshoreHouse$Walk" ({ cls := "PegshoreHouse$Walk", name := "waysTo", desc := "(I)J" } : Jvm.MethodName) ({ cls := "PegshoreHouse$Walk", name := "waysTo", desc := "(I)J" } : Jvm.MethodName)) ∈ lw_all := lw_all_of (lw_in2 (List.mem_of_getElem? (i := 18) rfl)) rfl
theorem q259 : (Jvm.Cond.code ({ cls := "PegshoreHouse$Walk", name := "waysTo", desc := "(I)J" } : Jvm.MethodName) prog_4_method_7_code (2 : Nat) (Option.some Jvm.ClassFile.FieldType.long)) ∈ lw_all := lw_all_of (lw_in2 (List.mem_of_getElem? (i := 19) rfl)) rfl
theorem q260 : (Jvm.Cond.methodLink "PegshoreHouse$Walk" (79 : Nat) ({ cls := "java/lang/Math", name := "min", desc := "(II)I" } : Jvm.MethodName)) ∈ lw_all := lw_all_of (lw_in2 (List.mem_of_getElem? (i := 20) rfl)) rfl
theorem q261 : (Jvm.Cond.static ({ cls := "java/lang/Math", name := "min", desc := "(II)I" } : Jvm.MethodName)) ∈ lw_all := lw_all_of (lw_in2 (List.mem_of_getElem? (i := 21) rfl)) rfl
theorem q262 : (Jvm.Cond.code ({ cls := "java/lang/Math", name := "min", desc := "(II)I" } : Jvm.MethodName) prog_24_method_69_code (2 : Nat) (Option.some Jvm.ClassFile.FieldType.int)) ∈ lw_all := lw_all_of (lw_in2 (List.mem_of_getElem? (i := 22) rfl)) rfl
theorem q263 : (Jvm.Cond.methodLink "PegshoreHouse" (172 : Nat) ({ cls := "PegshoreHouse$Walk", name := "waysTo", desc := "(I)J" } : Jvm.MethodName)) ∈ lw_all := lw_all_of (lw_in2 (List.mem_of_getElem? (i := 23) rfl)) rfl
theorem q264 : (Jvm.Cond.methodLink "PegshoreHouseLaw" (183 : Nat) ({ cls := "PegshoreHouse", name := "ways", desc := "()J" } : Jvm.MethodName)) ∈ lw_all := lw_all_of (lw_in2 (List.mem_of_getElem? (i := 24) rfl)) rfl
theorem q265 : (Jvm.Cond.instanceMethod ({ cls := "PegshoreHouse", name := "ways", desc := "()J" } : Jvm.MethodName)) ∈ lw_all := lw_all_of (lw_in2 (List.mem_of_getElem? (i := 25) rfl)) rfl
theorem q266 : (Jvm.Cond.selects "PegshoreHouse" ({ cls := "PegshoreHouse", name := "ways", desc := "()J" } : Jvm.MethodName) ({ cls := "PegshoreHouse", name := "ways", desc := "()J" } : Jvm.MethodName)) ∈ lw_all := lw_all_of (lw_in2 (List.mem_of_getElem? (i := 26) rfl)) rfl
theorem q267 : (Jvm.Cond.code ({ cls := "PegshoreHouse", name := "ways", desc := "()J" } : Jvm.MethodName) prog_1_method_21_code (1 : Nat) (Option.some Jvm.ClassFile.FieldType.long)) ∈ lw_all := lw_all_of (lw_in2 (List.mem_of_getElem? (i := 27) rfl)) rfl
theorem q268 : (Jvm.Cond.methodLink "PegshoreHouseLaw" (194 : Nat) ({ cls := "PegshoreHouse", name := "reached", desc := "()I" } : Jvm.MethodName)) ∈ lw_all := lw_all_of (lw_in2 (List.mem_of_getElem? (i := 28) rfl)) rfl
theorem q269 : (Jvm.Cond.instanceMethod ({ cls := "PegshoreHouse", name := "reached", desc := "()I" } : Jvm.MethodName)) ∈ lw_all := lw_all_of (lw_in2 (List.mem_of_getElem? (i := 29) rfl)) rfl
theorem q270 : (Jvm.Cond.selects "PegshoreHouse" ({ cls := "PegshoreHouse", name := "reached", desc := "()I" } : Jvm.MethodName) ({ cls := "PegshoreHouse", name := "reached", desc := "()I" } : Jvm.MethodName)) ∈ lw_all := lw_all_of (lw_in2 (List.mem_of_getElem? (i := 30) rfl)) rfl
theorem q271 : (Jvm.Cond.code ({ cls := "PegshoreHouse", name := "reached", desc := "()I" } : Jvm.MethodName) prog_1_method_24_code (1 : Nat) (Option.some Jvm.ClassFile.FieldType.int)) ∈ lw_all := lw_all_of (lw_in2 (List.mem_of_getElem? (i := 31) rfl)) rfl
theorem q272 : (Jvm.Cond.methodLink "PegshoreHouseLaw" (198 : Nat) ({ cls := "PegshoreHouse", name := "dead", desc := "()I" } : Jvm.MethodName)) ∈ lw_all := lw_all_of (lw_in2 (List.mem_of_getElem? (i := 32) rfl)) rfl
theorem q273 : (Jvm.Cond.instanceMethod ({ cls := "PegshoreHouse", name := "dead", desc := "()I" } : Jvm.MethodName)) ∈ lw_all := lw_all_of (lw_in2 (List.mem_of_getElem? (i := 33) rfl)) rfl
theorem q274 : (Jvm.Cond.selects "PegshoreHouse" ({ cls := "PegshoreHouse", name := "dead", desc := "()I" } : Jvm.MethodName) ({ cls := "PegshoreHouse", name := "dead", desc := "()I" } : Jvm.MethodName)) ∈ lw_all := lw_all_of (lw_in2 (List.mem_of_getElem? (i := 34) rfl)) rfl
theorem q275 : (Jvm.Cond.code ({ cls := "PegshoreHouse", name := "dead", desc := "()I" } : Jvm.MethodName) prog_1_method_25_code (1 : Nat) (Option.some Jvm.ClassFile.FieldType.int)) ∈ lw_all := lw_all_of (lw_in2 (List.mem_of_getElem? (i := 35) rfl)) rfl
theorem q276 : (Jvm.Cond.methodLink "PegshoreHouseLaw" (202 : Nat) ({ cls := "PegshoreHouse", name := "fewest", desc := "()I" } : Jvm.MethodName)) ∈ lw_all := lw_all_of (lw_in2 (List.mem_of_getElem? (i := 36) rfl)) rfl
theorem q277 : (Jvm.Cond.instanceMethod ({ cls := "PegshoreHouse", name := "fewest", desc := "()I" } : Jvm.MethodName)) ∈ lw_all := lw_all_of (lw_in2 (List.mem_of_getElem? (i := 37) rfl)) rfl
theorem q278 : (Jvm.Cond.selects "PegshoreHouse" ({ cls := "PegshoreHouse", name := "fewest", desc := "()I" } : Jvm.MethodName) ({ cls := "PegshoreHouse", name := "fewest", desc := "()I" } : Jvm.MethodName)) ∈ lw_all := lw_all_of (lw_in2 (List.mem_of_getElem? (i := 38) rfl)) rfl
theorem q279 : (Jvm.Cond.code ({ cls := "PegshoreHouse", name := "fewest", desc := "()I" } : Jvm.MethodName) prog_1_method_26_code (1 : Nat) (Option.some Jvm.ClassFile.FieldType.int)) ∈ lw_all := lw_all_of (lw_in2 (List.mem_of_getElem? (i := 39) rfl)) rfl
theorem q280 : (Jvm.Cond.methodLink "PegshoreHouseLaw" (218 : Nat) ({ cls := "PegshoreHouse", name := "isProof", desc := "()Z" } : Jvm.MethodName)) ∈ lw_all := lw_all_of (lw_in2 (List.mem_of_getElem? (i := 40) rfl)) rfl
theorem q281 : (Jvm.Cond.instanceMethod ({ cls := "PegshoreHouse", name := "isProof", desc := "()Z" } : Jvm.MethodName)) ∈ lw_all := lw_all_of (lw_in2 (List.mem_of_getElem? (i := 41) rfl)) rfl
theorem q282 : (Jvm.Cond.selects "PegshoreHouse" ({ cls := "PegshoreHouse", name := "isProof", desc := "()Z" } : Jvm.MethodName) ({ cls := "PegshoreHouse", name := "isProof", desc := "()Z" } : Jvm.MethodName)) ∈ lw_all := lw_all_of (lw_in2 (List.mem_of_getElem? (i := 42) rfl)) rfl
theorem q283 : (Jvm.Cond.code ({ cls := "PegshoreHouse", name := "isProof", desc := "()Z" } : Jvm.MethodName) prog_1_method_31_code (1 : Nat) (Option.some Jvm.ClassFile.FieldType.boolean)) ∈ lw_all := lw_all_of (lw_in2 (List.mem_of_getElem? (i := 43) rfl)) rfl
theorem q284 : (Jvm.Cond.methodLink "PegshoreHouse" (219 : Nat) ({ cls := "PegshoreHouse$Board", name := "faultLine", desc := "()I" } : Jvm.MethodName)) ∈ lw_all := lw_all_of (lw_in2 (List.mem_of_getElem? (i := 44) rfl)) rfl
theorem q285 : (Jvm.Cond.instanceMethod ({ cls := "PegshoreHouse$Board", name := "faultLine", desc := "()I" } : Jvm.MethodName)) ∈ lw_all := lw_all_of (lw_in2 (List.mem_of_getElem? (i := 45) rfl)) rfl
theorem q286 : (Jvm.Cond.selects "PegshoreHouse$Board" ({ cls := "PegshoreHouse$Board", name := "faultLine", desc := "()I" } : Jvm.MethodName) ({ cls := "PegshoreHouse$Board", name := "faultLine", desc := "()I" } : Jvm.MethodName)) ∈ lw_all := lw_all_of (lw_in2 (List.mem_of_getElem? (i := 46) rfl)) rfl
theorem q287 : (Jvm.Cond.code ({ cls := "PegshoreHouse$Board", name := "faultLine", desc := "()I" } : Jvm.MethodName) prog_2_method_27_code (6 : Nat) (Option.some Jvm.ClassFile.FieldType.int)) ∈ lw_all := lw_all_of (lw_in2 (List.mem_of_getElem? (i := 47) rfl)) rfl
theorem q288 : (Jvm.Cond.methodLink "PegshoreHouse$Board" (99 : Nat) ({ cls := "PegshoreHouse$Board", name := "weightOf", desc := "(I)I" } : Jvm.MethodName)) ∈ lw_all := lw_all_of (lw_in2 (List.mem_of_getElem? (i := 48) rfl)) rfl
theorem q289 : (Jvm.Cond.instanceMethod ({ cls := "PegshoreHouse$Board", name := "weightOf", desc := "(I)I" } : Jvm.MethodName)) ∈ lw_all := lw_all_of (lw_in2 (List.mem_of_getElem? (i := 49) rfl)) rfl
theorem q290 : (Jvm.Cond.selects "PegshoreHouse$Board" ({ cls := "PegshoreHouse$Board", name := "weightOf", desc := "(I)I" } : Jvm.MethodName) ({ cls := "PegshoreHouse$Board", name := "weightOf", desc := "(I)I" } : Jvm.MethodName)) ∈ lw_all := lw_all_of (lw_in2 (List.mem_of_getElem? (i := 50) rfl)) rfl
theorem q291 : (Jvm.Cond.code ({ cls := "PegshoreHouse$Board", name := "weightOf", desc := "(I)I" } : Jvm.MethodName) prog_2_method_24_code (3 : Nat) (Option.some Jvm.ClassFile.FieldType.int)) ∈ lw_all := lw_all_of (lw_in2 (List.mem_of_getElem? (i := 51) rfl)) rfl
theorem q292 : (Jvm.Cond.methodLink "PegshoreHouseLaw" (225 : Nat) ({ cls := "PegshoreHouse", name := "isBarred", desc := "(Z)Z" } : Jvm.MethodName)) ∈ lw_all := lw_all_of (lw_in2 (List.mem_of_getElem? (i := 52) rfl)) rfl
theorem q293 : (Jvm.Cond.instanceMethod ({ cls := "PegshoreHouse", name := "isBarred", desc := "(Z)Z" } : Jvm.MethodName)) ∈ lw_all := lw_all_of (lw_in2 (List.mem_of_getElem? (i := 53) rfl)) rfl
theorem q294 : (Jvm.Cond.selects "PegshoreHouse" ({ cls := "PegshoreHouse", name := "isBarred", desc := "(Z)Z" } : Jvm.MethodName) ({ cls := "PegshoreHouse", name := "isBarred", desc := "(Z)Z" } : Jvm.MethodName)) ∈ lw_all := lw_all_of (lw_in2 (List.mem_of_getElem? (i := 54) rfl)) rfl
theorem q295 : (Jvm.Cond.code ({ cls := "PegshoreHouse", name := "isBarred", desc := "(Z)Z" } : Jvm.MethodName) prog_1_method_33_code (3 : Nat) (Option.some Jvm.ClassFile.FieldType.boolean)) ∈ lw_all := lw_all_of (lw_in2 (List.mem_of_getElem? (i := 55) rfl)) rfl
theorem q296 : (Jvm.Cond.methodLink "PegshoreHouse" (216 : Nat) ({ cls := "PegshoreHouse$Board", name := "weightOfPegs", desc := "(I)I" } : Jvm.MethodName)) ∈ lw_all := lw_all_of (lw_in2 (List.mem_of_getElem? (i := 56) rfl)) rfl
theorem q297 : (Jvm.Cond.instanceMethod ({ cls := "PegshoreHouse$Board", name := "weightOfPegs", desc := "(I)I" } : Jvm.MethodName)) ∈ lw_all := lw_all_of (lw_in2 (List.mem_of_getElem? (i := 57) rfl)) rfl
theorem q298 : (Jvm.Cond.selects "PegshoreHouse$Board" ({ cls := "PegshoreHouse$Board", name := "weightOfPegs", desc := "(I)I" } : Jvm.MethodName) ({ cls := "PegshoreHouse$Board", name := "weightOfPegs", desc := "(I)I" } : Jvm.MethodName)) ∈ lw_all := lw_all_of (lw_in2 (List.mem_of_getElem? (i := 58) rfl)) rfl
theorem q299 : (Jvm.Cond.code ({ cls := "PegshoreHouse$Board", name := "weightOfPegs", desc := "(I)I" } : Jvm.MethodName) prog_2_method_26_code (4 : Nat) (Option.some Jvm.ClassFile.FieldType.int)) ∈ lw_all := lw_all_of (lw_in2 (List.mem_of_getElem? (i := 59) rfl)) rfl
theorem q300 : (Jvm.Cond.methodLink "PegshoreHouse" (224 : Nat) ({ cls := "PegshoreHouse$Board", name := "isFitColouring", desc := "(I)Z" } : Jvm.MethodName)) ∈ lw_all := lw_all_of (lw_in2 (List.mem_of_getElem? (i := 60) rfl)) rfl
theorem q301 : (Jvm.Cond.instanceMethod ({ cls := "PegshoreHouse$Board", name := "isFitColouring", desc := "(I)Z" } : Jvm.MethodName)) ∈ lw_all := lw_all_of (lw_in2 (List.mem_of_getElem? (i := 61) rfl)) rfl
theorem q302 : (Jvm.Cond.selects "PegshoreHouse$Board" ({ cls := "PegshoreHouse$Board", name := "isFitColouring", desc := "(I)Z" } : Jvm.MethodName) ({ cls := "PegshoreHouse$Board", name := "isFitColouring", desc := "(I)Z" } : Jvm.MethodName)) ∈ lw_all := lw_all_of (lw_in2 (List.mem_of_getElem? (i := 62) rfl)) rfl
theorem q303 : (Jvm.Cond.code ({ cls := "PegshoreHouse$Board", name := "isFitColouring", desc := "(I)Z" } : Jvm.MethodName) prog_2_method_30_code (6 : Nat) (Option.some Jvm.ClassFile.FieldType.boolean)) ∈ lw_all := lw_all_of (lw_in2 (List.mem_of_getElem? (i := 63) rfl)) rfl
theorem q304 : (Jvm.Cond.methodLink "PegshoreHouse$Board" (102 : Nat) ({ cls := "PegshoreHouse$Board", name := "colourOf", desc := "(II)I" } : Jvm.MethodName)) ∈ lw_all := lw_all_of (lw_in2 (List.mem_of_getElem? (i := 64) rfl)) rfl
theorem q305 : (Jvm.Cond.instanceMethod ({ cls := "PegshoreHouse$Board", name := "colourOf", desc := "(II)I" } : Jvm.MethodName)) ∈ lw_all := lw_all_of (lw_in2 (List.mem_of_getElem? (i := 65) rfl)) rfl
theorem q306 : (Jvm.Cond.selects "PegshoreHouse$Board" ({ cls := "PegshoreHouse$Board", name := "colourOf", desc := "(II)I" } : Jvm.MethodName) ({ cls := "PegshoreHouse$Board", name := "colourOf", desc := "(II)I" } : Jvm.MethodName)) ∈ lw_all := lw_all_of (lw_in2 (List.mem_of_getElem? (i := 66) rfl)) rfl
theorem q307 : (Jvm.Cond.code ({ cls := "PegshoreHouse$Board", name := "colourOf", desc := "(II)I" } : Jvm.MethodName) prog_2_method_28_code (5 : Nat) (Option.some Jvm.ClassFile.FieldType.int)) ∈ lw_all := lw_all_of (lw_in2 (List.mem_of_getElem? (i := 67) rfl)) rfl
theorem q308 : (Jvm.Cond.methodLink "PegshoreHouse" (227 : Nat) ({ cls := "PegshoreHouse", name := "isOddApart", desc := "(I)Z" } : Jvm.MethodName)) ∈ lw_all := lw_all_of (lw_in2 (List.mem_of_getElem? (i := 68) rfl)) rfl
theorem q310 : (Jvm.Cond.instanceMethod ({ cls := "PegshoreHouse", name := "isOddApart", desc := "(I)Z" } : Jvm.MethodName)) ∈ lw_all := lw_all_of (lw_in2 (List.mem_of_getElem? (i := 70) rfl)) rfl
theorem q311 : (Jvm.Cond.code ({ cls := "PegshoreHouse", name := "isOddApart", desc := "(I)Z" } : Jvm.MethodName) prog_1_method_55_code (6 : Nat) (Option.some Jvm.ClassFile.FieldType.boolean)) ∈ lw_all := lw_all_of (lw_in2 (List.mem_of_getElem? (i := 71) rfl)) rfl
theorem q312 : (Jvm.Cond.methodLink "PegshoreHouse" (295 : Nat) ({ cls := "PegshoreHouse$Board", name := "countColour", desc := "(III)I" } : Jvm.MethodName)) ∈ lw_all := lw_all_of (lw_in2 (List.mem_of_getElem? (i := 72) rfl)) rfl
theorem q313 : (Jvm.Cond.instanceMethod ({ cls := "PegshoreHouse$Board", name := "countColour", desc := "(III)I" } : Jvm.MethodName)) ∈ lw_all := lw_all_of (lw_in2 (List.mem_of_getElem? (i := 73) rfl)) rfl
theorem q314 : (Jvm.Cond.selects "PegshoreHouse$Board" ({ cls := "PegshoreHouse$Board", name := "countColour", desc := "(III)I" } : Jvm.MethodName) ({ cls := "PegshoreHouse$Board", name := "countColour", desc := "(III)I" } : Jvm.MethodName)) ∈ lw_all := lw_all_of (lw_in2 (List.mem_of_getElem? (i := 74) rfl)) rfl
theorem q315 : (Jvm.Cond.code ({ cls := "PegshoreHouse$Board", name := "countColour", desc := "(III)I" } : Jvm.MethodName) prog_2_method_29_code (6 : Nat) (Option.some Jvm.ClassFile.FieldType.int)) ∈ lw_all := lw_all_of (lw_in2 (List.mem_of_getElem? (i := 75) rfl)) rfl
theorem q316 : (Jvm.Cond.methodLink "PegshoreHouseLaw" (236 : Nat) ({ cls := "PegshoreHouse", name := "value", desc := "()I" } : Jvm.MethodName)) ∈ lw_all := lw_all_of (lw_in2 (List.mem_of_getElem? (i := 76) rfl)) rfl
theorem q317 : (Jvm.Cond.instanceMethod ({ cls := "PegshoreHouse", name := "value", desc := "()I" } : Jvm.MethodName)) ∈ lw_all := lw_all_of (lw_in2 (List.mem_of_getElem? (i := 77) rfl)) rfl
theorem q318 : (Jvm.Cond.selects "PegshoreHouse" ({ cls := "PegshoreHouse", name := "value", desc := "()I" } : Jvm.MethodName) ({ cls := "PegshoreHouse", name := "value", desc := "()I" } : Jvm.MethodName)) ∈ lw_all := lw_all_of (lw_in2 (List.mem_of_getElem? (i := 78) rfl)) rfl
theorem q319 : (Jvm.Cond.code ({ cls := "PegshoreHouse", name := "value", desc := "()I" } : Jvm.MethodName) prog_1_method_36_code (1 : Nat) (Option.some Jvm.ClassFile.FieldType.int)) ∈ lw_all := lw_all_of (lw_in2 (List.mem_of_getElem? (i := 79) rfl)) rfl
theorem q320 : (Jvm.Cond.methodLink "PegshoreHouse" (236 : Nat) ({ cls := "PegshoreHouse$Walk", name := "figureValues", desc := "()V" } : Jvm.MethodName)) ∈ lw_all := lw_all_of (lw_in2 (List.mem_of_getElem? (i := 80) rfl)) rfl
theorem q321 : (Jvm.Cond.instanceMethod ({ cls := "PegshoreHouse$Walk", name := "figureValues", desc := "()V" } : Jvm.MethodName)) ∈ lw_all := lw_all_of (lw_in2 (List.mem_of_getElem? (i := 81) rfl)) rfl
theorem q322 : (Jvm.Cond.selects "PegshoreHouse$Walk" ({ cls := "PegshoreHouse$Walk", name := "figureValues", desc := "()V" } : Jvm.MethodName) ({ cls := "PegshoreHouse$Walk", name := "figureValues", desc := "()V" } : Jvm.MethodName)) ∈ lw_all := lw_all_of (lw_in2 (List.mem_of_getElem? (i := 82) rfl)) rfl
theorem q323 : (Jvm.Cond.code ({ cls := "PegshoreHouse$Walk", name := "figureValues", desc := "()V" } : Jvm.MethodName) prog_4_method_12_code (2 : Nat) (Option.none : Option Jvm.ClassFile.FieldType)) ∈ lw_all := lw_all_of (lw_in2 (List.mem_of_getElem? (i := 83) rfl)) rfl
theorem q324 : (Jvm.Cond.methodLink "PegshoreHouse$Walk" (98 : Nat) ({ cls := "PegshoreHouse$Walk", name := "leastOther", desc := "(I)I" } : Jvm.MethodName)) ∈ lw_all := lw_all_of (lw_in2 (List.mem_of_getElem? (i := 84) rfl)) rfl
theorem q326 : (Jvm.Cond.instanceMethod ({ cls := "PegshoreHouse$Walk", name := "leastOther", desc := "(I)I" } : Jvm.MethodName)) ∈ lw_all := lw_all_of (lw_in2 (List.mem_of_getElem? (i := 86) rfl)) rfl
theorem q327 : (Jvm.Cond.code ({ cls := "PegshoreHouse$Walk", name := "leastOther", desc := "(I)I" } : Jvm.MethodName) prog_4_method_13_code (5 : Nat) (Option.some Jvm.ClassFile.FieldType.int)) ∈ lw_all := lw_all_of (lw_in2 (List.mem_of_getElem? (i := 87) rfl)) rfl
theorem q328 : (Jvm.Cond.methodLink "PegshoreHouse$Walk" (95 : Nat) ({ cls := "PegshoreHouse$Walk", name := "figureAt", desc := "(I)I" } : Jvm.MethodName)) ∈ lw_all := lw_all_of (lw_in2 (List.mem_of_getElem? (i := 88) rfl)) rfl
theorem q329 : (Jvm.Cond.instanceMethod ({ cls := "PegshoreHouse$Walk", name := "figureAt", desc := "(I)I" } : Jvm.MethodName)) ∈ lw_all := lw_all_of (lw_in2 (List.mem_of_getElem? (i := 89) rfl)) rfl
theorem q330 : (Jvm.Cond.selects "PegshoreHouse$Walk" ({ cls := "PegshoreHouse$Walk", name := "figureAt", desc := "(I)I" } : Jvm.MethodName) ({ cls := "PegshoreHouse$Walk", name := "figureAt", desc := "(I)I" } : Jvm.MethodName)) ∈ lw_all := lw_all_of (lw_in2 (List.mem_of_getElem? (i := 90) rfl)) rfl
theorem q331 : (Jvm.Cond.code ({ cls := "PegshoreHouse$Walk", name := "figureAt", desc := "(I)I" } : Jvm.MethodName) prog_4_method_8_code (2 : Nat) (Option.some Jvm.ClassFile.FieldType.int)) ∈ lw_all := lw_all_of (lw_in2 (List.mem_of_getElem? (i := 91) rfl)) rfl
theorem q332 : (Jvm.Cond.methodLink "PegshoreHouse$Walk" (91 : Nat) ({ cls := "PegshoreHouse$Walk", name := "changeFigure", desc := "(II)V" } : Jvm.MethodName)) ∈ lw_all := lw_all_of (lw_in2 (List.mem_of_getElem? (i := 92) rfl)) rfl
theorem q334 : (Jvm.Cond.instanceMethod ({ cls := "PegshoreHouse$Walk", name := "changeFigure", desc := "(II)V" } : Jvm.MethodName)) ∈ lw_all := lw_all_of (lw_in2 (List.mem_of_getElem? (i := 94) rfl)) rfl
theorem q335 : (Jvm.Cond.code ({ cls := "PegshoreHouse$Walk", name := "changeFigure", desc := "(II)V" } : Jvm.MethodName) prog_4_method_9_code (3 : Nat) (Option.none : Option Jvm.ClassFile.FieldType)) ∈ lw_all := lw_all_of (lw_in2 (List.mem_of_getElem? (i := 95) rfl)) rfl
theorem q336 : (Jvm.Cond.methodLink "PegshoreHouse" (184 : Nat) ({ cls := "PegshoreHouse$Walk", name := "figureAt", desc := "(I)I" } : Jvm.MethodName)) ∈ lw_all := lw_all_of (lw_in2 (List.mem_of_getElem? (i := 96) rfl)) rfl
theorem q337 : (Jvm.Cond.methodLink "PegshoreHouseLaw" (252 : Nat) ({ cls := "PegshoreHouse", name := "clear", desc := "()I" } : Jvm.MethodName)) ∈ lw_all := lw_all_of (lw_in2 (List.mem_of_getElem? (i := 97) rfl)) rfl
theorem q338 : (Jvm.Cond.instanceMethod ({ cls := "PegshoreHouse", name := "clear", desc := "()I" } : Jvm.MethodName)) ∈ lw_all := lw_all_of (lw_in2 (List.mem_of_getElem? (i := 98) rfl)) rfl
theorem q339 : (Jvm.Cond.selects "PegshoreHouse" ({ cls := "PegshoreHouse", name := "clear", desc := "()I" } : Jvm.MethodName) ({ cls := "PegshoreHouse", name := "clear", desc := "()I" } : Jvm.MethodName)) ∈ lw_all := lw_all_of (lw_in2 (List.mem_of_getElem? (i := 99) rfl)) rfl
theorem q340 : (Jvm.Cond.code ({ cls := "PegshoreHouse", name := "clear", desc := "()I" } : Jvm.MethodName) prog_1_method_41_code (2 : Nat) (Option.some Jvm.ClassFile.FieldType.int)) ∈ lw_all := lw_all_of (lw_in2 (List.mem_of_getElem? (i := 100) rfl)) rfl
theorem q341 : (Jvm.Cond.methodLink "PegshoreHouse" (113 : Nat) ({ cls := "PegshoreHouse$Row", name := "empty", desc := "()V" } : Jvm.MethodName)) ∈ lw_all := lw_all_of (lw_in2 (List.mem_of_getElem? (i := 101) rfl)) rfl
theorem q342 : (Jvm.Cond.instanceMethod ({ cls := "PegshoreHouse$Row", name := "empty", desc := "()V" } : Jvm.MethodName)) ∈ lw_all := lw_all_of (lw_in2 (List.mem_of_getElem? (i := 102) rfl)) rfl
theorem q343 : (Jvm.Cond.selects "PegshoreHouse$Row" ({ cls := "PegshoreHouse$Row", name := "empty", desc := "()V" } : Jvm.MethodName) ({ cls := "PegshoreHouse$Row", name := "empty", desc := "()V" } : Jvm.MethodName)) ∈ lw_all := lw_all_of (lw_in2 (List.mem_of_getElem? (i := 103) rfl)) rfl
theorem q344 : (Jvm.Cond.code ({ cls := "PegshoreHouse$Row", name := "empty", desc := "()V" } : Jvm.MethodName) prog_3_method_6_code (1 : Nat) (Option.none : Option Jvm.ClassFile.FieldType)) ∈ lw_all := lw_all_of (lw_in2 (List.mem_of_getElem? (i := 104) rfl)) rfl
theorem q345 : (Jvm.Cond.methodLink "PegshoreHouseLaw" (256 : Nat) ({ cls := "PegshoreHouse", name := "checksum", desc := "()J" } : Jvm.MethodName)) ∈ lw_all := lw_all_of (lw_in2 (List.mem_of_getElem? (i := 105) rfl)) rfl
theorem q346 : (Jvm.Cond.instanceMethod ({ cls := "PegshoreHouse", name := "checksum", desc := "()J" } : Jvm.MethodName)) ∈ lw_all := lw_all_of (lw_in2 (List.mem_of_getElem? (i := 106) rfl)) rfl
theorem q347 : (Jvm.Cond.selects "PegshoreHouse" ({ cls := "PegshoreHouse", name := "checksum", desc := "()J" } : Jvm.MethodName) ({ cls := "PegshoreHouse", name := "checksum", desc := "()J" } : Jvm.MethodName)) ∈ lw_all := lw_all_of (lw_in2 (List.mem_of_getElem? (i := 107) rfl)) rfl
theorem q348 : (Jvm.Cond.code ({ cls := "PegshoreHouse", name := "checksum", desc := "()J" } : Jvm.MethodName) prog_1_method_42_code (4 : Nat) (Option.some Jvm.ClassFile.FieldType.long)) ∈ lw_all := lw_all_of (lw_in2 (List.mem_of_getElem? (i := 108) rfl)) rfl
theorem q349 : (Jvm.Cond.constantLong "PegshoreHouse" (253 : Nat) (7 : Int64)) ∈ lw_all := lw_all_of (lw_in2 (List.mem_of_getElem? (i := 109) rfl)) rfl
theorem q350 : (Jvm.Cond.methodLink "PegshoreHouse" (67 : Nat) ({ cls := "PegshoreHouse$Board", name := "holes", desc := "()I" } : Jvm.MethodName)) ∈ lw_all := lw_all_of (lw_in2 (List.mem_of_getElem? (i := 110) rfl)) rfl
theorem q351 : (Jvm.Cond.instanceMethod ({ cls := "PegshoreHouse$Board", name := "holes", desc := "()I" } : Jvm.MethodName)) ∈ lw_all := lw_all_of (lw_in2 (List.mem_of_getElem? (i := 111) rfl)) rfl
theorem q352 : (Jvm.Cond.selects "PegshoreHouse$Board" ({ cls := "PegshoreHouse$Board", name := "holes", desc := "()I" } : Jvm.MethodName) ({ cls := "PegshoreHouse$Board", name := "holes", desc := "()I" } : Jvm.MethodName)) ∈ lw_all := lw_all_of (lw_in2 (List.mem_of_getElem? (i := 112) rfl)) rfl
theorem q353 : (Jvm.Cond.code ({ cls := "PegshoreHouse$Board", name := "holes", desc := "()I" } : Jvm.MethodName) prog_2_method_10_code (1 : Nat) (Option.some Jvm.ClassFile.FieldType.int)) ∈ lw_all := lw_all_of (lw_in2 (List.mem_of_getElem? (i := 113) rfl)) rfl
theorem q354 : (Jvm.Cond.constantLong "PegshoreHouse" (255 : Nat) (31 : Int64)) ∈ lw_all := lw_all_of (lw_in2 (List.mem_of_getElem? (i := 114) rfl)) rfl
theorem q355 : (Jvm.Cond.methodLink "PegshoreHouse" (101 : Nat) ({ cls := "PegshoreHouse$Board", name := "cellOf", desc := "(I)I" } : Jvm.MethodName)) ∈ lw_all := lw_all_of (lw_in2 (List.mem_of_getElem? (i := 115) rfl)) rfl
theorem q356 : (Jvm.Cond.instanceMethod ({ cls := "PegshoreHouse$Board", name := "cellOf", desc := "(I)I" } : Jvm.MethodName)) ∈ lw_all := lw_all_of (lw_in2 (List.mem_of_getElem? (i := 116) rfl)) rfl
theorem q357 : (Jvm.Cond.selects "PegshoreHouse$Board" ({ cls := "PegshoreHouse$Board", name := "cellOf", desc := "(I)I" } : Jvm.MethodName) ({ cls := "PegshoreHouse$Board", name := "cellOf", desc := "(I)I" } : Jvm.MethodName)) ∈ lw_all := lw_all_of (lw_in2 (List.mem_of_getElem? (i := 117) rfl)) rfl
theorem q358 : (Jvm.Cond.code ({ cls := "PegshoreHouse$Board", name := "cellOf", desc := "(I)I" } : Jvm.MethodName) prog_2_method_13_code (2 : Nat) (Option.some Jvm.ClassFile.FieldType.int)) ∈ lw_all := lw_all_of (lw_in2 (List.mem_of_getElem? (i := 118) rfl)) rfl
theorem q359 : (Jvm.Cond.methodLink "PegshoreHouse" (209 : Nat) ({ cls := "PegshoreHouse$Board", name := "weightOf", desc := "(I)I" } : Jvm.MethodName)) ∈ lw_all := lw_all_of (lw_in2 (List.mem_of_getElem? (i := 119) rfl)) rfl
theorem q360 : (Jvm.Cond.methodLink "PegshoreHouseLaw" (263 : Nat) ({ cls := "PegshoreHouse", name := "meanJumps", desc := "()D" } : Jvm.MethodName)) ∈ lw_all := lw_all_of (lw_in2 (List.mem_of_getElem? (i := 120) rfl)) rfl
theorem q361 : (Jvm.Cond.instanceMethod ({ cls := "PegshoreHouse", name := "meanJumps", desc := "()D" } : Jvm.MethodName)) ∈ lw_all := lw_all_of (lw_in2 (List.mem_of_getElem? (i := 121) rfl)) rfl
theorem q362 : (Jvm.Cond.selects "PegshoreHouse" ({ cls := "PegshoreHouse", name := "meanJumps", desc := "()D" } : Jvm.MethodName) ({ cls := "PegshoreHouse", name := "meanJumps", desc := "()D" } : Jvm.MethodName)) ∈ lw_all := lw_all_of (lw_in2 (List.mem_of_getElem? (i := 122) rfl)) rfl
theorem q363 : (Jvm.Cond.code ({ cls := "PegshoreHouse", name := "meanJumps", desc := "()D" } : Jvm.MethodName) prog_1_method_44_code (1 : Nat) (Option.some Jvm.ClassFile.FieldType.double)) ∈ lw_all := lw_all_of (lw_in2 (List.mem_of_getElem? (i := 123) rfl)) rfl
theorem q364 : (Jvm.Cond.methodLink "PegshoreHouseLaw" (268 : Nat) ({ cls := "PegshoreHouse", name := "isSound", desc := "()Z" } : Jvm.MethodName)) ∈ lw_all := lw_all_of (lw_in2 (List.mem_of_getElem? (i := 124) rfl)) rfl
theorem q365 : (Jvm.Cond.instanceMethod ({ cls := "PegshoreHouse", name := "isSound", desc := "()Z" } : Jvm.MethodName)) ∈ lw_all := lw_all_of (lw_in2 (List.mem_of_getElem? (i := 125) rfl)) rfl
theorem q366 : (Jvm.Cond.selects "PegshoreHouse" ({ cls := "PegshoreHouse", name := "isSound", desc := "()Z" } : Jvm.MethodName) ({ cls := "PegshoreHouse", name := "isSound", desc := "()Z" } : Jvm.MethodName)) ∈ lw_all := lw_all_of (lw_in2 (List.mem_of_getElem? (i := 126) rfl)) rfl
theorem q367 : (Jvm.Cond.code ({ cls := "PegshoreHouse", name := "isSound", desc := "()Z" } : Jvm.MethodName) prog_1_method_45_code (1 : Nat) (Option.some Jvm.ClassFile.FieldType.boolean)) ∈ lw_all := lw_all_of (lw_in2 (List.mem_of_getElem? (i := 127) rfl)) rfl
theorem q368 : (Jvm.Cond.methodLink "PegshoreHouse" (269 : Nat) ({ cls := "PegshoreHouse$Board", name := "hasPegs", desc := "(I)Z" } : Jvm.MethodName)) ∈ lw_all := lw_all_of (lw_in2 (List.mem_of_getElem? (i := 128) rfl)) rfl
theorem q369 : (Jvm.Cond.instanceMethod ({ cls := "PegshoreHouse$Board", name := "hasPegs", desc := "(I)Z" } : Jvm.MethodName)) ∈ lw_all := lw_all_of (lw_in2 (List.mem_of_getElem? (i := 129) rfl)) rfl
theorem q370 : (Jvm.Cond.selects "PegshoreHouse$Board" ({ cls := "PegshoreHouse$Board", name := "hasPegs", desc := "(I)Z" } : Jvm.MethodName) ({ cls := "PegshoreHouse$Board", name := "hasPegs", desc := "(I)Z" } : Jvm.MethodName)) ∈ lw_all := lw_all_of (lw_in2 (List.mem_of_getElem? (i := 130) rfl)) rfl
theorem q371 : (Jvm.Cond.code ({ cls := "PegshoreHouse$Board", name := "hasPegs", desc := "(I)Z" } : Jvm.MethodName) prog_2_method_14_code (2 : Nat) (Option.some Jvm.ClassFile.FieldType.boolean)) ∈ lw_all := lw_all_of (lw_in2 (List.mem_of_getElem? (i := 131) rfl)) rfl
theorem q372 : (Jvm.Cond.methodLink "PegshoreHouse" (272 : Nat) ({ cls := "PegshoreHouse", name := "isToldSound", desc := "()Z" } : Jvm.MethodName)) ∈ lw_all := lw_all_of (lw_in2 (List.mem_of_getElem? (i := 132) rfl)) rfl
theorem q374 : (Jvm.Cond.instanceMethod ({ cls := "PegshoreHouse", name := "isToldSound", desc := "()Z" } : Jvm.MethodName)) ∈ lw_all := lw_all_of (lw_in2 (List.mem_of_getElem? (i := 134) rfl)) rfl
theorem q375 : (Jvm.Cond.code ({ cls := "PegshoreHouse", name := "isToldSound", desc := "()Z" } : Jvm.MethodName) prog_1_method_58_code (3 : Nat) (Option.some Jvm.ClassFile.FieldType.boolean)) ∈ lw_all := lw_all_of (lw_in2 (List.mem_of_getElem? (i := 135) rfl)) rfl
theorem q376 : (Jvm.Cond.methodLink "PegshoreHouse" (276 : Nat) ({ cls := "PegshoreHouse", name := "isMadeSound", desc := "()Z" } : Jvm.MethodName)) ∈ lw_all := lw_all_of (lw_in2 (List.mem_of_getElem? (i := 136) rfl)) rfl
theorem q378 : (Jvm.Cond.instanceMethod ({ cls := "PegshoreHouse", name := "isMadeSound", desc := "()Z" } : Jvm.MethodName)) ∈ lw_all := lw_all_of (lw_in2 (List.mem_of_getElem? (i := 138) rfl)) rfl
theorem q379 : (Jvm.Cond.code ({ cls := "PegshoreHouse", name := "isMadeSound", desc := "()Z" } : Jvm.MethodName) prog_1_method_59_code (5 : Nat) (Option.some Jvm.ClassFile.FieldType.boolean)) ∈ lw_all := lw_all_of (lw_in2 (List.mem_of_getElem? (i := 139) rfl)) rfl
theorem q380 : (Jvm.Cond.methodLink "PegshoreHouse" (152 : Nat) ({ cls := "PegshoreHouse$Board", name := "lineOf", desc := "(I)I" } : Jvm.MethodName)) ∈ lw_all := lw_all_of (lw_in2 (List.mem_of_getElem? (i := 140) rfl)) rfl
theorem q381 : (Jvm.Cond.instanceMethod ({ cls := "PegshoreHouse$Board", name := "lineOf", desc := "(I)I" } : Jvm.MethodName)) ∈ lw_all := lw_all_of (lw_in2 (List.mem_of_getElem? (i := 141) rfl)) rfl
theorem q382 : (Jvm.Cond.selects "PegshoreHouse$Board" ({ cls := "PegshoreHouse$Board", name := "lineOf", desc := "(I)I" } : Jvm.MethodName) ({ cls := "PegshoreHouse$Board", name := "lineOf", desc := "(I)I" } : Jvm.MethodName)) ∈ lw_all := lw_all_of (lw_in2 (List.mem_of_getElem? (i := 142) rfl)) rfl
theorem q383 : (Jvm.Cond.code ({ cls := "PegshoreHouse$Board", name := "lineOf", desc := "(I)I" } : Jvm.MethodName) prog_2_method_17_code (3 : Nat) (Option.some Jvm.ClassFile.FieldType.int)) ∈ lw_all := lw_all_of (lw_in2 (List.mem_of_getElem? (i := 143) rfl)) rfl
theorem q384 : (Jvm.Cond.methodLink "PegshoreHouse" (155 : Nat) ({ cls := "PegshoreHouse$Board", name := "ahead", desc := "(II)I" } : Jvm.MethodName)) ∈ lw_all := lw_all_of (lw_in2 (List.mem_of_getElem? (i := 144) rfl)) rfl
theorem q385 : (Jvm.Cond.instanceMethod ({ cls := "PegshoreHouse$Board", name := "ahead", desc := "(II)I" } : Jvm.MethodName)) ∈ lw_all := lw_all_of (lw_in2 (List.mem_of_getElem? (i := 145) rfl)) rfl
theorem q386 : (Jvm.Cond.selects "PegshoreHouse$Board" ({ cls := "PegshoreHouse$Board", name := "ahead", desc := "(II)I" } : Jvm.MethodName) ({ cls := "PegshoreHouse$Board", name := "ahead", desc := "(II)I" } : Jvm.MethodName)) ∈ lw_all := lw_all_of (lw_in2 (List.mem_of_getElem? (i := 146) rfl)) rfl
theorem q387 : (Jvm.Cond.code ({ cls := "PegshoreHouse$Board", name := "ahead", desc := "(II)I" } : Jvm.MethodName) prog_2_method_19_code (4 : Nat) (Option.some Jvm.ClassFile.FieldType.int)) ∈ lw_all := lw_all_of (lw_in2 (List.mem_of_getElem? (i := 147) rfl)) rfl
theorem q388 : (Jvm.Cond.methodLink "PegshoreHouse" (136 : Nat) ({ cls := "PegshoreHouse$Board", name := "behind", desc := "(II)I" } : Jvm.MethodName)) ∈ lw_all := lw_all_of (lw_in2 (List.mem_of_getElem? (i := 148) rfl)) rfl
theorem q389 : (Jvm.Cond.methodLink "PegshoreHouseLaw" (109 : Nat) ({ cls := "PegshoreHouseLaw", name := "setKind", desc := "(LPegshoreHouse;C[J)I" } : Jvm.MethodName)) ∈ lw_all := lw_all_of (lw_in2 (List.mem_of_getElem? (i := 149) rfl)) rfl
theorem q390 : (Jvm.Cond.static ({ cls := "PegshoreHouseLaw", name := "setKind", desc := "(LPegshoreHouse;C[J)I" } : Jvm.MethodName)) ∈ lw_all := lw_all_of (lw_in2 (List.mem_of_getElem? (i := 150) rfl)) rfl
theorem q391 : (Jvm.Cond.codeWith ({ cls := "PegshoreHouseLaw", name := "setKind", desc := "(LPegshoreHouse;C[J)I" } : Jvm.MethodName) method_3_code (4 : Nat) (Option.some Jvm.ClassFile.FieldType.int) [((0 : Nat), (9 : Nat), (12 : Nat), (13 : Nat))]) ∈ lw_all := lw_all_of (lw_in2 (List.mem_of_getElem? (i := 151) rfl)) rfl
theorem q392 : (Jvm.Cond.classLink "PegshoreHouseLaw" (13 : Nat) "java/lang/IllegalArgumentException") ∈ lw_all := lw_all_of (lw_in2 (List.mem_of_getElem? (i := 152) rfl)) rfl
theorem q393 : (Jvm.Cond.methodLink "PegshoreHouseLaw" (7 : Nat) ({ cls := "PegshoreHouse", name := "setKind", desc := "(C)C" } : Jvm.MethodName)) ∈ lw_all := lw_all_of (lw_in2 (List.mem_of_getElem? (i := 153) rfl)) rfl
theorem q394 : (Jvm.Cond.instanceMethod ({ cls := "PegshoreHouse", name := "setKind", desc := "(C)C" } : Jvm.MethodName)) ∈ lw_all := lw_all_of (lw_in2 (List.mem_of_getElem? (i := 154) rfl)) rfl
theorem q395 : (Jvm.Cond.selects "PegshoreHouse" ({ cls := "PegshoreHouse", name := "setKind", desc := "(C)C" } : Jvm.MethodName) ({ cls := "PegshoreHouse", name := "setKind", desc := "(C)C" } : Jvm.MethodName)) ∈ lw_all := lw_all_of (lw_in2 (List.mem_of_getElem? (i := 155) rfl)) rfl
theorem q396 : (Jvm.Cond.code ({ cls := "PegshoreHouse", name := "setKind", desc := "(C)C" } : Jvm.MethodName) prog_1_method_2_code (3 : Nat) (Option.some Jvm.ClassFile.FieldType.char)) ∈ lw_all := lw_all_of (lw_in2 (List.mem_of_getElem? (i := 156) rfl)) rfl
theorem q397 : (Jvm.Cond.classLink "PegshoreHouse" (37 : Nat) "java/lang/IllegalArgumentException") ∈ lw_all := lw_all_of (lw_in2 (List.mem_of_getElem? (i := 157) rfl)) rfl
theorem q398 : (Jvm.Cond.instantiable "java/lang/IllegalArgumentException" (6 : Nat)) ∈ lw_all := lw_all_of (lw_in2 (List.mem_of_getElem? (i := 158) rfl)) rfl
theorem q406 : (Jvm.Cond.selects "java/lang/IllegalArgumentException" ({ cls := "java/lang/Throwable", name := "fillInStackTrace", desc := "(I)Ljava/lang/Throwable;" } : Jvm.MethodName) ({ cls := "java/lang/Throwable", name := "fillInStackTrace", desc := "(I)Ljava/lang/Throwable;" } : Jvm.MethodName)) ∈ lw_all := lw_all_of (lw_in2 (List.mem_of_getElem? (i := 166) rfl)) rfl
theorem q407 : (Jvm.Cond.selects "java/lang/IllegalArgumentException" ({ cls := "java/lang/Throwable", name := "fillInStackTrace", desc := "()Ljava/lang/Throwable;" } : Jvm.MethodName) ({ cls := "java/lang/Throwable", name := "fillInStackTrace", desc := "()Ljava/lang/Throwable;" } : Jvm.MethodName)) ∈ lw_all := lw_all_of (lw_in2 (List.mem_of_getElem? (i := 167) rfl)) rfl
theorem q408 : (Jvm.Cond.lays "java/lang/IllegalArgumentException" "java/lang/Throwable" "cause" "Ljava/lang/Throwable;") ∈ lw_all := lw_all_of (lw_in2 (List.mem_of_getElem? (i := 168) rfl)) rfl
theorem q409 : (Jvm.Cond.lays "java/lang/Throwable" "java/lang/Throwable" "cause" "Ljava/lang/Throwable;") ∈ lw_all := lw_all_of (lw_in2 (List.mem_of_getElem? (i := 169) rfl)) rfl
theorem q410 : (Jvm.Cond.lays "java/lang/IllegalArgumentException" "java/lang/Throwable" "stackTrace" "[Ljava/lang/StackTraceElement;") ∈ lw_all := lw_all_of (lw_in2 (List.mem_of_getElem? (i := 170) rfl)) rfl
theorem q411 : (Jvm.Cond.lays "java/lang/Throwable" "java/lang/Throwable" "stackTrace" "[Ljava/lang/StackTraceElement;") ∈ lw_all := lw_all_of (lw_in2 (List.mem_of_getElem? (i := 171) rfl)) rfl
theorem q412 : (Jvm.Cond.lays "java/lang/IllegalArgumentException" "java/lang/Throwable" "suppressedExceptions" "Ljava/util/List;") ∈ lw_all := lw_all_of (lw_in2 (List.mem_of_getElem? (i := 172) rfl)) rfl
theorem q413 : (Jvm.Cond.lays "java/lang/Throwable" "java/lang/Throwable" "suppressedExceptions" "Ljava/util/List;") ∈ lw_all := lw_all_of (lw_in2 (List.mem_of_getElem? (i := 173) rfl)) rfl
theorem q414 : (Jvm.Cond.lays "java/lang/IllegalArgumentException" "java/lang/Throwable" "detailMessage" "Ljava/lang/String;") ∈ lw_all := lw_all_of (lw_in2 (List.mem_of_getElem? (i := 174) rfl)) rfl
theorem q415 : (Jvm.Cond.lays "java/lang/Throwable" "java/lang/Throwable" "detailMessage" "Ljava/lang/String;") ∈ lw_all := lw_all_of (lw_in2 (List.mem_of_getElem? (i := 175) rfl)) rfl
theorem q416 : (Jvm.Cond.lays "java/lang/IllegalArgumentException" "java/lang/Throwable" "backtrace" "Ljava/lang/Object;") ∈ lw_all := lw_all_of (lw_in2 (List.mem_of_getElem? (i := 176) rfl)) rfl
theorem q417 : (Jvm.Cond.lays "java/lang/Throwable" "java/lang/Throwable" "backtrace" "Ljava/lang/Object;") ∈ lw_all := lw_all_of (lw_in2 (List.mem_of_getElem? (i := 177) rfl)) rfl
theorem q418 : (Jvm.Cond.fieldLink "java/lang/Throwable" (198 : Nat) "java/lang/Throwable" "backtrace" "Ljava/lang/Object;") ∈ lw_all := lw_all_of (lw_in2 (List.mem_of_getElem? (i := 178) rfl)) rfl
theorem q419 : (Jvm.Cond.superclass "java/lang/Throwable" "java/lang/Object") ∈ lw_all := lw_all_of (lw_in2 (List.mem_of_getElem? (i := 179) rfl)) rfl
theorem q420 : (Jvm.Cond.instanceMethod ({ cls := "java/lang/Throwable", name := "<init>", desc := "()V" } : Jvm.MethodName)) ∈ lw_all := lw_all_of (lw_in2 (List.mem_of_getElem? (i := 180) rfl)) rfl
theorem q421 : (Jvm.Cond.code ({ cls := "java/lang/Throwable", name := "<init>", desc := "()V" } : Jvm.MethodName) prog_32_method_1_code (1 : Nat) (Option.none : Option Jvm.ClassFile.FieldType)) ∈ lw_all := lw_all_of (lw_in2 (List.mem_of_getElem? (i := 181) rfl)) rfl
theorem q422 : (Jvm.Cond.methodLink "java/lang/Throwable" (1 : Nat) ({ cls := "java/lang/Object", name := "<init>", desc := "()V" } : Jvm.MethodName)) ∈ lw_all := lw_all_of (lw_in2 (List.mem_of_getElem? (i := 182) rfl)) rfl
theorem q423 : (Jvm.Cond.fieldLink "java/lang/Throwable" (13 : Nat) "java/lang/Throwable" "UNASSIGNED_STACK" "[Ljava/lang/StackTraceElement;") ∈ lw_all := lw_all_of (lw_in2 (List.mem_of_getElem? (i := 183) rfl)) rfl
theorem q425 : (Jvm.Cond.fieldLink "java/lang/Throwable" (20 : Nat) "java/lang/Throwable" "SUPPRESSED_SENTINEL" "Ljava/util/List;") ∈ lw_all := lw_all_of (lw_in2 (List.mem_of_getElem? (i := 185) rfl)) rfl
theorem q427 : (Jvm.Cond.methodLink "java/lang/Throwable" (27 : Nat) ({ cls := "java/lang/Throwable", name := "fillInStackTrace", desc := "()Ljava/lang/Throwable;" } : Jvm.MethodName)) ∈ lw_all := lw_all_of (lw_in2 (List.mem_of_getElem? (i := 187) rfl)) rfl
theorem q428 : (Jvm.Cond.instanceMethod ({ cls := "java/lang/Throwable", name := "fillInStackTrace", desc := "()Ljava/lang/Throwable;" } : Jvm.MethodName)) ∈ lw_all := lw_all_of (lw_in2 (List.mem_of_getElem? (i := 188) rfl)) rfl
theorem q429 : (Jvm.Cond.sameMethod "java/lang/Throwable" "java/lang/Throwable" "fillInStackTrace" "()Ljava/lang/Throwable;") ∈ lw_all := lw_all_of (lw_in2 (List.mem_of_getElem? (i := 189) rfl)) rfl
theorem q430 : (Jvm.Cond.selects "java/lang/ArithmeticException" ({ cls := "java/lang/Throwable", name := "fillInStackTrace", desc := "()Ljava/lang/Throwable;" } : Jvm.MethodName) ({ cls := "java/lang/Throwable", name := "fillInStackTrace", desc := "()Ljava/lang/Throwable;" } : Jvm.MethodName)) ∈ lw_all := lw_all_of (lw_in2 (List.mem_of_getElem? (i := 190) rfl)) rfl
theorem q431 : (Jvm.Cond.selects "java/lang/ArrayIndexOutOfBoundsException" ({ cls := "java/lang/Throwable", name := "fillInStackTrace", desc := "()Ljava/lang/Throwable;" } : Jvm.MethodName) ({ cls := "java/lang/Throwable", name := "fillInStackTrace", desc := "()Ljava/lang/Throwable;" } : Jvm.MethodName)) ∈ lw_all := lw_all_of (lw_in2 (List.mem_of_getElem? (i := 191) rfl)) rfl
theorem q432 : (Jvm.Cond.selects "java/lang/IllegalStateException" ({ cls := "java/lang/Throwable", name := "fillInStackTrace", desc := "()Ljava/lang/Throwable;" } : Jvm.MethodName) ({ cls := "java/lang/Throwable", name := "fillInStackTrace", desc := "()Ljava/lang/Throwable;" } : Jvm.MethodName)) ∈ lw_all := lw_all_of (lw_in2 (List.mem_of_getElem? (i := 192) rfl)) rfl
theorem q433 : (Jvm.Cond.selects "java/lang/IndexOutOfBoundsException" ({ cls := "java/lang/Throwable", name := "fillInStackTrace", desc := "()Ljava/lang/Throwable;" } : Jvm.MethodName) ({ cls := "java/lang/Throwable", name := "fillInStackTrace", desc := "()Ljava/lang/Throwable;" } : Jvm.MethodName)) ∈ lw_all := lw_all_of (lw_in2 (List.mem_of_getElem? (i := 193) rfl)) rfl
theorem q434 : (Jvm.Cond.selects "java/lang/UnsupportedOperationException" ({ cls := "java/lang/Throwable", name := "fillInStackTrace", desc := "()Ljava/lang/Throwable;" } : Jvm.MethodName) ({ cls := "java/lang/Throwable", name := "fillInStackTrace", desc := "()Ljava/lang/Throwable;" } : Jvm.MethodName)) ∈ lw_all := lw_all_of (lw_in2 (List.mem_of_getElem? (i := 194) rfl)) rfl
theorem q435 : (Jvm.Cond.selects "java/util/NoSuchElementException" ({ cls := "java/lang/Throwable", name := "fillInStackTrace", desc := "()Ljava/lang/Throwable;" } : Jvm.MethodName) ({ cls := "java/lang/Throwable", name := "fillInStackTrace", desc := "()Ljava/lang/Throwable;" } : Jvm.MethodName)) ∈ lw_all := lw_all_of (lw_in2 (List.mem_of_getElem? (i := 195) rfl)) rfl
theorem q437 : (Jvm.Cond.methodLink "java/lang/Throwable" (202 : Nat) ({ cls := "java/lang/Throwable", name := "fillInStackTrace", desc := "(I)Ljava/lang/Throwable;" } : Jvm.MethodName)) ∈ lw_all := lw_all_of (lw_in2 (List.mem_of_getElem? (i := 197) rfl)) rfl
theorem q439 : (Jvm.Cond.instanceMethod ({ cls := "java/lang/Throwable", name := "fillInStackTrace", desc := "(I)Ljava/lang/Throwable;" } : Jvm.MethodName)) ∈ lw_all := lw_all_of (lw_in2 (List.mem_of_getElem? (i := 199) rfl)) rfl
theorem q440 : (Jvm.Cond.instantiable "java/lang/Throwable" (6 : Nat)) ∈ lw_all := lw_all_of (lw_in2 (List.mem_of_getElem? (i := 200) rfl)) rfl
theorem q441 : (Jvm.Cond.native ({ cls := "java/lang/Throwable", name := "fillInStackTrace", desc := "(I)Ljava/lang/Throwable;" } : Jvm.MethodName)) ∈ lw_all := lw_all_of (lw_in2 (List.mem_of_getElem? (i := 201) rfl)) rfl
theorem q443 : (Jvm.Cond.methodLink "PegshoreHouse" (41 : Nat) ({ cls := "java/lang/IllegalArgumentException", name := "<init>", desc := "(Ljava/lang/String;)V" } : Jvm.MethodName)) ∈ lw_all := lw_all_of (lw_in2 (List.mem_of_getElem? (i := 203) rfl)) rfl
theorem q444 : (Jvm.Cond.instanceMethod ({ cls := "java/lang/IllegalArgumentException", name := "<init>", desc := "(Ljava/lang/String;)V" } : Jvm.MethodName)) ∈ lw_all := lw_all_of (lw_in2 (List.mem_of_getElem? (i := 204) rfl)) rfl
theorem q445 : (Jvm.Cond.code ({ cls := "java/lang/IllegalArgumentException", name := "<init>", desc := "(Ljava/lang/String;)V" } : Jvm.MethodName) prog_18_method_2_code (2 : Nat) (Option.none : Option Jvm.ClassFile.FieldType)) ∈ lw_all := lw_all_of (lw_in2 (List.mem_of_getElem? (i := 205) rfl)) rfl
theorem q446 : (Jvm.Cond.methodLink "java/lang/IllegalArgumentException" (7 : Nat) ({ cls := "java/lang/RuntimeException", name := "<init>", desc := "(Ljava/lang/String;)V" } : Jvm.MethodName)) ∈ lw_all := lw_all_of (lw_in2 (List.mem_of_getElem? (i := 206) rfl)) rfl
theorem q447 : (Jvm.Cond.instanceMethod ({ cls := "java/lang/RuntimeException", name := "<init>", desc := "(Ljava/lang/String;)V" } : Jvm.MethodName)) ∈ lw_all := lw_all_of (lw_in2 (List.mem_of_getElem? (i := 207) rfl)) rfl
theorem q448 : (Jvm.Cond.code ({ cls := "java/lang/RuntimeException", name := "<init>", desc := "(Ljava/lang/String;)V" } : Jvm.MethodName) prog_26_method_2_code (2 : Nat) (Option.none : Option Jvm.ClassFile.FieldType)) ∈ lw_all := lw_all_of (lw_in2 (List.mem_of_getElem? (i := 208) rfl)) rfl
theorem q449 : (Jvm.Cond.methodLink "java/lang/RuntimeException" (7 : Nat) ({ cls := "java/lang/Exception", name := "<init>", desc := "(Ljava/lang/String;)V" } : Jvm.MethodName)) ∈ lw_all := lw_all_of (lw_in2 (List.mem_of_getElem? (i := 209) rfl)) rfl
theorem q450 : (Jvm.Cond.instanceMethod ({ cls := "java/lang/Exception", name := "<init>", desc := "(Ljava/lang/String;)V" } : Jvm.MethodName)) ∈ lw_all := lw_all_of (lw_in2 (List.mem_of_getElem? (i := 210) rfl)) rfl
theorem q451 : (Jvm.Cond.code ({ cls := "java/lang/Exception", name := "<init>", desc := "(Ljava/lang/String;)V" } : Jvm.MethodName) prog_16_method_2_code (2 : Nat) (Option.none : Option Jvm.ClassFile.FieldType)) ∈ lw_all := lw_all_of (lw_in2 (List.mem_of_getElem? (i := 211) rfl)) rfl
theorem q452 : (Jvm.Cond.methodLink "java/lang/Exception" (7 : Nat) ({ cls := "java/lang/Throwable", name := "<init>", desc := "(Ljava/lang/String;)V" } : Jvm.MethodName)) ∈ lw_all := lw_all_of (lw_in2 (List.mem_of_getElem? (i := 212) rfl)) rfl
theorem q453 : (Jvm.Cond.instanceMethod ({ cls := "java/lang/Throwable", name := "<init>", desc := "(Ljava/lang/String;)V" } : Jvm.MethodName)) ∈ lw_all := lw_all_of (lw_in2 (List.mem_of_getElem? (i := 213) rfl)) rfl
theorem q454 : (Jvm.Cond.code ({ cls := "java/lang/Throwable", name := "<init>", desc := "(Ljava/lang/String;)V" } : Jvm.MethodName) prog_32_method_2_code (2 : Nat) (Option.none : Option Jvm.ClassFile.FieldType)) ∈ lw_all := lw_all_of (lw_in2 (List.mem_of_getElem? (i := 214) rfl)) rfl
theorem q455 : (Jvm.Cond.fieldLink "java/lang/Throwable" (198 : Nat) "java/lang/Throwable" "backtrace" "Ljava/lang/Object;") ∈ lw_all := lw_all_of (lw_in2 (List.mem_of_getElem? (i := 215) rfl)) rfl
theorem q456 : (Jvm.Cond.fieldLink "java/lang/Throwable" (31 : Nat) "java/lang/Throwable" "detailMessage" "Ljava/lang/String;") ∈ lw_all := lw_all_of (lw_in2 (List.mem_of_getElem? (i := 216) rfl)) rfl
theorem q457 : (Jvm.Cond.fieldLink "java/lang/Throwable" (7 : Nat) "java/lang/Throwable" "cause" "Ljava/lang/Throwable;") ∈ lw_all := lw_all_of (lw_in2 (List.mem_of_getElem? (i := 217) rfl)) rfl
theorem q458 : (Jvm.Cond.fieldLink "java/lang/Throwable" (17 : Nat) "java/lang/Throwable" "stackTrace" "[Ljava/lang/StackTraceElement;") ∈ lw_all := lw_all_of (lw_in2 (List.mem_of_getElem? (i := 218) rfl)) rfl
theorem q459 : (Jvm.Cond.fieldLink "java/lang/Throwable" (24 : Nat) "java/lang/Throwable" "suppressedExceptions" "Ljava/util/List;") ∈ lw_all := lw_all_of (lw_in2 (List.mem_of_getElem? (i := 219) rfl)) rfl
theorem q464 : (Jvm.Cond.lays "java/lang/IllegalArgumentException" "java/lang/Throwable" "depth" "I") ∈ lw_all := lw_all_of (lw_in2 (List.mem_of_getElem? (i := 224) rfl)) rfl
theorem q467 : (Jvm.Cond.superclass "java/lang/IllegalArgumentException" "java/lang/RuntimeException") ∈ lw_all := lw_all_of (lw_in2 (List.mem_of_getElem? (i := 227) rfl)) rfl
theorem q468 : (Jvm.Cond.arrayClass Jvm.ClassFile.FieldType.byte) ∈ lw_all := lw_all_of (lw_in2 (List.mem_of_getElem? (i := 228) rfl)) rfl
theorem q469 : (Jvm.Cond.methodLink "PegshoreHouse" (48 : Nat) ({ cls := "PegshoreHouse$Board", name := "changeKind", desc := "(C)V" } : Jvm.MethodName)) ∈ lw_all := lw_all_of (lw_in2 (List.mem_of_getElem? (i := 229) rfl)) rfl
theorem q470 : (Jvm.Cond.instanceMethod ({ cls := "PegshoreHouse$Board", name := "changeKind", desc := "(C)V" } : Jvm.MethodName)) ∈ lw_all := lw_all_of (lw_in2 (List.mem_of_getElem? (i := 230) rfl)) rfl
theorem q471 : (Jvm.Cond.selects "PegshoreHouse$Board" ({ cls := "PegshoreHouse$Board", name := "changeKind", desc := "(C)V" } : Jvm.MethodName) ({ cls := "PegshoreHouse$Board", name := "changeKind", desc := "(C)V" } : Jvm.MethodName)) ∈ lw_all := lw_all_of (lw_in2 (List.mem_of_getElem? (i := 231) rfl)) rfl
theorem q472 : (Jvm.Cond.code ({ cls := "PegshoreHouse$Board", name := "changeKind", desc := "(C)V" } : Jvm.MethodName) prog_2_method_2_code (2 : Nat) (Option.none : Option Jvm.ClassFile.FieldType)) ∈ lw_all := lw_all_of (lw_in2 (List.mem_of_getElem? (i := 232) rfl)) rfl
theorem q473 : (Jvm.Cond.methodLink "PegshoreHouse$Board" (40 : Nat) ({ cls := "PegshoreHouse$Board", name := "layLines", desc := "()V" } : Jvm.MethodName)) ∈ lw_all := lw_all_of (lw_in2 (List.mem_of_getElem? (i := 233) rfl)) rfl
theorem q475 : (Jvm.Cond.instanceMethod ({ cls := "PegshoreHouse$Board", name := "layLines", desc := "()V" } : Jvm.MethodName)) ∈ lw_all := lw_all_of (lw_in2 (List.mem_of_getElem? (i := 235) rfl)) rfl
theorem q476 : (Jvm.Cond.code ({ cls := "PegshoreHouse$Board", name := "layLines", desc := "()V" } : Jvm.MethodName) prog_2_method_6_code (3 : Nat) (Option.none : Option Jvm.ClassFile.FieldType)) ∈ lw_all := lw_all_of (lw_in2 (List.mem_of_getElem? (i := 236) rfl)) rfl
theorem q477 : (Jvm.Cond.methodLink "PegshoreHouse$Board" (50 : Nat) ({ cls := "PegshoreHouse$Row", name := "empty", desc := "()V" } : Jvm.MethodName)) ∈ lw_all := lw_all_of (lw_in2 (List.mem_of_getElem? (i := 237) rfl)) rfl
theorem q478 : (Jvm.Cond.methodLink "PegshoreHouse$Board" (72 : Nat) ({ cls := "PegshoreHouse$Board", name := "addLine", desc := "(II)V" } : Jvm.MethodName)) ∈ lw_all := lw_all_of (lw_in2 (List.mem_of_getElem? (i := 238) rfl)) rfl
theorem q480 : (Jvm.Cond.instanceMethod ({ cls := "PegshoreHouse$Board", name := "addLine", desc := "(II)V" } : Jvm.MethodName)) ∈ lw_all := lw_all_of (lw_in3 (List.mem_of_getElem? (i := 0) rfl)) rfl
theorem q481 : (Jvm.Cond.code ({ cls := "PegshoreHouse$Board", name := "addLine", desc := "(II)V" } : Jvm.MethodName) prog_2_method_7_code (5 : Nat) (Option.none : Option Jvm.ClassFile.FieldType)) ∈ lw_all := lw_all_of (lw_in3 (List.mem_of_getElem? (i := 1) rfl)) rfl
theorem q482 : (Jvm.Cond.methodLink "PegshoreHouse$Board" (76 : Nat) ({ cls := "PegshoreHouse$Board", name := "numberOf", desc := "(I)I" } : Jvm.MethodName)) ∈ lw_all := lw_all_of (lw_in3 (List.mem_of_getElem? (i := 2) rfl)) rfl
theorem q483 : (Jvm.Cond.instanceMethod ({ cls := "PegshoreHouse$Board", name := "numberOf", desc := "(I)I" } : Jvm.MethodName)) ∈ lw_all := lw_all_of (lw_in3 (List.mem_of_getElem? (i := 3) rfl)) rfl
theorem q484 : (Jvm.Cond.selects "PegshoreHouse$Board" ({ cls := "PegshoreHouse$Board", name := "numberOf", desc := "(I)I" } : Jvm.MethodName) ({ cls := "PegshoreHouse$Board", name := "numberOf", desc := "(I)I" } : Jvm.MethodName)) ∈ lw_all := lw_all_of (lw_in3 (List.mem_of_getElem? (i := 4) rfl)) rfl
theorem q485 : (Jvm.Cond.code ({ cls := "PegshoreHouse$Board", name := "numberOf", desc := "(I)I" } : Jvm.MethodName) prog_2_method_12_code (2 : Nat) (Option.some Jvm.ClassFile.FieldType.int)) ∈ lw_all := lw_all_of (lw_in3 (List.mem_of_getElem? (i := 5) rfl)) rfl
theorem q486 : (Jvm.Cond.methodLink "PegshoreHouse$Board" (87 : Nat) ({ cls := "java/lang/Integer", name := "bitCount", desc := "(I)I" } : Jvm.MethodName)) ∈ lw_all := lw_all_of (lw_in3 (List.mem_of_getElem? (i := 6) rfl)) rfl
theorem q487 : (Jvm.Cond.methodLink "PegshoreHouse$Board" (57 : Nat) ({ cls := "PegshoreHouse$Row", name := "add", desc := "(I)V" } : Jvm.MethodName)) ∈ lw_all := lw_all_of (lw_in3 (List.mem_of_getElem? (i := 7) rfl)) rfl
theorem q488 : (Jvm.Cond.instanceMethod ({ cls := "PegshoreHouse$Row", name := "add", desc := "(I)V" } : Jvm.MethodName)) ∈ lw_all := lw_all_of (lw_in3 (List.mem_of_getElem? (i := 8) rfl)) rfl
theorem q489 : (Jvm.Cond.selects "PegshoreHouse$Row" ({ cls := "PegshoreHouse$Row", name := "add", desc := "(I)V" } : Jvm.MethodName) ({ cls := "PegshoreHouse$Row", name := "add", desc := "(I)V" } : Jvm.MethodName)) ∈ lw_all := lw_all_of (lw_in3 (List.mem_of_getElem? (i := 9) rfl)) rfl
theorem q490 : (Jvm.Cond.code ({ cls := "PegshoreHouse$Row", name := "add", desc := "(I)V" } : Jvm.MethodName) prog_3_method_4_code (2 : Nat) (Option.none : Option Jvm.ClassFile.FieldType)) ∈ lw_all := lw_all_of (lw_in3 (List.mem_of_getElem? (i := 10) rfl)) rfl
theorem q491 : (Jvm.Cond.methodLink "PegshoreHouse" (52 : Nat) ({ cls := "PegshoreHouse", name := "forgetAll", desc := "()V" } : Jvm.MethodName)) ∈ lw_all := lw_all_of (lw_in3 (List.mem_of_getElem? (i := 11) rfl)) rfl
theorem q493 : (Jvm.Cond.instanceMethod ({ cls := "PegshoreHouse", name := "forgetAll", desc := "()V" } : Jvm.MethodName)) ∈ lw_all := lw_all_of (lw_in3 (List.mem_of_getElem? (i := 13) rfl)) rfl
theorem q494 : (Jvm.Cond.code ({ cls := "PegshoreHouse", name := "forgetAll", desc := "()V" } : Jvm.MethodName) prog_1_method_53_code (1 : Nat) (Option.none : Option Jvm.ClassFile.FieldType)) ∈ lw_all := lw_all_of (lw_in3 (List.mem_of_getElem? (i := 14) rfl)) rfl
theorem q495 : (Jvm.Cond.methodLink "PegshoreHouse" (292 : Nat) ({ cls := "PegshoreHouse$Walk", name := "forget", desc := "()V" } : Jvm.MethodName)) ∈ lw_all := lw_all_of (lw_in3 (List.mem_of_getElem? (i := 15) rfl)) rfl
theorem q496 : (Jvm.Cond.instanceMethod ({ cls := "PegshoreHouse$Walk", name := "forget", desc := "()V" } : Jvm.MethodName)) ∈ lw_all := lw_all_of (lw_in3 (List.mem_of_getElem? (i := 16) rfl)) rfl
theorem q497 : (Jvm.Cond.selects "PegshoreHouse$Walk" ({ cls := "PegshoreHouse$Walk", name := "forget", desc := "()V" } : Jvm.MethodName) ({ cls := "PegshoreHouse$Walk", name := "forget", desc := "()V" } : Jvm.MethodName)) ∈ lw_all := lw_all_of (lw_in3 (List.mem_of_getElem? (i := 17) rfl)) rfl
theorem q498 : (Jvm.Cond.code ({ cls := "PegshoreHouse$Walk", name := "forget", desc := "()V" } : Jvm.MethodName) prog_4_method_2_code (1 : Nat) (Option.none : Option Jvm.ClassFile.FieldType)) ∈ lw_all := lw_all_of (lw_in3 (List.mem_of_getElem? (i := 18) rfl)) rfl
theorem q499 : (Jvm.Cond.methodLink "PegshoreHouseLaw" (118 : Nat) ({ cls := "PegshoreHouseLaw", name := "drill", desc := "(LPegshoreHouse;I[J)I" } : Jvm.MethodName)) ∈ lw_all := lw_all_of (lw_in3 (List.mem_of_getElem? (i := 19) rfl)) rfl
theorem q500 : (Jvm.Cond.static ({ cls := "PegshoreHouseLaw", name := "drill", desc := "(LPegshoreHouse;I[J)I" } : Jvm.MethodName)) ∈ lw_all := lw_all_of (lw_in3 (List.mem_of_getElem? (i := 20) rfl)) rfl
theorem q501 : (Jvm.Cond.codeWith ({ cls := "PegshoreHouseLaw", name := "drill", desc := "(LPegshoreHouse;I[J)I" } : Jvm.MethodName) method_4_code (4 : Nat) (Option.some Jvm.ClassFile.FieldType.int) [((0 : Nat), (9 : Nat), (12 : Nat), (13 : Nat)), ((0 : Nat), (9 : Nat), (15 : Nat), (19 : Nat)), ((0 : Nat), (9 : Nat), (18 : Nat), (21 : Nat))]) ∈ lw_all := lw_all_of (lw_in3 (List.mem_of_getElem? (i := 21) rfl)) rfl
theorem q502 : (Jvm.Cond.classLink "PegshoreHouseLaw" (19 : Nat) "java/lang/UnsupportedOperationException") ∈ lw_all := lw_all_of (lw_in3 (List.mem_of_getElem? (i := 22) rfl)) rfl
theorem q503 : (Jvm.Cond.classLink "PegshoreHouseLaw" (21 : Nat) "java/lang/IllegalStateException") ∈ lw_all := lw_all_of (lw_in3 (List.mem_of_getElem? (i := 23) rfl)) rfl
theorem q504 : (Jvm.Cond.methodLink "PegshoreHouseLaw" (15 : Nat) ({ cls := "PegshoreHouse", name := "drill", desc := "(I)I" } : Jvm.MethodName)) ∈ lw_all := lw_all_of (lw_in3 (List.mem_of_getElem? (i := 24) rfl)) rfl
theorem q505 : (Jvm.Cond.instanceMethod ({ cls := "PegshoreHouse", name := "drill", desc := "(I)I" } : Jvm.MethodName)) ∈ lw_all := lw_all_of (lw_in3 (List.mem_of_getElem? (i := 25) rfl)) rfl
theorem q506 : (Jvm.Cond.selects "PegshoreHouse" ({ cls := "PegshoreHouse", name := "drill", desc := "(I)I" } : Jvm.MethodName) ({ cls := "PegshoreHouse", name := "drill", desc := "(I)I" } : Jvm.MethodName)) ∈ lw_all := lw_all_of (lw_in3 (List.mem_of_getElem? (i := 26) rfl)) rfl
theorem q507 : (Jvm.Cond.code ({ cls := "PegshoreHouse", name := "drill", desc := "(I)I" } : Jvm.MethodName) prog_1_method_3_code (4 : Nat) (Option.some Jvm.ClassFile.FieldType.int)) ∈ lw_all := lw_all_of (lw_in3 (List.mem_of_getElem? (i := 27) rfl)) rfl
theorem q508 : (Jvm.Cond.methodLink "PegshoreHouse" (55 : Nat) ({ cls := "PegshoreHouse", name := "requireCell", desc := "(I)V" } : Jvm.MethodName)) ∈ lw_all := lw_all_of (lw_in3 (List.mem_of_getElem? (i := 28) rfl)) rfl
theorem q509 : (Jvm.Cond.static ({ cls := "PegshoreHouse", name := "requireCell", desc := "(I)V" } : Jvm.MethodName)) ∈ lw_all := lw_all_of (lw_in3 (List.mem_of_getElem? (i := 29) rfl)) rfl
theorem q510 : (Jvm.Cond.code ({ cls := "PegshoreHouse", name := "requireCell", desc := "(I)V" } : Jvm.MethodName) prog_1_method_46_code (1 : Nat) (Option.none : Option Jvm.ClassFile.FieldType)) ∈ lw_all := lw_all_of (lw_in3 (List.mem_of_getElem? (i := 30) rfl)) rfl
theorem q512 : (Jvm.Cond.methodLink "PegshoreHouse" (58 : Nat) ({ cls := "PegshoreHouse$Board", name := "isHole", desc := "(I)Z" } : Jvm.MethodName)) ∈ lw_all := lw_all_of (lw_in3 (List.mem_of_getElem? (i := 32) rfl)) rfl
theorem q513 : (Jvm.Cond.classLink "PegshoreHouse" (62 : Nat) "java/lang/UnsupportedOperationException") ∈ lw_all := lw_all_of (lw_in3 (List.mem_of_getElem? (i := 33) rfl)) rfl
theorem q514 : (Jvm.Cond.instantiable "java/lang/UnsupportedOperationException" (6 : Nat)) ∈ lw_all := lw_all_of (lw_in3 (List.mem_of_getElem? (i := 34) rfl)) rfl
theorem q516 : (Jvm.Cond.selects "java/lang/UnsupportedOperationException" ({ cls := "java/lang/Throwable", name := "fillInStackTrace", desc := "(I)Ljava/lang/Throwable;" } : Jvm.MethodName) ({ cls := "java/lang/Throwable", name := "fillInStackTrace", desc := "(I)Ljava/lang/Throwable;" } : Jvm.MethodName)) ∈ lw_all := lw_all_of (lw_in3 (List.mem_of_getElem? (i := 36) rfl)) rfl
theorem q517 : (Jvm.Cond.lays "java/lang/UnsupportedOperationException" "java/lang/Throwable" "cause" "Ljava/lang/Throwable;") ∈ lw_all := lw_all_of (lw_in3 (List.mem_of_getElem? (i := 37) rfl)) rfl
theorem q518 : (Jvm.Cond.lays "java/lang/UnsupportedOperationException" "java/lang/Throwable" "stackTrace" "[Ljava/lang/StackTraceElement;") ∈ lw_all := lw_all_of (lw_in3 (List.mem_of_getElem? (i := 38) rfl)) rfl
theorem q519 : (Jvm.Cond.lays "java/lang/UnsupportedOperationException" "java/lang/Throwable" "suppressedExceptions" "Ljava/util/List;") ∈ lw_all := lw_all_of (lw_in3 (List.mem_of_getElem? (i := 39) rfl)) rfl
theorem q520 : (Jvm.Cond.lays "java/lang/UnsupportedOperationException" "java/lang/Throwable" "detailMessage" "Ljava/lang/String;") ∈ lw_all := lw_all_of (lw_in3 (List.mem_of_getElem? (i := 40) rfl)) rfl
theorem q521 : (Jvm.Cond.lays "java/lang/UnsupportedOperationException" "java/lang/Throwable" "backtrace" "Ljava/lang/Object;") ∈ lw_all := lw_all_of (lw_in3 (List.mem_of_getElem? (i := 41) rfl)) rfl
theorem q523 : (Jvm.Cond.methodLink "PegshoreHouse" (66 : Nat) ({ cls := "java/lang/UnsupportedOperationException", name := "<init>", desc := "(Ljava/lang/String;)V" } : Jvm.MethodName)) ∈ lw_all := lw_all_of (lw_in3 (List.mem_of_getElem? (i := 43) rfl)) rfl
theorem q524 : (Jvm.Cond.instanceMethod ({ cls := "java/lang/UnsupportedOperationException", name := "<init>", desc := "(Ljava/lang/String;)V" } : Jvm.MethodName)) ∈ lw_all := lw_all_of (lw_in3 (List.mem_of_getElem? (i := 44) rfl)) rfl
theorem q525 : (Jvm.Cond.code ({ cls := "java/lang/UnsupportedOperationException", name := "<init>", desc := "(Ljava/lang/String;)V" } : Jvm.MethodName) prog_33_method_2_code (2 : Nat) (Option.none : Option Jvm.ClassFile.FieldType)) ∈ lw_all := lw_all_of (lw_in3 (List.mem_of_getElem? (i := 45) rfl)) rfl
theorem q526 : (Jvm.Cond.methodLink "java/lang/UnsupportedOperationException" (7 : Nat) ({ cls := "java/lang/RuntimeException", name := "<init>", desc := "(Ljava/lang/String;)V" } : Jvm.MethodName)) ∈ lw_all := lw_all_of (lw_in3 (List.mem_of_getElem? (i := 46) rfl)) rfl
theorem q527 : (Jvm.Cond.lays "java/lang/UnsupportedOperationException" "java/lang/Throwable" "depth" "I") ∈ lw_all := lw_all_of (lw_in3 (List.mem_of_getElem? (i := 47) rfl)) rfl
theorem q528 : (Jvm.Cond.superclass "java/lang/UnsupportedOperationException" "java/lang/RuntimeException") ∈ lw_all := lw_all_of (lw_in3 (List.mem_of_getElem? (i := 48) rfl)) rfl
theorem q529 : (Jvm.Cond.classLink "PegshoreHouse" (71 : Nat) "java/lang/IllegalStateException") ∈ lw_all := lw_all_of (lw_in3 (List.mem_of_getElem? (i := 49) rfl)) rfl
theorem q530 : (Jvm.Cond.instantiable "java/lang/IllegalStateException" (6 : Nat)) ∈ lw_all := lw_all_of (lw_in3 (List.mem_of_getElem? (i := 50) rfl)) rfl
theorem q532 : (Jvm.Cond.selects "java/lang/IllegalStateException" ({ cls := "java/lang/Throwable", name := "fillInStackTrace", desc := "(I)Ljava/lang/Throwable;" } : Jvm.MethodName) ({ cls := "java/lang/Throwable", name := "fillInStackTrace", desc := "(I)Ljava/lang/Throwable;" } : Jvm.MethodName)) ∈ lw_all := lw_all_of (lw_in3 (List.mem_of_getElem? (i := 52) rfl)) rfl
theorem q533 : (Jvm.Cond.lays "java/lang/IllegalStateException" "java/lang/Throwable" "cause" "Ljava/lang/Throwable;") ∈ lw_all := lw_all_of (lw_in3 (List.mem_of_getElem? (i := 53) rfl)) rfl
theorem q534 : (Jvm.Cond.lays "java/lang/IllegalStateException" "java/lang/Throwable" "stackTrace" "[Ljava/lang/StackTraceElement;") ∈ lw_all := lw_all_of (lw_in3 (List.mem_of_getElem? (i := 54) rfl)) rfl
theorem q535 : (Jvm.Cond.lays "java/lang/IllegalStateException" "java/lang/Throwable" "suppressedExceptions" "Ljava/util/List;") ∈ lw_all := lw_all_of (lw_in3 (List.mem_of_getElem? (i := 55) rfl)) rfl
theorem q536 : (Jvm.Cond.lays "java/lang/IllegalStateException" "java/lang/Throwable" "detailMessage" "Ljava/lang/String;") ∈ lw_all := lw_all_of (lw_in3 (List.mem_of_getElem? (i := 56) rfl)) rfl
theorem q537 : (Jvm.Cond.lays "java/lang/IllegalStateException" "java/lang/Throwable" "backtrace" "Ljava/lang/Object;") ∈ lw_all := lw_all_of (lw_in3 (List.mem_of_getElem? (i := 57) rfl)) rfl
theorem q539 : (Jvm.Cond.methodLink "PegshoreHouse" (75 : Nat) ({ cls := "java/lang/IllegalStateException", name := "<init>", desc := "(Ljava/lang/String;)V" } : Jvm.MethodName)) ∈ lw_all := lw_all_of (lw_in3 (List.mem_of_getElem? (i := 59) rfl)) rfl
theorem q540 : (Jvm.Cond.instanceMethod ({ cls := "java/lang/IllegalStateException", name := "<init>", desc := "(Ljava/lang/String;)V" } : Jvm.MethodName)) ∈ lw_all := lw_all_of (lw_in3 (List.mem_of_getElem? (i := 60) rfl)) rfl
theorem q541 : (Jvm.Cond.code ({ cls := "java/lang/IllegalStateException", name := "<init>", desc := "(Ljava/lang/String;)V" } : Jvm.MethodName) prog_19_method_2_code (2 : Nat) (Option.none : Option Jvm.ClassFile.FieldType)) ∈ lw_all := lw_all_of (lw_in3 (List.mem_of_getElem? (i := 61) rfl)) rfl
theorem q542 : (Jvm.Cond.methodLink "java/lang/IllegalStateException" (7 : Nat) ({ cls := "java/lang/RuntimeException", name := "<init>", desc := "(Ljava/lang/String;)V" } : Jvm.MethodName)) ∈ lw_all := lw_all_of (lw_in3 (List.mem_of_getElem? (i := 62) rfl)) rfl
theorem q543 : (Jvm.Cond.lays "java/lang/IllegalStateException" "java/lang/Throwable" "depth" "I") ∈ lw_all := lw_all_of (lw_in3 (List.mem_of_getElem? (i := 63) rfl)) rfl
theorem q544 : (Jvm.Cond.superclass "java/lang/IllegalStateException" "java/lang/RuntimeException") ∈ lw_all := lw_all_of (lw_in3 (List.mem_of_getElem? (i := 64) rfl)) rfl
theorem q545 : (Jvm.Cond.methodLink "PegshoreHouse" (76 : Nat) ({ cls := "PegshoreHouse$Board", name := "open", desc := "(I)V" } : Jvm.MethodName)) ∈ lw_all := lw_all_of (lw_in3 (List.mem_of_getElem? (i := 65) rfl)) rfl
theorem q546 : (Jvm.Cond.instanceMethod ({ cls := "PegshoreHouse$Board", name := "open", desc := "(I)V" } : Jvm.MethodName)) ∈ lw_all := lw_all_of (lw_in3 (List.mem_of_getElem? (i := 66) rfl)) rfl
theorem q547 : (Jvm.Cond.selects "PegshoreHouse$Board" ({ cls := "PegshoreHouse$Board", name := "open", desc := "(I)V" } : Jvm.MethodName) ({ cls := "PegshoreHouse$Board", name := "open", desc := "(I)V" } : Jvm.MethodName)) ∈ lw_all := lw_all_of (lw_in3 (List.mem_of_getElem? (i := 67) rfl)) rfl
theorem q548 : (Jvm.Cond.code ({ cls := "PegshoreHouse$Board", name := "open", desc := "(I)V" } : Jvm.MethodName) prog_2_method_3_code (2 : Nat) (Option.none : Option Jvm.ClassFile.FieldType)) ∈ lw_all := lw_all_of (lw_in3 (List.mem_of_getElem? (i := 68) rfl)) rfl
theorem q549 : (Jvm.Cond.methodLink "PegshoreHouse$Board" (47 : Nat) ({ cls := "PegshoreHouse$Board", name := "layHoles", desc := "()V" } : Jvm.MethodName)) ∈ lw_all := lw_all_of (lw_in3 (List.mem_of_getElem? (i := 69) rfl)) rfl
theorem q551 : (Jvm.Cond.instanceMethod ({ cls := "PegshoreHouse$Board", name := "layHoles", desc := "()V" } : Jvm.MethodName)) ∈ lw_all := lw_all_of (lw_in3 (List.mem_of_getElem? (i := 71) rfl)) rfl
theorem q552 : (Jvm.Cond.code ({ cls := "PegshoreHouse$Board", name := "layHoles", desc := "()V" } : Jvm.MethodName) prog_2_method_5_code (2 : Nat) (Option.none : Option Jvm.ClassFile.FieldType)) ∈ lw_all := lw_all_of (lw_in3 (List.mem_of_getElem? (i := 72) rfl)) rfl
theorem q553 : (Jvm.Cond.methodLink "PegshoreHouse" (79 : Nat) ({ cls := "PegshoreHouse$Board", name := "numberOf", desc := "(I)I" } : Jvm.MethodName)) ∈ lw_all := lw_all_of (lw_in3 (List.mem_of_getElem? (i := 73) rfl)) rfl
theorem q554 : (Jvm.Cond.methodLink "PegshoreHouseLaw" (122 : Nat) ({ cls := "PegshoreHouseLaw", name := "fill", desc := "(LPegshoreHouse;I[J)I" } : Jvm.MethodName)) ∈ lw_all := lw_all_of (lw_in3 (List.mem_of_getElem? (i := 74) rfl)) rfl
theorem q555 : (Jvm.Cond.static ({ cls := "PegshoreHouseLaw", name := "fill", desc := "(LPegshoreHouse;I[J)I" } : Jvm.MethodName)) ∈ lw_all := lw_all_of (lw_in3 (List.mem_of_getElem? (i := 75) rfl)) rfl
theorem q556 : (Jvm.Cond.codeWith ({ cls := "PegshoreHouseLaw", name := "fill", desc := "(LPegshoreHouse;I[J)I" } : Jvm.MethodName) method_5_code (4 : Nat) (Option.some Jvm.ClassFile.FieldType.int) [((0 : Nat), (9 : Nat), (12 : Nat), (13 : Nat)), ((0 : Nat), (9 : Nat), (15 : Nat), (19 : Nat))]) ∈ lw_all := lw_all_of (lw_in3 (List.mem_of_getElem? (i := 76) rfl)) rfl
theorem q557 : (Jvm.Cond.methodLink "PegshoreHouseLaw" (23 : Nat) ({ cls := "PegshoreHouse", name := "fill", desc := "(I)I" } : Jvm.MethodName)) ∈ lw_all := lw_all_of (lw_in3 (List.mem_of_getElem? (i := 77) rfl)) rfl
theorem q558 : (Jvm.Cond.instanceMethod ({ cls := "PegshoreHouse", name := "fill", desc := "(I)I" } : Jvm.MethodName)) ∈ lw_all := lw_all_of (lw_in3 (List.mem_of_getElem? (i := 78) rfl)) rfl
theorem q559 : (Jvm.Cond.selects "PegshoreHouse" ({ cls := "PegshoreHouse", name := "fill", desc := "(I)I" } : Jvm.MethodName) ({ cls := "PegshoreHouse", name := "fill", desc := "(I)I" } : Jvm.MethodName)) ∈ lw_all := lw_all_of (lw_in3 (List.mem_of_getElem? (i := 79) rfl)) rfl
theorem q560 : (Jvm.Cond.code ({ cls := "PegshoreHouse", name := "fill", desc := "(I)I" } : Jvm.MethodName) prog_1_method_4_code (4 : Nat) (Option.some Jvm.ClassFile.FieldType.int)) ∈ lw_all := lw_all_of (lw_in3 (List.mem_of_getElem? (i := 80) rfl)) rfl
theorem q562 : (Jvm.Cond.methodLink "PegshoreHouse" (92 : Nat) ({ cls := "PegshoreHouse$Board", name := "close", desc := "(I)V" } : Jvm.MethodName)) ∈ lw_all := lw_all_of (lw_in3 (List.mem_of_getElem? (i := 82) rfl)) rfl
theorem q563 : (Jvm.Cond.instanceMethod ({ cls := "PegshoreHouse$Board", name := "close", desc := "(I)V" } : Jvm.MethodName)) ∈ lw_all := lw_all_of (lw_in3 (List.mem_of_getElem? (i := 83) rfl)) rfl
theorem q564 : (Jvm.Cond.selects "PegshoreHouse$Board" ({ cls := "PegshoreHouse$Board", name := "close", desc := "(I)V" } : Jvm.MethodName) ({ cls := "PegshoreHouse$Board", name := "close", desc := "(I)V" } : Jvm.MethodName)) ∈ lw_all := lw_all_of (lw_in3 (List.mem_of_getElem? (i := 84) rfl)) rfl
theorem q565 : (Jvm.Cond.code ({ cls := "PegshoreHouse$Board", name := "close", desc := "(I)V" } : Jvm.MethodName) prog_2_method_4_code (2 : Nat) (Option.none : Option Jvm.ClassFile.FieldType)) ∈ lw_all := lw_all_of (lw_in3 (List.mem_of_getElem? (i := 85) rfl)) rfl
theorem q566 : (Jvm.Cond.methodLink "PegshoreHouseLaw" (125 : Nat) ({ cls := "PegshoreHouseLaw", name := "hole", desc := "(LPegshoreHouse;I[J)I" } : Jvm.MethodName)) ∈ lw_all := lw_all_of (lw_in3 (List.mem_of_getElem? (i := 86) rfl)) rfl
theorem q567 : (Jvm.Cond.static ({ cls := "PegshoreHouseLaw", name := "hole", desc := "(LPegshoreHouse;I[J)I" } : Jvm.MethodName)) ∈ lw_all := lw_all_of (lw_in3 (List.mem_of_getElem? (i := 87) rfl)) rfl
theorem q568 : (Jvm.Cond.codeWith ({ cls := "PegshoreHouseLaw", name := "hole", desc := "(LPegshoreHouse;I[J)I" } : Jvm.MethodName) method_6_code (4 : Nat) (Option.some Jvm.ClassFile.FieldType.int) [((0 : Nat), (9 : Nat), (12 : Nat), (13 : Nat)), ((0 : Nat), (9 : Nat), (15 : Nat), (29 : Nat))]) ∈ lw_all := lw_all_of (lw_in3 (List.mem_of_getElem? (i := 88) rfl)) rfl
theorem q569 : (Jvm.Cond.classLink "PegshoreHouseLaw" (29 : Nat) "java/util/NoSuchElementException") ∈ lw_all := lw_all_of (lw_in3 (List.mem_of_getElem? (i := 89) rfl)) rfl
theorem q570 : (Jvm.Cond.methodLink "PegshoreHouseLaw" (26 : Nat) ({ cls := "PegshoreHouse", name := "hole", desc := "(I)I" } : Jvm.MethodName)) ∈ lw_all := lw_all_of (lw_in3 (List.mem_of_getElem? (i := 90) rfl)) rfl
theorem q571 : (Jvm.Cond.instanceMethod ({ cls := "PegshoreHouse", name := "hole", desc := "(I)I" } : Jvm.MethodName)) ∈ lw_all := lw_all_of (lw_in3 (List.mem_of_getElem? (i := 91) rfl)) rfl
theorem q572 : (Jvm.Cond.selects "PegshoreHouse" ({ cls := "PegshoreHouse", name := "hole", desc := "(I)I" } : Jvm.MethodName) ({ cls := "PegshoreHouse", name := "hole", desc := "(I)I" } : Jvm.MethodName)) ∈ lw_all := lw_all_of (lw_in3 (List.mem_of_getElem? (i := 92) rfl)) rfl
theorem q573 : (Jvm.Cond.code ({ cls := "PegshoreHouse", name := "hole", desc := "(I)I" } : Jvm.MethodName) prog_1_method_5_code (2 : Nat) (Option.some Jvm.ClassFile.FieldType.int)) ∈ lw_all := lw_all_of (lw_in3 (List.mem_of_getElem? (i := 93) rfl)) rfl
theorem q574 : (Jvm.Cond.classLink "PegshoreHouse" (95 : Nat) "java/util/NoSuchElementException") ∈ lw_all := lw_all_of (lw_in3 (List.mem_of_getElem? (i := 94) rfl)) rfl
theorem q575 : (Jvm.Cond.instantiable "java/util/NoSuchElementException" (6 : Nat)) ∈ lw_all := lw_all_of (lw_in3 (List.mem_of_getElem? (i := 95) rfl)) rfl
theorem q577 : (Jvm.Cond.selects "java/util/NoSuchElementException" ({ cls := "java/lang/Throwable", name := "fillInStackTrace", desc := "(I)Ljava/lang/Throwable;" } : Jvm.MethodName) ({ cls := "java/lang/Throwable", name := "fillInStackTrace", desc := "(I)Ljava/lang/Throwable;" } : Jvm.MethodName)) ∈ lw_all := lw_all_of (lw_in3 (List.mem_of_getElem? (i := 97) rfl)) rfl
theorem q578 : (Jvm.Cond.lays "java/util/NoSuchElementException" "java/lang/Throwable" "cause" "Ljava/lang/Throwable;") ∈ lw_all := lw_all_of (lw_in3 (List.mem_of_getElem? (i := 98) rfl)) rfl
theorem q579 : (Jvm.Cond.lays "java/util/NoSuchElementException" "java/lang/Throwable" "stackTrace" "[Ljava/lang/StackTraceElement;") ∈ lw_all := lw_all_of (lw_in3 (List.mem_of_getElem? (i := 99) rfl)) rfl
theorem q580 : (Jvm.Cond.lays "java/util/NoSuchElementException" "java/lang/Throwable" "suppressedExceptions" "Ljava/util/List;") ∈ lw_all := lw_all_of (lw_in3 (List.mem_of_getElem? (i := 100) rfl)) rfl
theorem q581 : (Jvm.Cond.lays "java/util/NoSuchElementException" "java/lang/Throwable" "detailMessage" "Ljava/lang/String;") ∈ lw_all := lw_all_of (lw_in3 (List.mem_of_getElem? (i := 101) rfl)) rfl
theorem q582 : (Jvm.Cond.lays "java/util/NoSuchElementException" "java/lang/Throwable" "backtrace" "Ljava/lang/Object;") ∈ lw_all := lw_all_of (lw_in3 (List.mem_of_getElem? (i := 102) rfl)) rfl
theorem q583 : (Jvm.Cond.methodLink "PegshoreHouse" (97 : Nat) ({ cls := "java/util/NoSuchElementException", name := "<init>", desc := "(Ljava/lang/String;)V" } : Jvm.MethodName)) ∈ lw_all := lw_all_of (lw_in3 (List.mem_of_getElem? (i := 103) rfl)) rfl
theorem q584 : (Jvm.Cond.instanceMethod ({ cls := "java/util/NoSuchElementException", name := "<init>", desc := "(Ljava/lang/String;)V" } : Jvm.MethodName)) ∈ lw_all := lw_all_of (lw_in3 (List.mem_of_getElem? (i := 104) rfl)) rfl
theorem q585 : (Jvm.Cond.code ({ cls := "java/util/NoSuchElementException", name := "<init>", desc := "(Ljava/lang/String;)V" } : Jvm.MethodName) prog_44_method_4_code (2 : Nat) (Option.none : Option Jvm.ClassFile.FieldType)) ∈ lw_all := lw_all_of (lw_in3 (List.mem_of_getElem? (i := 105) rfl)) rfl
theorem q586 : (Jvm.Cond.methodLink "java/util/NoSuchElementException" (13 : Nat) ({ cls := "java/lang/RuntimeException", name := "<init>", desc := "(Ljava/lang/String;)V" } : Jvm.MethodName)) ∈ lw_all := lw_all_of (lw_in3 (List.mem_of_getElem? (i := 106) rfl)) rfl
theorem q587 : (Jvm.Cond.lays "java/util/NoSuchElementException" "java/lang/Throwable" "depth" "I") ∈ lw_all := lw_all_of (lw_in3 (List.mem_of_getElem? (i := 107) rfl)) rfl
theorem q588 : (Jvm.Cond.superclass "java/util/NoSuchElementException" "java/lang/RuntimeException") ∈ lw_all := lw_all_of (lw_in3 (List.mem_of_getElem? (i := 108) rfl)) rfl
theorem q589 : (Jvm.Cond.methodLink "PegshoreHouseLaw" (128 : Nat) ({ cls := "PegshoreHouseLaw", name := "cell", desc := "(LPegshoreHouse;I[J)I" } : Jvm.MethodName)) ∈ lw_all := lw_all_of (lw_in3 (List.mem_of_getElem? (i := 109) rfl)) rfl
theorem q590 : (Jvm.Cond.static ({ cls := "PegshoreHouseLaw", name := "cell", desc := "(LPegshoreHouse;I[J)I" } : Jvm.MethodName)) ∈ lw_all := lw_all_of (lw_in3 (List.mem_of_getElem? (i := 110) rfl)) rfl
theorem q591 : (Jvm.Cond.codeWith ({ cls := "PegshoreHouseLaw", name := "cell", desc := "(LPegshoreHouse;I[J)I" } : Jvm.MethodName) method_7_code (4 : Nat) (Option.some Jvm.ClassFile.FieldType.int) [((0 : Nat), (9 : Nat), (12 : Nat), (34 : Nat))]) ∈ lw_all := lw_all_of (lw_in3 (List.mem_of_getElem? (i := 111) rfl)) rfl
theorem q592 : (Jvm.Cond.classLink "PegshoreHouseLaw" (34 : Nat) "java/lang/IndexOutOfBoundsException") ∈ lw_all := lw_all_of (lw_in3 (List.mem_of_getElem? (i := 112) rfl)) rfl
theorem q593 : (Jvm.Cond.instantiable "java/lang/ArrayIndexOutOfBoundsException" (6 : Nat)) ∈ lw_all := lw_all_of (lw_in3 (List.mem_of_getElem? (i := 113) rfl)) rfl
theorem q594 : (Jvm.Cond.instanceMethod ({ cls := "java/lang/ArrayIndexOutOfBoundsException", name := "<init>", desc := "(Ljava/lang/String;)V" } : Jvm.MethodName)) ∈ lw_all := lw_all_of (lw_in3 (List.mem_of_getElem? (i := 114) rfl)) rfl
theorem q595 : (Jvm.Cond.code ({ cls := "java/lang/ArrayIndexOutOfBoundsException", name := "<init>", desc := "(Ljava/lang/String;)V" } : Jvm.MethodName) prog_11_method_2_code (2 : Nat) (Option.none : Option Jvm.ClassFile.FieldType)) ∈ lw_all := lw_all_of (lw_in3 (List.mem_of_getElem? (i := 115) rfl)) rfl
theorem q596 : (Jvm.Cond.methodLink "java/lang/ArrayIndexOutOfBoundsException" (7 : Nat) ({ cls := "java/lang/IndexOutOfBoundsException", name := "<init>", desc := "(Ljava/lang/String;)V" } : Jvm.MethodName)) ∈ lw_all := lw_all_of (lw_in3 (List.mem_of_getElem? (i := 116) rfl)) rfl
theorem q597 : (Jvm.Cond.instanceMethod ({ cls := "java/lang/IndexOutOfBoundsException", name := "<init>", desc := "(Ljava/lang/String;)V" } : Jvm.MethodName)) ∈ lw_all := lw_all_of (lw_in3 (List.mem_of_getElem? (i := 117) rfl)) rfl
theorem q598 : (Jvm.Cond.code ({ cls := "java/lang/IndexOutOfBoundsException", name := "<init>", desc := "(Ljava/lang/String;)V" } : Jvm.MethodName) prog_20_method_2_code (2 : Nat) (Option.none : Option Jvm.ClassFile.FieldType)) ∈ lw_all := lw_all_of (lw_in3 (List.mem_of_getElem? (i := 118) rfl)) rfl
theorem q599 : (Jvm.Cond.methodLink "java/lang/IndexOutOfBoundsException" (7 : Nat) ({ cls := "java/lang/RuntimeException", name := "<init>", desc := "(Ljava/lang/String;)V" } : Jvm.MethodName)) ∈ lw_all := lw_all_of (lw_in3 (List.mem_of_getElem? (i := 119) rfl)) rfl
theorem q600 : (Jvm.Cond.lays "java/lang/ArrayIndexOutOfBoundsException" "java/lang/Throwable" "backtrace" "Ljava/lang/Object;") ∈ lw_all := lw_all_of (lw_in3 (List.mem_of_getElem? (i := 120) rfl)) rfl
theorem q601 : (Jvm.Cond.lays "java/lang/ArrayIndexOutOfBoundsException" "java/lang/Throwable" "detailMessage" "Ljava/lang/String;") ∈ lw_all := lw_all_of (lw_in3 (List.mem_of_getElem? (i := 121) rfl)) rfl
theorem q602 : (Jvm.Cond.lays "java/lang/ArrayIndexOutOfBoundsException" "java/lang/Throwable" "cause" "Ljava/lang/Throwable;") ∈ lw_all := lw_all_of (lw_in3 (List.mem_of_getElem? (i := 122) rfl)) rfl
theorem q603 : (Jvm.Cond.lays "java/lang/ArrayIndexOutOfBoundsException" "java/lang/Throwable" "stackTrace" "[Ljava/lang/StackTraceElement;") ∈ lw_all := lw_all_of (lw_in3 (List.mem_of_getElem? (i := 123) rfl)) rfl
theorem q604 : (Jvm.Cond.lays "java/lang/ArrayIndexOutOfBoundsException" "java/lang/Throwable" "depth" "I") ∈ lw_all := lw_all_of (lw_in3 (List.mem_of_getElem? (i := 124) rfl)) rfl
theorem q605 : (Jvm.Cond.lays "java/lang/ArrayIndexOutOfBoundsException" "java/lang/Throwable" "suppressedExceptions" "Ljava/util/List;") ∈ lw_all := lw_all_of (lw_in3 (List.mem_of_getElem? (i := 125) rfl)) rfl
theorem q606 : (Jvm.Cond.superclass "java/lang/ArrayIndexOutOfBoundsException" "java/lang/IndexOutOfBoundsException") ∈ lw_all := lw_all_of (lw_in3 (List.mem_of_getElem? (i := 126) rfl)) rfl
theorem q610 : (Jvm.Cond.selects "java/lang/ArrayIndexOutOfBoundsException" ({ cls := "java/lang/Throwable", name := "fillInStackTrace", desc := "(I)Ljava/lang/Throwable;" } : Jvm.MethodName) ({ cls := "java/lang/Throwable", name := "fillInStackTrace", desc := "(I)Ljava/lang/Throwable;" } : Jvm.MethodName)) ∈ lw_all := lw_all_of (lw_in3 (List.mem_of_getElem? (i := 130) rfl)) rfl
theorem q611 : (Jvm.Cond.instantiable "java/lang/String" (4 : Nat)) ∈ lw_all := lw_all_of (lw_in3 (List.mem_of_getElem? (i := 131) rfl)) rfl
theorem q612 : (Jvm.Cond.laysFinal "java/lang/String" "java/lang/String" "value" "[B") ∈ lw_all := lw_all_of (lw_in3 (List.mem_of_getElem? (i := 132) rfl)) rfl
theorem q614 : (Jvm.Cond.laysFinal "java/lang/String" "java/lang/String" "coder" "B") ∈ lw_all := lw_all_of (lw_in3 (List.mem_of_getElem? (i := 134) rfl)) rfl
theorem q616 : (Jvm.Cond.methodLink "PegshoreHouseLaw" (31 : Nat) ({ cls := "PegshoreHouse", name := "cell", desc := "(I)I" } : Jvm.MethodName)) ∈ lw_all := lw_all_of (lw_in3 (List.mem_of_getElem? (i := 136) rfl)) rfl
theorem q617 : (Jvm.Cond.instanceMethod ({ cls := "PegshoreHouse", name := "cell", desc := "(I)I" } : Jvm.MethodName)) ∈ lw_all := lw_all_of (lw_in3 (List.mem_of_getElem? (i := 137) rfl)) rfl
theorem q618 : (Jvm.Cond.selects "PegshoreHouse" ({ cls := "PegshoreHouse", name := "cell", desc := "(I)I" } : Jvm.MethodName) ({ cls := "PegshoreHouse", name := "cell", desc := "(I)I" } : Jvm.MethodName)) ∈ lw_all := lw_all_of (lw_in3 (List.mem_of_getElem? (i := 138) rfl)) rfl
theorem q619 : (Jvm.Cond.code ({ cls := "PegshoreHouse", name := "cell", desc := "(I)I" } : Jvm.MethodName) prog_1_method_6_code (2 : Nat) (Option.some Jvm.ClassFile.FieldType.int)) ∈ lw_all := lw_all_of (lw_in3 (List.mem_of_getElem? (i := 139) rfl)) rfl
theorem q620 : (Jvm.Cond.methodLink "PegshoreHouse" (98 : Nat) ({ cls := "PegshoreHouse", name := "requireHole", desc := "(I)V" } : Jvm.MethodName)) ∈ lw_all := lw_all_of (lw_in3 (List.mem_of_getElem? (i := 140) rfl)) rfl
theorem q622 : (Jvm.Cond.instanceMethod ({ cls := "PegshoreHouse", name := "requireHole", desc := "(I)V" } : Jvm.MethodName)) ∈ lw_all := lw_all_of (lw_in3 (List.mem_of_getElem? (i := 142) rfl)) rfl
theorem q623 : (Jvm.Cond.code ({ cls := "PegshoreHouse", name := "requireHole", desc := "(I)V" } : Jvm.MethodName) prog_1_method_47_code (2 : Nat) (Option.none : Option Jvm.ClassFile.FieldType)) ∈ lw_all := lw_all_of (lw_in3 (List.mem_of_getElem? (i := 143) rfl)) rfl
theorem q624 : (Jvm.Cond.classLink "PegshoreHouse" (281 : Nat) "java/lang/IndexOutOfBoundsException") ∈ lw_all := lw_all_of (lw_in3 (List.mem_of_getElem? (i := 144) rfl)) rfl
theorem q625 : (Jvm.Cond.instantiable "java/lang/IndexOutOfBoundsException" (6 : Nat)) ∈ lw_all := lw_all_of (lw_in3 (List.mem_of_getElem? (i := 145) rfl)) rfl
theorem q627 : (Jvm.Cond.selects "java/lang/IndexOutOfBoundsException" ({ cls := "java/lang/Throwable", name := "fillInStackTrace", desc := "(I)Ljava/lang/Throwable;" } : Jvm.MethodName) ({ cls := "java/lang/Throwable", name := "fillInStackTrace", desc := "(I)Ljava/lang/Throwable;" } : Jvm.MethodName)) ∈ lw_all := lw_all_of (lw_in3 (List.mem_of_getElem? (i := 147) rfl)) rfl
theorem q628 : (Jvm.Cond.lays "java/lang/IndexOutOfBoundsException" "java/lang/Throwable" "cause" "Ljava/lang/Throwable;") ∈ lw_all := lw_all_of (lw_in3 (List.mem_of_getElem? (i := 148) rfl)) rfl
theorem q629 : (Jvm.Cond.lays "java/lang/IndexOutOfBoundsException" "java/lang/Throwable" "stackTrace" "[Ljava/lang/StackTraceElement;") ∈ lw_all := lw_all_of (lw_in3 (List.mem_of_getElem? (i := 149) rfl)) rfl
theorem q630 : (Jvm.Cond.lays "java/lang/IndexOutOfBoundsException" "java/lang/Throwable" "suppressedExceptions" "Ljava/util/List;") ∈ lw_all := lw_all_of (lw_in3 (List.mem_of_getElem? (i := 150) rfl)) rfl
theorem q631 : (Jvm.Cond.lays "java/lang/IndexOutOfBoundsException" "java/lang/Throwable" "detailMessage" "Ljava/lang/String;") ∈ lw_all := lw_all_of (lw_in3 (List.mem_of_getElem? (i := 151) rfl)) rfl
theorem q632 : (Jvm.Cond.lays "java/lang/IndexOutOfBoundsException" "java/lang/Throwable" "backtrace" "Ljava/lang/Object;") ∈ lw_all := lw_all_of (lw_in3 (List.mem_of_getElem? (i := 152) rfl)) rfl
theorem q634 : (Jvm.Cond.methodLink "PegshoreHouse" (285 : Nat) ({ cls := "java/lang/IndexOutOfBoundsException", name := "<init>", desc := "(Ljava/lang/String;)V" } : Jvm.MethodName)) ∈ lw_all := lw_all_of (lw_in3 (List.mem_of_getElem? (i := 154) rfl)) rfl
theorem q635 : (Jvm.Cond.lays "java/lang/IndexOutOfBoundsException" "java/lang/Throwable" "depth" "I") ∈ lw_all := lw_all_of (lw_in3 (List.mem_of_getElem? (i := 155) rfl)) rfl
theorem q636 : (Jvm.Cond.superclass "java/lang/IndexOutOfBoundsException" "java/lang/RuntimeException") ∈ lw_all := lw_all_of (lw_in3 (List.mem_of_getElem? (i := 156) rfl)) rfl
theorem q637 : (Jvm.Cond.methodLink "PegshoreHouseLaw" (139 : Nat) ({ cls := "PegshoreHouseLaw", name := "put", desc := "(LPegshoreHouse;I[J)I" } : Jvm.MethodName)) ∈ lw_all := lw_all_of (lw_in3 (List.mem_of_getElem? (i := 157) rfl)) rfl
theorem q638 : (Jvm.Cond.static ({ cls := "PegshoreHouseLaw", name := "put", desc := "(LPegshoreHouse;I[J)I" } : Jvm.MethodName)) ∈ lw_all := lw_all_of (lw_in3 (List.mem_of_getElem? (i := 158) rfl)) rfl
theorem q639 : (Jvm.Cond.codeWith ({ cls := "PegshoreHouseLaw", name := "put", desc := "(LPegshoreHouse;I[J)I" } : Jvm.MethodName) method_8_code (4 : Nat) (Option.some Jvm.ClassFile.FieldType.int) [((0 : Nat), (9 : Nat), (12 : Nat), (34 : Nat))]) ∈ lw_all := lw_all_of (lw_in3 (List.mem_of_getElem? (i := 159) rfl)) rfl
theorem q640 : (Jvm.Cond.methodLink "PegshoreHouseLaw" (36 : Nat) ({ cls := "PegshoreHouse", name := "put", desc := "(I)I" } : Jvm.MethodName)) ∈ lw_all := lw_all_of (lw_in3 (List.mem_of_getElem? (i := 160) rfl)) rfl
theorem q641 : (Jvm.Cond.instanceMethod ({ cls := "PegshoreHouse", name := "put", desc := "(I)I" } : Jvm.MethodName)) ∈ lw_all := lw_all_of (lw_in3 (List.mem_of_getElem? (i := 161) rfl)) rfl
theorem q642 : (Jvm.Cond.selects "PegshoreHouse" ({ cls := "PegshoreHouse", name := "put", desc := "(I)I" } : Jvm.MethodName) ({ cls := "PegshoreHouse", name := "put", desc := "(I)I" } : Jvm.MethodName)) ∈ lw_all := lw_all_of (lw_in3 (List.mem_of_getElem? (i := 162) rfl)) rfl
theorem q643 : (Jvm.Cond.code ({ cls := "PegshoreHouse", name := "put", desc := "(I)I" } : Jvm.MethodName) prog_1_method_9_code (3 : Nat) (Option.some Jvm.ClassFile.FieldType.int)) ∈ lw_all := lw_all_of (lw_in3 (List.mem_of_getElem? (i := 163) rfl)) rfl
theorem q644 : (Jvm.Cond.methodLink "PegshoreHouse" (110 : Nat) ({ cls := "PegshoreHouse", name := "requirePegs", desc := "(I)V" } : Jvm.MethodName)) ∈ lw_all := lw_all_of (lw_in3 (List.mem_of_getElem? (i := 164) rfl)) rfl
theorem q646 : (Jvm.Cond.instanceMethod ({ cls := "PegshoreHouse", name := "requirePegs", desc := "(I)V" } : Jvm.MethodName)) ∈ lw_all := lw_all_of (lw_in3 (List.mem_of_getElem? (i := 166) rfl)) rfl
theorem q647 : (Jvm.Cond.code ({ cls := "PegshoreHouse", name := "requirePegs", desc := "(I)V" } : Jvm.MethodName) prog_1_method_48_code (2 : Nat) (Option.none : Option Jvm.ClassFile.FieldType)) ∈ lw_all := lw_all_of (lw_in3 (List.mem_of_getElem? (i := 167) rfl)) rfl
theorem q649 : (Jvm.Cond.methodLink "PegshoreHouseLaw" (146 : Nat) ({ cls := "PegshoreHouseLaw", name := "mayJump", desc := "(LPegshoreHouse;II[J)I" } : Jvm.MethodName)) ∈ lw_all := lw_all_of (lw_in3 (List.mem_of_getElem? (i := 169) rfl)) rfl
theorem q650 : (Jvm.Cond.static ({ cls := "PegshoreHouseLaw", name := "mayJump", desc := "(LPegshoreHouse;II[J)I" } : Jvm.MethodName)) ∈ lw_all := lw_all_of (lw_in3 (List.mem_of_getElem? (i := 170) rfl)) rfl
theorem q651 : (Jvm.Cond.codeWith ({ cls := "PegshoreHouseLaw", name := "mayJump", desc := "(LPegshoreHouse;II[J)I" } : Jvm.MethodName) method_9_code (5 : Nat) (Option.some Jvm.ClassFile.FieldType.int) [((0 : Nat), (17 : Nat), (20 : Nat), (34 : Nat))]) ∈ lw_all := lw_all_of (lw_in3 (List.mem_of_getElem? (i := 171) rfl)) rfl
theorem q652 : (Jvm.Cond.methodLink "PegshoreHouseLaw" (39 : Nat) ({ cls := "PegshoreHouse", name := "mayJump", desc := "(II)Z" } : Jvm.MethodName)) ∈ lw_all := lw_all_of (lw_in3 (List.mem_of_getElem? (i := 172) rfl)) rfl
theorem q653 : (Jvm.Cond.instanceMethod ({ cls := "PegshoreHouse", name := "mayJump", desc := "(II)Z" } : Jvm.MethodName)) ∈ lw_all := lw_all_of (lw_in3 (List.mem_of_getElem? (i := 173) rfl)) rfl
theorem q654 : (Jvm.Cond.selects "PegshoreHouse" ({ cls := "PegshoreHouse", name := "mayJump", desc := "(II)Z" } : Jvm.MethodName) ({ cls := "PegshoreHouse", name := "mayJump", desc := "(II)Z" } : Jvm.MethodName)) ∈ lw_all := lw_all_of (lw_in3 (List.mem_of_getElem? (i := 174) rfl)) rfl
theorem q655 : (Jvm.Cond.code ({ cls := "PegshoreHouse", name := "mayJump", desc := "(II)Z" } : Jvm.MethodName) prog_1_method_11_code (3 : Nat) (Option.some Jvm.ClassFile.FieldType.boolean)) ∈ lw_all := lw_all_of (lw_in3 (List.mem_of_getElem? (i := 175) rfl)) rfl
theorem q656 : (Jvm.Cond.methodLink "PegshoreHouse" (116 : Nat) ({ cls := "PegshoreHouse", name := "behindJump", desc := "(III)I" } : Jvm.MethodName)) ∈ lw_all := lw_all_of (lw_in3 (List.mem_of_getElem? (i := 176) rfl)) rfl
theorem q658 : (Jvm.Cond.instanceMethod ({ cls := "PegshoreHouse", name := "behindJump", desc := "(III)I" } : Jvm.MethodName)) ∈ lw_all := lw_all_of (lw_in3 (List.mem_of_getElem? (i := 178) rfl)) rfl
theorem q659 : (Jvm.Cond.code ({ cls := "PegshoreHouse", name := "behindJump", desc := "(III)I" } : Jvm.MethodName) prog_1_method_51_code (4 : Nat) (Option.some Jvm.ClassFile.FieldType.int)) ∈ lw_all := lw_all_of (lw_in3 (List.mem_of_getElem? (i := 179) rfl)) rfl
theorem q660 : (Jvm.Cond.methodLink "PegshoreHouseLaw" (150 : Nat) ({ cls := "PegshoreHouseLaw", name := "jump", desc := "(LPegshoreHouse;II[J)I" } : Jvm.MethodName)) ∈ lw_all := lw_all_of (lw_in3 (List.mem_of_getElem? (i := 180) rfl)) rfl
theorem q661 : (Jvm.Cond.static ({ cls := "PegshoreHouseLaw", name := "jump", desc := "(LPegshoreHouse;II[J)I" } : Jvm.MethodName)) ∈ lw_all := lw_all_of (lw_in3 (List.mem_of_getElem? (i := 181) rfl)) rfl
theorem q662 : (Jvm.Cond.codeWith ({ cls := "PegshoreHouseLaw", name := "jump", desc := "(LPegshoreHouse;II[J)I" } : Jvm.MethodName) method_10_code (5 : Nat) (Option.some Jvm.ClassFile.FieldType.int) [((0 : Nat), (10 : Nat), (13 : Nat), (34 : Nat)), ((0 : Nat), (10 : Nat), (17 : Nat), (19 : Nat))]) ∈ lw_all := lw_all_of (lw_in3 (List.mem_of_getElem? (i := 182) rfl)) rfl
theorem q663 : (Jvm.Cond.methodLink "PegshoreHouseLaw" (43 : Nat) ({ cls := "PegshoreHouse", name := "jump", desc := "(II)I" } : Jvm.MethodName)) ∈ lw_all := lw_all_of (lw_in3 (List.mem_of_getElem? (i := 183) rfl)) rfl
theorem q664 : (Jvm.Cond.instanceMethod ({ cls := "PegshoreHouse", name := "jump", desc := "(II)I" } : Jvm.MethodName)) ∈ lw_all := lw_all_of (lw_in3 (List.mem_of_getElem? (i := 184) rfl)) rfl
theorem q665 : (Jvm.Cond.selects "PegshoreHouse" ({ cls := "PegshoreHouse", name := "jump", desc := "(II)I" } : Jvm.MethodName) ({ cls := "PegshoreHouse", name := "jump", desc := "(II)I" } : Jvm.MethodName)) ∈ lw_all := lw_all_of (lw_in3 (List.mem_of_getElem? (i := 185) rfl)) rfl
theorem q666 : (Jvm.Cond.code ({ cls := "PegshoreHouse", name := "jump", desc := "(II)I" } : Jvm.MethodName) prog_1_method_12_code (3 : Nat) (Option.some Jvm.ClassFile.FieldType.int)) ∈ lw_all := lw_all_of (lw_in3 (List.mem_of_getElem? (i := 186) rfl)) rfl
theorem q667 : (Jvm.Cond.methodLink "PegshoreHouse" (120 : Nat) ({ cls := "PegshoreHouse", name := "requireJump", desc := "(II)I" } : Jvm.MethodName)) ∈ lw_all := lw_all_of (lw_in3 (List.mem_of_getElem? (i := 187) rfl)) rfl
theorem q669 : (Jvm.Cond.instanceMethod ({ cls := "PegshoreHouse", name := "requireJump", desc := "(II)I" } : Jvm.MethodName)) ∈ lw_all := lw_all_of (lw_in3 (List.mem_of_getElem? (i := 189) rfl)) rfl
theorem q670 : (Jvm.Cond.code ({ cls := "PegshoreHouse", name := "requireJump", desc := "(II)I" } : Jvm.MethodName) prog_1_method_50_code (4 : Nat) (Option.some Jvm.ClassFile.FieldType.int)) ∈ lw_all := lw_all_of (lw_in3 (List.mem_of_getElem? (i := 190) rfl)) rfl
theorem q672 : (Jvm.Cond.methodLink "PegshoreHouse" (124 : Nat) ({ cls := "PegshoreHouse", name := "makeJump", desc := "(III)V" } : Jvm.MethodName)) ∈ lw_all := lw_all_of (lw_in3 (List.mem_of_getElem? (i := 192) rfl)) rfl
theorem q674 : (Jvm.Cond.instanceMethod ({ cls := "PegshoreHouse", name := "makeJump", desc := "(III)V" } : Jvm.MethodName)) ∈ lw_all := lw_all_of (lw_in3 (List.mem_of_getElem? (i := 194) rfl)) rfl
theorem q675 : (Jvm.Cond.code ({ cls := "PegshoreHouse", name := "makeJump", desc := "(III)V" } : Jvm.MethodName) prog_1_method_52_code (4 : Nat) (Option.none : Option Jvm.ClassFile.FieldType)) ∈ lw_all := lw_all_of (lw_in3 (List.mem_of_getElem? (i := 195) rfl)) rfl
theorem q676 : (Jvm.Cond.methodLink "PegshoreHouse" (243 : Nat) ({ cls := "PegshoreHouse$Row", name := "add", desc := "(I)V" } : Jvm.MethodName)) ∈ lw_all := lw_all_of (lw_in3 (List.mem_of_getElem? (i := 196) rfl)) rfl
theorem q677 : (Jvm.Cond.methodLink "PegshoreHouse" (128 : Nat) ({ cls := "java/lang/Integer", name := "bitCount", desc := "(I)I" } : Jvm.MethodName)) ∈ lw_all := lw_all_of (lw_in3 (List.mem_of_getElem? (i := 197) rfl)) rfl
theorem q678 : (Jvm.Cond.methodLink "PegshoreHouseLaw" (157 : Nat) ({ cls := "PegshoreHouseLaw", name := "jumpAt", desc := "(LPegshoreHouse;I[J)I" } : Jvm.MethodName)) ∈ lw_all := lw_all_of (lw_in3 (List.mem_of_getElem? (i := 198) rfl)) rfl
theorem q679 : (Jvm.Cond.static ({ cls := "PegshoreHouseLaw", name := "jumpAt", desc := "(LPegshoreHouse;I[J)I" } : Jvm.MethodName)) ∈ lw_all := lw_all_of (lw_in3 (List.mem_of_getElem? (i := 199) rfl)) rfl
theorem q680 : (Jvm.Cond.codeWith ({ cls := "PegshoreHouseLaw", name := "jumpAt", desc := "(LPegshoreHouse;I[J)I" } : Jvm.MethodName) method_11_code (4 : Nat) (Option.some Jvm.ClassFile.FieldType.int) [((0 : Nat), (9 : Nat), (12 : Nat), (29 : Nat))]) ∈ lw_all := lw_all_of (lw_in3 (List.mem_of_getElem? (i := 200) rfl)) rfl
theorem q681 : (Jvm.Cond.methodLink "PegshoreHouseLaw" (47 : Nat) ({ cls := "PegshoreHouse", name := "jumpAt", desc := "(I)I" } : Jvm.MethodName)) ∈ lw_all := lw_all_of (lw_in3 (List.mem_of_getElem? (i := 201) rfl)) rfl
theorem q682 : (Jvm.Cond.instanceMethod ({ cls := "PegshoreHouse", name := "jumpAt", desc := "(I)I" } : Jvm.MethodName)) ∈ lw_all := lw_all_of (lw_in3 (List.mem_of_getElem? (i := 202) rfl)) rfl
theorem q683 : (Jvm.Cond.selects "PegshoreHouse" ({ cls := "PegshoreHouse", name := "jumpAt", desc := "(I)I" } : Jvm.MethodName) ({ cls := "PegshoreHouse", name := "jumpAt", desc := "(I)I" } : Jvm.MethodName)) ∈ lw_all := lw_all_of (lw_in3 (List.mem_of_getElem? (i := 203) rfl)) rfl
theorem q684 : (Jvm.Cond.code ({ cls := "PegshoreHouse", name := "jumpAt", desc := "(I)I" } : Jvm.MethodName) prog_1_method_14_code (4 : Nat) (Option.some Jvm.ClassFile.FieldType.int)) ∈ lw_all := lw_all_of (lw_in3 (List.mem_of_getElem? (i := 204) rfl)) rfl
theorem q685 : (Jvm.Cond.methodLink "PegshoreHouse" (139 : Nat) ({ cls := "PegshoreHouse$Board", name := "codeOf", desc := "(I)I" } : Jvm.MethodName)) ∈ lw_all := lw_all_of (lw_in3 (List.mem_of_getElem? (i := 205) rfl)) rfl
theorem q686 : (Jvm.Cond.instanceMethod ({ cls := "PegshoreHouse$Board", name := "codeOf", desc := "(I)I" } : Jvm.MethodName)) ∈ lw_all := lw_all_of (lw_in3 (List.mem_of_getElem? (i := 206) rfl)) rfl
theorem q687 : (Jvm.Cond.selects "PegshoreHouse$Board" ({ cls := "PegshoreHouse$Board", name := "codeOf", desc := "(I)I" } : Jvm.MethodName) ({ cls := "PegshoreHouse$Board", name := "codeOf", desc := "(I)I" } : Jvm.MethodName)) ∈ lw_all := lw_all_of (lw_in3 (List.mem_of_getElem? (i := 207) rfl)) rfl
theorem q688 : (Jvm.Cond.code ({ cls := "PegshoreHouse$Board", name := "codeOf", desc := "(I)I" } : Jvm.MethodName) prog_2_method_16_code (2 : Nat) (Option.some Jvm.ClassFile.FieldType.int)) ∈ lw_all := lw_all_of (lw_in3 (List.mem_of_getElem? (i := 208) rfl)) rfl
theorem q690 : (Jvm.Cond.methodLink "PegshoreHouseLaw" (160 : Nat) ({ cls := "PegshoreHouseLaw", name := "takeBack", desc := "(LPegshoreHouse;[J)I" } : Jvm.MethodName)) ∈ lw_all := lw_all_of (lw_in3 (List.mem_of_getElem? (i := 210) rfl)) rfl
theorem q691 : (Jvm.Cond.static ({ cls := "PegshoreHouseLaw", name := "takeBack", desc := "(LPegshoreHouse;[J)I" } : Jvm.MethodName)) ∈ lw_all := lw_all_of (lw_in3 (List.mem_of_getElem? (i := 211) rfl)) rfl
theorem q692 : (Jvm.Cond.codeWith ({ cls := "PegshoreHouseLaw", name := "takeBack", desc := "(LPegshoreHouse;[J)I" } : Jvm.MethodName) method_12_code (3 : Nat) (Option.some Jvm.ClassFile.FieldType.int) [((0 : Nat), (8 : Nat), (11 : Nat), (29 : Nat))]) ∈ lw_all := lw_all_of (lw_in3 (List.mem_of_getElem? (i := 212) rfl)) rfl
theorem q693 : (Jvm.Cond.methodLink "PegshoreHouseLaw" (50 : Nat) ({ cls := "PegshoreHouse", name := "takeBack", desc := "()I" } : Jvm.MethodName)) ∈ lw_all := lw_all_of (lw_in3 (List.mem_of_getElem? (i := 213) rfl)) rfl
theorem q694 : (Jvm.Cond.instanceMethod ({ cls := "PegshoreHouse", name := "takeBack", desc := "()I" } : Jvm.MethodName)) ∈ lw_all := lw_all_of (lw_in3 (List.mem_of_getElem? (i := 214) rfl)) rfl
theorem q695 : (Jvm.Cond.selects "PegshoreHouse" ({ cls := "PegshoreHouse", name := "takeBack", desc := "()I" } : Jvm.MethodName) ({ cls := "PegshoreHouse", name := "takeBack", desc := "()I" } : Jvm.MethodName)) ∈ lw_all := lw_all_of (lw_in3 (List.mem_of_getElem? (i := 215) rfl)) rfl
theorem q696 : (Jvm.Cond.code ({ cls := "PegshoreHouse", name := "takeBack", desc := "()I" } : Jvm.MethodName) prog_1_method_15_code (2 : Nat) (Option.some Jvm.ClassFile.FieldType.int)) ∈ lw_all := lw_all_of (lw_in3 (List.mem_of_getElem? (i := 216) rfl)) rfl
theorem q698 : (Jvm.Cond.methodLink "PegshoreHouse" (149 : Nat) ({ cls := "PegshoreHouse$Row", name := "removeLast", desc := "()I" } : Jvm.MethodName)) ∈ lw_all := lw_all_of (lw_in3 (List.mem_of_getElem? (i := 218) rfl)) rfl
theorem q699 : (Jvm.Cond.instanceMethod ({ cls := "PegshoreHouse$Row", name := "removeLast", desc := "()I" } : Jvm.MethodName)) ∈ lw_all := lw_all_of (lw_in3 (List.mem_of_getElem? (i := 219) rfl)) rfl
theorem q700 : (Jvm.Cond.selects "PegshoreHouse$Row" ({ cls := "PegshoreHouse$Row", name := "removeLast", desc := "()I" } : Jvm.MethodName) ({ cls := "PegshoreHouse$Row", name := "removeLast", desc := "()I" } : Jvm.MethodName)) ∈ lw_all := lw_all_of (lw_in3 (List.mem_of_getElem? (i := 220) rfl)) rfl
theorem q701 : (Jvm.Cond.code ({ cls := "PegshoreHouse$Row", name := "removeLast", desc := "()I" } : Jvm.MethodName) prog_3_method_5_code (2 : Nat) (Option.some Jvm.ClassFile.FieldType.int)) ∈ lw_all := lw_all_of (lw_in3 (List.mem_of_getElem? (i := 221) rfl)) rfl
theorem q702 : (Jvm.Cond.methodLink "PegshoreHouse$Row" (19 : Nat) ({ cls := "PegshoreHouse$Row", name := "at", desc := "(I)I" } : Jvm.MethodName)) ∈ lw_all := lw_all_of (lw_in3 (List.mem_of_getElem? (i := 222) rfl)) rfl
theorem q703 : (Jvm.Cond.methodLink "PegshoreHouseLaw" (172 : Nat) ({ cls := "PegshoreHouseLaw", name := "leastForm", desc := "(LPegshoreHouse;I[J)I" } : Jvm.MethodName)) ∈ lw_all := lw_all_of (lw_in3 (List.mem_of_getElem? (i := 223) rfl)) rfl
theorem q704 : (Jvm.Cond.static ({ cls := "PegshoreHouseLaw", name := "leastForm", desc := "(LPegshoreHouse;I[J)I" } : Jvm.MethodName)) ∈ lw_all := lw_all_of (lw_in3 (List.mem_of_getElem? (i := 224) rfl)) rfl
theorem q705 : (Jvm.Cond.codeWith ({ cls := "PegshoreHouseLaw", name := "leastForm", desc := "(LPegshoreHouse;I[J)I" } : Jvm.MethodName) method_13_code (4 : Nat) (Option.some Jvm.ClassFile.FieldType.int) [((0 : Nat), (9 : Nat), (12 : Nat), (34 : Nat))]) ∈ lw_all := lw_all_of (lw_in3 (List.mem_of_getElem? (i := 225) rfl)) rfl
theorem q706 : (Jvm.Cond.methodLink "PegshoreHouseLaw" (54 : Nat) ({ cls := "PegshoreHouse", name := "leastForm", desc := "(I)I" } : Jvm.MethodName)) ∈ lw_all := lw_all_of (lw_in3 (List.mem_of_getElem? (i := 226) rfl)) rfl
theorem q707 : (Jvm.Cond.instanceMethod ({ cls := "PegshoreHouse", name := "leastForm", desc := "(I)I" } : Jvm.MethodName)) ∈ lw_all := lw_all_of (lw_in3 (List.mem_of_getElem? (i := 227) rfl)) rfl
theorem q708 : (Jvm.Cond.selects "PegshoreHouse" ({ cls := "PegshoreHouse", name := "leastForm", desc := "(I)I" } : Jvm.MethodName) ({ cls := "PegshoreHouse", name := "leastForm", desc := "(I)I" } : Jvm.MethodName)) ∈ lw_all := lw_all_of (lw_in3 (List.mem_of_getElem? (i := 228) rfl)) rfl
theorem q709 : (Jvm.Cond.code ({ cls := "PegshoreHouse", name := "leastForm", desc := "(I)I" } : Jvm.MethodName) prog_1_method_18_code (4 : Nat) (Option.some Jvm.ClassFile.FieldType.int)) ∈ lw_all := lw_all_of (lw_in3 (List.mem_of_getElem? (i := 229) rfl)) rfl
theorem q710 : (Jvm.Cond.methodLink "PegshoreHouse" (161 : Nat) ({ cls := "PegshoreHouse$Board", name := "turnedPegs", desc := "(II)I" } : Jvm.MethodName)) ∈ lw_all := lw_all_of (lw_in3 (List.mem_of_getElem? (i := 230) rfl)) rfl
theorem q711 : (Jvm.Cond.instanceMethod ({ cls := "PegshoreHouse$Board", name := "turnedPegs", desc := "(II)I" } : Jvm.MethodName)) ∈ lw_all := lw_all_of (lw_in3 (List.mem_of_getElem? (i := 231) rfl)) rfl
theorem q712 : (Jvm.Cond.selects "PegshoreHouse$Board" ({ cls := "PegshoreHouse$Board", name := "turnedPegs", desc := "(II)I" } : Jvm.MethodName) ({ cls := "PegshoreHouse$Board", name := "turnedPegs", desc := "(II)I" } : Jvm.MethodName)) ∈ lw_all := lw_all_of (lw_in3 (List.mem_of_getElem? (i := 232) rfl)) rfl
theorem q713 : (Jvm.Cond.code ({ cls := "PegshoreHouse$Board", name := "turnedPegs", desc := "(II)I" } : Jvm.MethodName) prog_2_method_23_code (5 : Nat) (Option.some Jvm.ClassFile.FieldType.int)) ∈ lw_all := lw_all_of (lw_in3 (List.mem_of_getElem? (i := 233) rfl)) rfl
theorem q714 : (Jvm.Cond.methodLink "PegshoreHouse" (164 : Nat) ({ cls := "java/lang/Math", name := "min", desc := "(II)I" } : Jvm.MethodName)) ∈ lw_all := lw_all_of (lw_in3 (List.mem_of_getElem? (i := 234) rfl)) rfl
theorem q715 : (Jvm.Cond.methodLink "PegshoreHouseLaw" (175 : Nat) ({ cls := "PegshoreHouseLaw", name := "setEnd", desc := "(LPegshoreHouse;I[J)I" } : Jvm.MethodName)) ∈ lw_all := lw_all_of (lw_in3 (List.mem_of_getElem? (i := 235) rfl)) rfl
theorem q716 : (Jvm.Cond.static ({ cls := "PegshoreHouseLaw", name := "setEnd", desc := "(LPegshoreHouse;I[J)I" } : Jvm.MethodName)) ∈ lw_all := lw_all_of (lw_in3 (List.mem_of_getElem? (i := 236) rfl)) rfl
theorem q717 : (Jvm.Cond.codeWith ({ cls := "PegshoreHouseLaw", name := "setEnd", desc := "(LPegshoreHouse;I[J)I" } : Jvm.MethodName) method_14_code (4 : Nat) (Option.some Jvm.ClassFile.FieldType.int) [((0 : Nat), (9 : Nat), (12 : Nat), (34 : Nat))]) ∈ lw_all := lw_all_of (lw_in3 (List.mem_of_getElem? (i := 237) rfl)) rfl
theorem q718 : (Jvm.Cond.methodLink "PegshoreHouseLaw" (57 : Nat) ({ cls := "PegshoreHouse", name := "setEnd", desc := "(I)I" } : Jvm.MethodName)) ∈ lw_all := lw_all_of (lw_in3 (List.mem_of_getElem? (i := 238) rfl)) rfl
theorem q719 : (Jvm.Cond.instanceMethod ({ cls := "PegshoreHouse", name := "setEnd", desc := "(I)I" } : Jvm.MethodName)) ∈ lw_all := lw_all_of (lw_in3 (List.mem_of_getElem? (i := 239) rfl)) rfl
theorem q720 : (Jvm.Cond.selects "PegshoreHouse" ({ cls := "PegshoreHouse", name := "setEnd", desc := "(I)I" } : Jvm.MethodName) ({ cls := "PegshoreHouse", name := "setEnd", desc := "(I)I" } : Jvm.MethodName)) ∈ lw_all := lw_all_of (lw_in4 (List.mem_of_getElem? (i := 0) rfl)) rfl
theorem q721 : (Jvm.Cond.code ({ cls := "PegshoreHouse", name := "setEnd", desc := "(I)I" } : Jvm.MethodName) prog_1_method_19_code (3 : Nat) (Option.some Jvm.ClassFile.FieldType.int)) ∈ lw_all := lw_all_of (lw_in4 (List.mem_of_getElem? (i := 1) rfl)) rfl
theorem q722 : (Jvm.Cond.methodLink "PegshoreHouseLaw" (188 : Nat) ({ cls := "PegshoreHouseLaw", name := "hint", desc := "(LPegshoreHouse;[J)I" } : Jvm.MethodName)) ∈ lw_all := lw_all_of (lw_in4 (List.mem_of_getElem? (i := 2) rfl)) rfl
theorem q723 : (Jvm.Cond.static ({ cls := "PegshoreHouseLaw", name := "hint", desc := "(LPegshoreHouse;[J)I" } : Jvm.MethodName)) ∈ lw_all := lw_all_of (lw_in4 (List.mem_of_getElem? (i := 3) rfl)) rfl
theorem q724 : (Jvm.Cond.codeWith ({ cls := "PegshoreHouseLaw", name := "hint", desc := "(LPegshoreHouse;[J)I" } : Jvm.MethodName) method_15_code (3 : Nat) (Option.some Jvm.ClassFile.FieldType.int) [((0 : Nat), (8 : Nat), (11 : Nat), (29 : Nat))]) ∈ lw_all := lw_all_of (lw_in4 (List.mem_of_getElem? (i := 4) rfl)) rfl
theorem q725 : (Jvm.Cond.methodLink "PegshoreHouseLaw" (60 : Nat) ({ cls := "PegshoreHouse", name := "hint", desc := "()I" } : Jvm.MethodName)) ∈ lw_all := lw_all_of (lw_in4 (List.mem_of_getElem? (i := 5) rfl)) rfl
theorem q726 : (Jvm.Cond.instanceMethod ({ cls := "PegshoreHouse", name := "hint", desc := "()I" } : Jvm.MethodName)) ∈ lw_all := lw_all_of (lw_in4 (List.mem_of_getElem? (i := 6) rfl)) rfl
theorem q727 : (Jvm.Cond.selects "PegshoreHouse" ({ cls := "PegshoreHouse", name := "hint", desc := "()I" } : Jvm.MethodName) ({ cls := "PegshoreHouse", name := "hint", desc := "()I" } : Jvm.MethodName)) ∈ lw_all := lw_all_of (lw_in4 (List.mem_of_getElem? (i := 7) rfl)) rfl
theorem q728 : (Jvm.Cond.code ({ cls := "PegshoreHouse", name := "hint", desc := "()I" } : Jvm.MethodName) prog_1_method_22_code (2 : Nat) (Option.some Jvm.ClassFile.FieldType.int)) ∈ lw_all := lw_all_of (lw_in4 (List.mem_of_getElem? (i := 8) rfl)) rfl
theorem q729 : (Jvm.Cond.methodLink "PegshoreHouse" (176 : Nat) ({ cls := "PegshoreHouse$Walk", name := "figureLeads", desc := "(I)V" } : Jvm.MethodName)) ∈ lw_all := lw_all_of (lw_in4 (List.mem_of_getElem? (i := 9) rfl)) rfl
theorem q730 : (Jvm.Cond.instanceMethod ({ cls := "PegshoreHouse$Walk", name := "figureLeads", desc := "(I)V" } : Jvm.MethodName)) ∈ lw_all := lw_all_of (lw_in4 (List.mem_of_getElem? (i := 10) rfl)) rfl
theorem q731 : (Jvm.Cond.selects "PegshoreHouse$Walk" ({ cls := "PegshoreHouse$Walk", name := "figureLeads", desc := "(I)V" } : Jvm.MethodName) ({ cls := "PegshoreHouse$Walk", name := "figureLeads", desc := "(I)V" } : Jvm.MethodName)) ∈ lw_all := lw_all_of (lw_in4 (List.mem_of_getElem? (i := 11) rfl)) rfl
theorem q732 : (Jvm.Cond.code ({ cls := "PegshoreHouse$Walk", name := "figureLeads", desc := "(I)V" } : Jvm.MethodName) prog_4_method_10_code (3 : Nat) (Option.none : Option Jvm.ClassFile.FieldType)) ∈ lw_all := lw_all_of (lw_in4 (List.mem_of_getElem? (i := 12) rfl)) rfl
theorem q733 : (Jvm.Cond.methodLink "PegshoreHouse$Walk" (87 : Nat) ({ cls := "PegshoreHouse$Walk", name := "leads", desc := "(II)Z" } : Jvm.MethodName)) ∈ lw_all := lw_all_of (lw_in4 (List.mem_of_getElem? (i := 13) rfl)) rfl
theorem q735 : (Jvm.Cond.instanceMethod ({ cls := "PegshoreHouse$Walk", name := "leads", desc := "(II)Z" } : Jvm.MethodName)) ∈ lw_all := lw_all_of (lw_in4 (List.mem_of_getElem? (i := 15) rfl)) rfl
theorem q736 : (Jvm.Cond.code ({ cls := "PegshoreHouse$Walk", name := "leads", desc := "(II)Z" } : Jvm.MethodName) prog_4_method_11_code (5 : Nat) (Option.some Jvm.ClassFile.FieldType.boolean)) ∈ lw_all := lw_all_of (lw_in4 (List.mem_of_getElem? (i := 16) rfl)) rfl
theorem q737 : (Jvm.Cond.methodLink "PegshoreHouse" (179 : Nat) ({ cls := "PegshoreHouse", name := "lineTo", desc := "(I)I" } : Jvm.MethodName)) ∈ lw_all := lw_all_of (lw_in4 (List.mem_of_getElem? (i := 17) rfl)) rfl
theorem q739 : (Jvm.Cond.instanceMethod ({ cls := "PegshoreHouse", name := "lineTo", desc := "(I)I" } : Jvm.MethodName)) ∈ lw_all := lw_all_of (lw_in4 (List.mem_of_getElem? (i := 19) rfl)) rfl
theorem q740 : (Jvm.Cond.code ({ cls := "PegshoreHouse", name := "lineTo", desc := "(I)I" } : Jvm.MethodName) prog_1_method_54_code (4 : Nat) (Option.some Jvm.ClassFile.FieldType.int)) ∈ lw_all := lw_all_of (lw_in4 (List.mem_of_getElem? (i := 20) rfl)) rfl
theorem q742 : (Jvm.Cond.methodLink "PegshoreHouseLaw" (191 : Nat) ({ cls := "PegshoreHouseLaw", name := "loses", desc := "(LPegshoreHouse;II[J)I" } : Jvm.MethodName)) ∈ lw_all := lw_all_of (lw_in4 (List.mem_of_getElem? (i := 22) rfl)) rfl
theorem q743 : (Jvm.Cond.static ({ cls := "PegshoreHouseLaw", name := "loses", desc := "(LPegshoreHouse;II[J)I" } : Jvm.MethodName)) ∈ lw_all := lw_all_of (lw_in4 (List.mem_of_getElem? (i := 23) rfl)) rfl
theorem q744 : (Jvm.Cond.codeWith ({ cls := "PegshoreHouseLaw", name := "loses", desc := "(LPegshoreHouse;II[J)I" } : Jvm.MethodName) method_16_code (5 : Nat) (Option.some Jvm.ClassFile.FieldType.int) [((0 : Nat), (17 : Nat), (20 : Nat), (34 : Nat)), ((0 : Nat), (17 : Nat), (24 : Nat), (19 : Nat))]) ∈ lw_all := lw_all_of (lw_in4 (List.mem_of_getElem? (i := 24) rfl)) rfl
theorem q745 : (Jvm.Cond.methodLink "PegshoreHouseLaw" (63 : Nat) ({ cls := "PegshoreHouse", name := "loses", desc := "(II)Z" } : Jvm.MethodName)) ∈ lw_all := lw_all_of (lw_in4 (List.mem_of_getElem? (i := 25) rfl)) rfl
theorem q746 : (Jvm.Cond.instanceMethod ({ cls := "PegshoreHouse", name := "loses", desc := "(II)Z" } : Jvm.MethodName)) ∈ lw_all := lw_all_of (lw_in4 (List.mem_of_getElem? (i := 26) rfl)) rfl
theorem q747 : (Jvm.Cond.selects "PegshoreHouse" ({ cls := "PegshoreHouse", name := "loses", desc := "(II)Z" } : Jvm.MethodName) ({ cls := "PegshoreHouse", name := "loses", desc := "(II)Z" } : Jvm.MethodName)) ∈ lw_all := lw_all_of (lw_in4 (List.mem_of_getElem? (i := 27) rfl)) rfl
theorem q748 : (Jvm.Cond.code ({ cls := "PegshoreHouse", name := "loses", desc := "(II)Z" } : Jvm.MethodName) prog_1_method_23_code (4 : Nat) (Option.some Jvm.ClassFile.FieldType.boolean)) ∈ lw_all := lw_all_of (lw_in4 (List.mem_of_getElem? (i := 28) rfl)) rfl
theorem q749 : (Jvm.Cond.methodLink "PegshoreHouseLaw" (206 : Nat) ({ cls := "PegshoreHouseLaw", name := "leastSweeps", desc := "(LPegshoreHouse;[J)I" } : Jvm.MethodName)) ∈ lw_all := lw_all_of (lw_in4 (List.mem_of_getElem? (i := 29) rfl)) rfl
theorem q750 : (Jvm.Cond.static ({ cls := "PegshoreHouseLaw", name := "leastSweeps", desc := "(LPegshoreHouse;[J)I" } : Jvm.MethodName)) ∈ lw_all := lw_all_of (lw_in4 (List.mem_of_getElem? (i := 30) rfl)) rfl
theorem q751 : (Jvm.Cond.codeWith ({ cls := "PegshoreHouseLaw", name := "leastSweeps", desc := "(LPegshoreHouse;[J)I" } : Jvm.MethodName) method_17_code (3 : Nat) (Option.some Jvm.ClassFile.FieldType.int) [((0 : Nat), (8 : Nat), (11 : Nat), (19 : Nat)), ((0 : Nat), (8 : Nat), (14 : Nat), (29 : Nat))]) ∈ lw_all := lw_all_of (lw_in4 (List.mem_of_getElem? (i := 31) rfl)) rfl
theorem q752 : (Jvm.Cond.methodLink "PegshoreHouseLaw" (66 : Nat) ({ cls := "PegshoreHouse", name := "leastSweeps", desc := "()I" } : Jvm.MethodName)) ∈ lw_all := lw_all_of (lw_in4 (List.mem_of_getElem? (i := 32) rfl)) rfl
theorem q753 : (Jvm.Cond.instanceMethod ({ cls := "PegshoreHouse", name := "leastSweeps", desc := "()I" } : Jvm.MethodName)) ∈ lw_all := lw_all_of (lw_in4 (List.mem_of_getElem? (i := 33) rfl)) rfl
theorem q754 : (Jvm.Cond.selects "PegshoreHouse" ({ cls := "PegshoreHouse", name := "leastSweeps", desc := "()I" } : Jvm.MethodName) ({ cls := "PegshoreHouse", name := "leastSweeps", desc := "()I" } : Jvm.MethodName)) ∈ lw_all := lw_all_of (lw_in4 (List.mem_of_getElem? (i := 34) rfl)) rfl
theorem q755 : (Jvm.Cond.code ({ cls := "PegshoreHouse", name := "leastSweeps", desc := "()I" } : Jvm.MethodName) prog_1_method_27_code (2 : Nat) (Option.some Jvm.ClassFile.FieldType.int)) ∈ lw_all := lw_all_of (lw_in4 (List.mem_of_getElem? (i := 35) rfl)) rfl
theorem q757 : (Jvm.Cond.methodLink "PegshoreHouse" (197 : Nat) ({ cls := "PegshoreHouse$Walk", name := "leastSweepsTo", desc := "(I)I" } : Jvm.MethodName)) ∈ lw_all := lw_all_of (lw_in4 (List.mem_of_getElem? (i := 37) rfl)) rfl
theorem q758 : (Jvm.Cond.instanceMethod ({ cls := "PegshoreHouse$Walk", name := "leastSweepsTo", desc := "(I)I" } : Jvm.MethodName)) ∈ lw_all := lw_all_of (lw_in4 (List.mem_of_getElem? (i := 38) rfl)) rfl
theorem q759 : (Jvm.Cond.selects "PegshoreHouse$Walk" ({ cls := "PegshoreHouse$Walk", name := "leastSweepsTo", desc := "(I)I" } : Jvm.MethodName) ({ cls := "PegshoreHouse$Walk", name := "leastSweepsTo", desc := "(I)I" } : Jvm.MethodName)) ∈ lw_all := lw_all_of (lw_in4 (List.mem_of_getElem? (i := 39) rfl)) rfl
theorem q760 : (Jvm.Cond.code ({ cls := "PegshoreHouse$Walk", name := "leastSweepsTo", desc := "(I)I" } : Jvm.MethodName) prog_4_method_14_code (4 : Nat) (Option.some Jvm.ClassFile.FieldType.int)) ∈ lw_all := lw_all_of (lw_in4 (List.mem_of_getElem? (i := 40) rfl)) rfl
theorem q761 : (Jvm.Cond.methodLink "PegshoreHouse$Walk" (101 : Nat) ({ cls := "PegshoreHouse$Walk", name := "leastSweepsAt", desc := "(I)I" } : Jvm.MethodName)) ∈ lw_all := lw_all_of (lw_in4 (List.mem_of_getElem? (i := 41) rfl)) rfl
theorem q763 : (Jvm.Cond.instanceMethod ({ cls := "PegshoreHouse$Walk", name := "leastSweepsAt", desc := "(I)I" } : Jvm.MethodName)) ∈ lw_all := lw_all_of (lw_in4 (List.mem_of_getElem? (i := 43) rfl)) rfl
theorem q764 : (Jvm.Cond.code ({ cls := "PegshoreHouse$Walk", name := "leastSweepsAt", desc := "(I)I" } : Jvm.MethodName) prog_4_method_15_code (4 : Nat) (Option.some Jvm.ClassFile.FieldType.int)) ∈ lw_all := lw_all_of (lw_in4 (List.mem_of_getElem? (i := 44) rfl)) rfl
theorem q765 : (Jvm.Cond.methodLink "PegshoreHouse$Walk" (104 : Nat) ({ cls := "PegshoreHouse$Walk", name := "sweepOn", desc := "(II)V" } : Jvm.MethodName)) ∈ lw_all := lw_all_of (lw_in4 (List.mem_of_getElem? (i := 45) rfl)) rfl
theorem q767 : (Jvm.Cond.instanceMethod ({ cls := "PegshoreHouse$Walk", name := "sweepOn", desc := "(II)V" } : Jvm.MethodName)) ∈ lw_all := lw_all_of (lw_in4 (List.mem_of_getElem? (i := 47) rfl)) rfl
theorem q768 : (Jvm.Cond.code ({ cls := "PegshoreHouse$Walk", name := "sweepOn", desc := "(II)V" } : Jvm.MethodName) prog_4_method_16_code (9 : Nat) (Option.none : Option Jvm.ClassFile.FieldType)) ∈ lw_all := lw_all_of (lw_in4 (List.mem_of_getElem? (i := 48) rfl)) rfl
theorem q769 : (Jvm.Cond.methodLink "PegshoreHouse$Walk" (107 : Nat) ({ cls := "PegshoreHouse$Board", name := "codeOf", desc := "(I)I" } : Jvm.MethodName)) ∈ lw_all := lw_all_of (lw_in4 (List.mem_of_getElem? (i := 49) rfl)) rfl
theorem q771 : (Jvm.Cond.methodLink "PegshoreHouseLaw" (209 : Nat) ({ cls := "PegshoreHouseLaw", name := "highest", desc := "(LPegshoreHouse;[J)I" } : Jvm.MethodName)) ∈ lw_all := lw_all_of (lw_in4 (List.mem_of_getElem? (i := 51) rfl)) rfl
theorem q772 : (Jvm.Cond.static ({ cls := "PegshoreHouseLaw", name := "highest", desc := "(LPegshoreHouse;[J)I" } : Jvm.MethodName)) ∈ lw_all := lw_all_of (lw_in4 (List.mem_of_getElem? (i := 52) rfl)) rfl
theorem q773 : (Jvm.Cond.codeWith ({ cls := "PegshoreHouseLaw", name := "highest", desc := "(LPegshoreHouse;[J)I" } : Jvm.MethodName) method_18_code (3 : Nat) (Option.some Jvm.ClassFile.FieldType.int) [((0 : Nat), (8 : Nat), (11 : Nat), (29 : Nat))]) ∈ lw_all := lw_all_of (lw_in4 (List.mem_of_getElem? (i := 53) rfl)) rfl
theorem q774 : (Jvm.Cond.methodLink "PegshoreHouseLaw" (69 : Nat) ({ cls := "PegshoreHouse", name := "highest", desc := "()I" } : Jvm.MethodName)) ∈ lw_all := lw_all_of (lw_in4 (List.mem_of_getElem? (i := 54) rfl)) rfl
theorem q775 : (Jvm.Cond.instanceMethod ({ cls := "PegshoreHouse", name := "highest", desc := "()I" } : Jvm.MethodName)) ∈ lw_all := lw_all_of (lw_in4 (List.mem_of_getElem? (i := 55) rfl)) rfl
theorem q776 : (Jvm.Cond.selects "PegshoreHouse" ({ cls := "PegshoreHouse", name := "highest", desc := "()I" } : Jvm.MethodName) ({ cls := "PegshoreHouse", name := "highest", desc := "()I" } : Jvm.MethodName)) ∈ lw_all := lw_all_of (lw_in4 (List.mem_of_getElem? (i := 56) rfl)) rfl
theorem q777 : (Jvm.Cond.code ({ cls := "PegshoreHouse", name := "highest", desc := "()I" } : Jvm.MethodName) prog_1_method_28_code (2 : Nat) (Option.some Jvm.ClassFile.FieldType.int)) ∈ lw_all := lw_all_of (lw_in4 (List.mem_of_getElem? (i := 57) rfl)) rfl
theorem q779 : (Jvm.Cond.methodLink "PegshoreHouseLaw" (212 : Nat) ({ cls := "PegshoreHouseLaw", name := "weigh", desc := "(LPegshoreHouse;II[J)I" } : Jvm.MethodName)) ∈ lw_all := lw_all_of (lw_in4 (List.mem_of_getElem? (i := 59) rfl)) rfl
theorem q780 : (Jvm.Cond.static ({ cls := "PegshoreHouseLaw", name := "weigh", desc := "(LPegshoreHouse;II[J)I" } : Jvm.MethodName)) ∈ lw_all := lw_all_of (lw_in4 (List.mem_of_getElem? (i := 60) rfl)) rfl
theorem q781 : (Jvm.Cond.codeWith ({ cls := "PegshoreHouseLaw", name := "weigh", desc := "(LPegshoreHouse;II[J)I" } : Jvm.MethodName) method_19_code (5 : Nat) (Option.some Jvm.ClassFile.FieldType.int) [((0 : Nat), (10 : Nat), (13 : Nat), (34 : Nat)), ((0 : Nat), (10 : Nat), (17 : Nat), (13 : Nat))]) ∈ lw_all := lw_all_of (lw_in4 (List.mem_of_getElem? (i := 61) rfl)) rfl
theorem q782 : (Jvm.Cond.methodLink "PegshoreHouseLaw" (72 : Nat) ({ cls := "PegshoreHouse", name := "weigh", desc := "(II)I" } : Jvm.MethodName)) ∈ lw_all := lw_all_of (lw_in4 (List.mem_of_getElem? (i := 62) rfl)) rfl
theorem q783 : (Jvm.Cond.instanceMethod ({ cls := "PegshoreHouse", name := "weigh", desc := "(II)I" } : Jvm.MethodName)) ∈ lw_all := lw_all_of (lw_in4 (List.mem_of_getElem? (i := 63) rfl)) rfl
theorem q784 : (Jvm.Cond.selects "PegshoreHouse" ({ cls := "PegshoreHouse", name := "weigh", desc := "(II)I" } : Jvm.MethodName) ({ cls := "PegshoreHouse", name := "weigh", desc := "(II)I" } : Jvm.MethodName)) ∈ lw_all := lw_all_of (lw_in4 (List.mem_of_getElem? (i := 64) rfl)) rfl
theorem q785 : (Jvm.Cond.code ({ cls := "PegshoreHouse", name := "weigh", desc := "(II)I" } : Jvm.MethodName) prog_1_method_29_code (4 : Nat) (Option.some Jvm.ClassFile.FieldType.int)) ∈ lw_all := lw_all_of (lw_in4 (List.mem_of_getElem? (i := 65) rfl)) rfl
theorem q787 : (Jvm.Cond.methodLink "PegshoreHouse" (212 : Nat) ({ cls := "PegshoreHouse$Board", name := "changeWeight", desc := "(II)V" } : Jvm.MethodName)) ∈ lw_all := lw_all_of (lw_in4 (List.mem_of_getElem? (i := 67) rfl)) rfl
theorem q788 : (Jvm.Cond.instanceMethod ({ cls := "PegshoreHouse$Board", name := "changeWeight", desc := "(II)V" } : Jvm.MethodName)) ∈ lw_all := lw_all_of (lw_in4 (List.mem_of_getElem? (i := 68) rfl)) rfl
theorem q789 : (Jvm.Cond.selects "PegshoreHouse$Board" ({ cls := "PegshoreHouse$Board", name := "changeWeight", desc := "(II)V" } : Jvm.MethodName) ({ cls := "PegshoreHouse$Board", name := "changeWeight", desc := "(II)V" } : Jvm.MethodName)) ∈ lw_all := lw_all_of (lw_in4 (List.mem_of_getElem? (i := 69) rfl)) rfl
theorem q790 : (Jvm.Cond.code ({ cls := "PegshoreHouse$Board", name := "changeWeight", desc := "(II)V" } : Jvm.MethodName) prog_2_method_25_code (4 : Nat) (Option.none : Option Jvm.ClassFile.FieldType)) ∈ lw_all := lw_all_of (lw_in4 (List.mem_of_getElem? (i := 70) rfl)) rfl
theorem q791 : (Jvm.Cond.methodLink "PegshoreHouseLaw" (215 : Nat) ({ cls := "PegshoreHouseLaw", name := "weight", desc := "(LPegshoreHouse;I[J)I" } : Jvm.MethodName)) ∈ lw_all := lw_all_of (lw_in4 (List.mem_of_getElem? (i := 71) rfl)) rfl
theorem q792 : (Jvm.Cond.static ({ cls := "PegshoreHouseLaw", name := "weight", desc := "(LPegshoreHouse;I[J)I" } : Jvm.MethodName)) ∈ lw_all := lw_all_of (lw_in4 (List.mem_of_getElem? (i := 72) rfl)) rfl
theorem q793 : (Jvm.Cond.codeWith ({ cls := "PegshoreHouseLaw", name := "weight", desc := "(LPegshoreHouse;I[J)I" } : Jvm.MethodName) method_20_code (4 : Nat) (Option.some Jvm.ClassFile.FieldType.int) [((0 : Nat), (9 : Nat), (12 : Nat), (34 : Nat))]) ∈ lw_all := lw_all_of (lw_in4 (List.mem_of_getElem? (i := 73) rfl)) rfl
theorem q794 : (Jvm.Cond.methodLink "PegshoreHouseLaw" (75 : Nat) ({ cls := "PegshoreHouse", name := "weight", desc := "(I)I" } : Jvm.MethodName)) ∈ lw_all := lw_all_of (lw_in4 (List.mem_of_getElem? (i := 74) rfl)) rfl
theorem q795 : (Jvm.Cond.instanceMethod ({ cls := "PegshoreHouse", name := "weight", desc := "(I)I" } : Jvm.MethodName)) ∈ lw_all := lw_all_of (lw_in4 (List.mem_of_getElem? (i := 75) rfl)) rfl
theorem q796 : (Jvm.Cond.selects "PegshoreHouse" ({ cls := "PegshoreHouse", name := "weight", desc := "(I)I" } : Jvm.MethodName) ({ cls := "PegshoreHouse", name := "weight", desc := "(I)I" } : Jvm.MethodName)) ∈ lw_all := lw_all_of (lw_in4 (List.mem_of_getElem? (i := 76) rfl)) rfl
theorem q797 : (Jvm.Cond.code ({ cls := "PegshoreHouse", name := "weight", desc := "(I)I" } : Jvm.MethodName) prog_1_method_30_code (2 : Nat) (Option.some Jvm.ClassFile.FieldType.int)) ∈ lw_all := lw_all_of (lw_in4 (List.mem_of_getElem? (i := 77) rfl)) rfl
theorem q798 : (Jvm.Cond.methodLink "PegshoreHouseLaw" (222 : Nat) ({ cls := "PegshoreHouseLaw", name := "fault", desc := "(LPegshoreHouse;[J)I" } : Jvm.MethodName)) ∈ lw_all := lw_all_of (lw_in4 (List.mem_of_getElem? (i := 78) rfl)) rfl
theorem q799 : (Jvm.Cond.static ({ cls := "PegshoreHouseLaw", name := "fault", desc := "(LPegshoreHouse;[J)I" } : Jvm.MethodName)) ∈ lw_all := lw_all_of (lw_in4 (List.mem_of_getElem? (i := 79) rfl)) rfl
theorem q800 : (Jvm.Cond.codeWith ({ cls := "PegshoreHouseLaw", name := "fault", desc := "(LPegshoreHouse;[J)I" } : Jvm.MethodName) method_21_code (3 : Nat) (Option.some Jvm.ClassFile.FieldType.int) [((0 : Nat), (8 : Nat), (11 : Nat), (29 : Nat))]) ∈ lw_all := lw_all_of (lw_in4 (List.mem_of_getElem? (i := 80) rfl)) rfl
theorem q801 : (Jvm.Cond.methodLink "PegshoreHouseLaw" (78 : Nat) ({ cls := "PegshoreHouse", name := "fault", desc := "()I" } : Jvm.MethodName)) ∈ lw_all := lw_all_of (lw_in4 (List.mem_of_getElem? (i := 81) rfl)) rfl
theorem q802 : (Jvm.Cond.instanceMethod ({ cls := "PegshoreHouse", name := "fault", desc := "()I" } : Jvm.MethodName)) ∈ lw_all := lw_all_of (lw_in4 (List.mem_of_getElem? (i := 82) rfl)) rfl
theorem q803 : (Jvm.Cond.selects "PegshoreHouse" ({ cls := "PegshoreHouse", name := "fault", desc := "()I" } : Jvm.MethodName) ({ cls := "PegshoreHouse", name := "fault", desc := "()I" } : Jvm.MethodName)) ∈ lw_all := lw_all_of (lw_in4 (List.mem_of_getElem? (i := 83) rfl)) rfl
theorem q804 : (Jvm.Cond.code ({ cls := "PegshoreHouse", name := "fault", desc := "()I" } : Jvm.MethodName) prog_1_method_32_code (2 : Nat) (Option.some Jvm.ClassFile.FieldType.int)) ∈ lw_all := lw_all_of (lw_in4 (List.mem_of_getElem? (i := 84) rfl)) rfl
theorem q806 : (Jvm.Cond.methodLink "PegshoreHouseLaw" (230 : Nat) ({ cls := "PegshoreHouseLaw", name := "colour", desc := "(LPegshoreHouse;II[J)I" } : Jvm.MethodName)) ∈ lw_all := lw_all_of (lw_in4 (List.mem_of_getElem? (i := 86) rfl)) rfl
theorem q807 : (Jvm.Cond.static ({ cls := "PegshoreHouseLaw", name := "colour", desc := "(LPegshoreHouse;II[J)I" } : Jvm.MethodName)) ∈ lw_all := lw_all_of (lw_in4 (List.mem_of_getElem? (i := 87) rfl)) rfl
theorem q808 : (Jvm.Cond.codeWith ({ cls := "PegshoreHouseLaw", name := "colour", desc := "(LPegshoreHouse;II[J)I" } : Jvm.MethodName) method_22_code (5 : Nat) (Option.some Jvm.ClassFile.FieldType.int) [((0 : Nat), (10 : Nat), (13 : Nat), (34 : Nat)), ((0 : Nat), (10 : Nat), (17 : Nat), (13 : Nat))]) ∈ lw_all := lw_all_of (lw_in4 (List.mem_of_getElem? (i := 88) rfl)) rfl
theorem q809 : (Jvm.Cond.methodLink "PegshoreHouseLaw" (81 : Nat) ({ cls := "PegshoreHouse", name := "colour", desc := "(II)I" } : Jvm.MethodName)) ∈ lw_all := lw_all_of (lw_in4 (List.mem_of_getElem? (i := 89) rfl)) rfl
theorem q810 : (Jvm.Cond.instanceMethod ({ cls := "PegshoreHouse", name := "colour", desc := "(II)I" } : Jvm.MethodName)) ∈ lw_all := lw_all_of (lw_in4 (List.mem_of_getElem? (i := 90) rfl)) rfl
theorem q811 : (Jvm.Cond.selects "PegshoreHouse" ({ cls := "PegshoreHouse", name := "colour", desc := "(II)I" } : Jvm.MethodName) ({ cls := "PegshoreHouse", name := "colour", desc := "(II)I" } : Jvm.MethodName)) ∈ lw_all := lw_all_of (lw_in4 (List.mem_of_getElem? (i := 91) rfl)) rfl
theorem q812 : (Jvm.Cond.code ({ cls := "PegshoreHouse", name := "colour", desc := "(II)I" } : Jvm.MethodName) prog_1_method_34_code (3 : Nat) (Option.some Jvm.ClassFile.FieldType.int)) ∈ lw_all := lw_all_of (lw_in4 (List.mem_of_getElem? (i := 92) rfl)) rfl
theorem q813 : (Jvm.Cond.methodLink "PegshoreHouse" (230 : Nat) ({ cls := "PegshoreHouse", name := "requireColouring", desc := "(I)V" } : Jvm.MethodName)) ∈ lw_all := lw_all_of (lw_in4 (List.mem_of_getElem? (i := 93) rfl)) rfl
theorem q814 : (Jvm.Cond.static ({ cls := "PegshoreHouse", name := "requireColouring", desc := "(I)V" } : Jvm.MethodName)) ∈ lw_all := lw_all_of (lw_in4 (List.mem_of_getElem? (i := 94) rfl)) rfl
theorem q815 : (Jvm.Cond.code ({ cls := "PegshoreHouse", name := "requireColouring", desc := "(I)V" } : Jvm.MethodName) prog_1_method_49_code (1 : Nat) (Option.none : Option Jvm.ClassFile.FieldType)) ∈ lw_all := lw_all_of (lw_in4 (List.mem_of_getElem? (i := 95) rfl)) rfl
theorem q817 : (Jvm.Cond.methodLink "PegshoreHouse" (233 : Nat) ({ cls := "PegshoreHouse$Board", name := "colourOf", desc := "(II)I" } : Jvm.MethodName)) ∈ lw_all := lw_all_of (lw_in4 (List.mem_of_getElem? (i := 97) rfl)) rfl
theorem q818 : (Jvm.Cond.methodLink "PegshoreHouseLaw" (233 : Nat) ({ cls := "PegshoreHouseLaw", name := "isFit", desc := "(LPegshoreHouse;I[J)I" } : Jvm.MethodName)) ∈ lw_all := lw_all_of (lw_in4 (List.mem_of_getElem? (i := 98) rfl)) rfl
theorem q819 : (Jvm.Cond.static ({ cls := "PegshoreHouseLaw", name := "isFit", desc := "(LPegshoreHouse;I[J)I" } : Jvm.MethodName)) ∈ lw_all := lw_all_of (lw_in4 (List.mem_of_getElem? (i := 99) rfl)) rfl
theorem q820 : (Jvm.Cond.codeWith ({ cls := "PegshoreHouseLaw", name := "isFit", desc := "(LPegshoreHouse;I[J)I" } : Jvm.MethodName) method_23_code (4 : Nat) (Option.some Jvm.ClassFile.FieldType.int) [((0 : Nat), (16 : Nat), (19 : Nat), (13 : Nat))]) ∈ lw_all := lw_all_of (lw_in4 (List.mem_of_getElem? (i := 100) rfl)) rfl
theorem q821 : (Jvm.Cond.methodLink "PegshoreHouseLaw" (84 : Nat) ({ cls := "PegshoreHouse", name := "isFit", desc := "(I)Z" } : Jvm.MethodName)) ∈ lw_all := lw_all_of (lw_in4 (List.mem_of_getElem? (i := 101) rfl)) rfl
theorem q822 : (Jvm.Cond.instanceMethod ({ cls := "PegshoreHouse", name := "isFit", desc := "(I)Z" } : Jvm.MethodName)) ∈ lw_all := lw_all_of (lw_in4 (List.mem_of_getElem? (i := 102) rfl)) rfl
theorem q823 : (Jvm.Cond.selects "PegshoreHouse" ({ cls := "PegshoreHouse", name := "isFit", desc := "(I)Z" } : Jvm.MethodName) ({ cls := "PegshoreHouse", name := "isFit", desc := "(I)Z" } : Jvm.MethodName)) ∈ lw_all := lw_all_of (lw_in4 (List.mem_of_getElem? (i := 103) rfl)) rfl
theorem q824 : (Jvm.Cond.code ({ cls := "PegshoreHouse", name := "isFit", desc := "(I)Z" } : Jvm.MethodName) prog_1_method_35_code (2 : Nat) (Option.some Jvm.ClassFile.FieldType.boolean)) ∈ lw_all := lw_all_of (lw_in4 (List.mem_of_getElem? (i := 104) rfl)) rfl
theorem q825 : (Jvm.Cond.methodLink "PegshoreHouseLaw" (240 : Nat) ({ cls := "PegshoreHouseLaw", name := "winning", desc := "(LPegshoreHouse;[J)I" } : Jvm.MethodName)) ∈ lw_all := lw_all_of (lw_in4 (List.mem_of_getElem? (i := 105) rfl)) rfl
theorem q826 : (Jvm.Cond.static ({ cls := "PegshoreHouseLaw", name := "winning", desc := "(LPegshoreHouse;[J)I" } : Jvm.MethodName)) ∈ lw_all := lw_all_of (lw_in4 (List.mem_of_getElem? (i := 106) rfl)) rfl
theorem q827 : (Jvm.Cond.codeWith ({ cls := "PegshoreHouseLaw", name := "winning", desc := "(LPegshoreHouse;[J)I" } : Jvm.MethodName) method_24_code (3 : Nat) (Option.some Jvm.ClassFile.FieldType.int) [((0 : Nat), (8 : Nat), (11 : Nat), (29 : Nat))]) ∈ lw_all := lw_all_of (lw_in4 (List.mem_of_getElem? (i := 107) rfl)) rfl
theorem q828 : (Jvm.Cond.methodLink "PegshoreHouseLaw" (88 : Nat) ({ cls := "PegshoreHouse", name := "winning", desc := "()I" } : Jvm.MethodName)) ∈ lw_all := lw_all_of (lw_in4 (List.mem_of_getElem? (i := 108) rfl)) rfl
theorem q829 : (Jvm.Cond.instanceMethod ({ cls := "PegshoreHouse", name := "winning", desc := "()I" } : Jvm.MethodName)) ∈ lw_all := lw_all_of (lw_in4 (List.mem_of_getElem? (i := 109) rfl)) rfl
theorem q830 : (Jvm.Cond.selects "PegshoreHouse" ({ cls := "PegshoreHouse", name := "winning", desc := "()I" } : Jvm.MethodName) ({ cls := "PegshoreHouse", name := "winning", desc := "()I" } : Jvm.MethodName)) ∈ lw_all := lw_all_of (lw_in4 (List.mem_of_getElem? (i := 110) rfl)) rfl
theorem q831 : (Jvm.Cond.code ({ cls := "PegshoreHouse", name := "winning", desc := "()I" } : Jvm.MethodName) prog_1_method_37_code (2 : Nat) (Option.some Jvm.ClassFile.FieldType.int)) ∈ lw_all := lw_all_of (lw_in4 (List.mem_of_getElem? (i := 111) rfl)) rfl
theorem q833 : (Jvm.Cond.methodLink "PegshoreHouseLaw" (243 : Nat) ({ cls := "PegshoreHouseLaw", name := "tell", desc := "(LPegshoreHouse;I[J)I" } : Jvm.MethodName)) ∈ lw_all := lw_all_of (lw_in4 (List.mem_of_getElem? (i := 113) rfl)) rfl
theorem q834 : (Jvm.Cond.static ({ cls := "PegshoreHouseLaw", name := "tell", desc := "(LPegshoreHouse;I[J)I" } : Jvm.MethodName)) ∈ lw_all := lw_all_of (lw_in4 (List.mem_of_getElem? (i := 114) rfl)) rfl
theorem q835 : (Jvm.Cond.codeWith ({ cls := "PegshoreHouseLaw", name := "tell", desc := "(LPegshoreHouse;I[J)I" } : Jvm.MethodName) method_25_code (4 : Nat) (Option.some Jvm.ClassFile.FieldType.int) [((0 : Nat), (9 : Nat), (12 : Nat), (34 : Nat)), ((0 : Nat), (9 : Nat), (15 : Nat), (21 : Nat))]) ∈ lw_all := lw_all_of (lw_in4 (List.mem_of_getElem? (i := 115) rfl)) rfl
theorem q836 : (Jvm.Cond.methodLink "PegshoreHouseLaw" (91 : Nat) ({ cls := "PegshoreHouse", name := "tell", desc := "(I)I" } : Jvm.MethodName)) ∈ lw_all := lw_all_of (lw_in4 (List.mem_of_getElem? (i := 116) rfl)) rfl
theorem q837 : (Jvm.Cond.instanceMethod ({ cls := "PegshoreHouse", name := "tell", desc := "(I)I" } : Jvm.MethodName)) ∈ lw_all := lw_all_of (lw_in4 (List.mem_of_getElem? (i := 117) rfl)) rfl
theorem q838 : (Jvm.Cond.selects "PegshoreHouse" ({ cls := "PegshoreHouse", name := "tell", desc := "(I)I" } : Jvm.MethodName) ({ cls := "PegshoreHouse", name := "tell", desc := "(I)I" } : Jvm.MethodName)) ∈ lw_all := lw_all_of (lw_in4 (List.mem_of_getElem? (i := 118) rfl)) rfl
theorem q839 : (Jvm.Cond.code ({ cls := "PegshoreHouse", name := "tell", desc := "(I)I" } : Jvm.MethodName) prog_1_method_38_code (2 : Nat) (Option.some Jvm.ClassFile.FieldType.int)) ∈ lw_all := lw_all_of (lw_in4 (List.mem_of_getElem? (i := 119) rfl)) rfl
theorem q841 : (Jvm.Cond.methodLink "PegshoreHouseLaw" (246 : Nat) ({ cls := "PegshoreHouseLaw", name := "play", desc := "(LPegshoreHouse;[J)I" } : Jvm.MethodName)) ∈ lw_all := lw_all_of (lw_in4 (List.mem_of_getElem? (i := 121) rfl)) rfl
theorem q842 : (Jvm.Cond.static ({ cls := "PegshoreHouseLaw", name := "play", desc := "(LPegshoreHouse;[J)I" } : Jvm.MethodName)) ∈ lw_all := lw_all_of (lw_in4 (List.mem_of_getElem? (i := 122) rfl)) rfl
theorem q843 : (Jvm.Cond.codeWith ({ cls := "PegshoreHouseLaw", name := "play", desc := "(LPegshoreHouse;[J)I" } : Jvm.MethodName) method_26_code (3 : Nat) (Option.some Jvm.ClassFile.FieldType.int) [((0 : Nat), (8 : Nat), (11 : Nat), (19 : Nat))]) ∈ lw_all := lw_all_of (lw_in4 (List.mem_of_getElem? (i := 123) rfl)) rfl
theorem q844 : (Jvm.Cond.methodLink "PegshoreHouseLaw" (94 : Nat) ({ cls := "PegshoreHouse", name := "play", desc := "()I" } : Jvm.MethodName)) ∈ lw_all := lw_all_of (lw_in4 (List.mem_of_getElem? (i := 124) rfl)) rfl
theorem q845 : (Jvm.Cond.instanceMethod ({ cls := "PegshoreHouse", name := "play", desc := "()I" } : Jvm.MethodName)) ∈ lw_all := lw_all_of (lw_in4 (List.mem_of_getElem? (i := 125) rfl)) rfl
theorem q846 : (Jvm.Cond.selects "PegshoreHouse" ({ cls := "PegshoreHouse", name := "play", desc := "()I" } : Jvm.MethodName) ({ cls := "PegshoreHouse", name := "play", desc := "()I" } : Jvm.MethodName)) ∈ lw_all := lw_all_of (lw_in4 (List.mem_of_getElem? (i := 126) rfl)) rfl
theorem q847 : (Jvm.Cond.code ({ cls := "PegshoreHouse", name := "play", desc := "()I" } : Jvm.MethodName) prog_1_method_39_code (5 : Nat) (Option.some Jvm.ClassFile.FieldType.int)) ∈ lw_all := lw_all_of (lw_in4 (List.mem_of_getElem? (i := 127) rfl)) rfl
theorem q848 : (Jvm.Cond.methodLink "PegshoreHouse" (246 : Nat) ({ cls := "PegshoreHouse", name := "rowFault", desc := "()I" } : Jvm.MethodName)) ∈ lw_all := lw_all_of (lw_in4 (List.mem_of_getElem? (i := 128) rfl)) rfl
theorem q850 : (Jvm.Cond.instanceMethod ({ cls := "PegshoreHouse", name := "rowFault", desc := "()I" } : Jvm.MethodName)) ∈ lw_all := lw_all_of (lw_in4 (List.mem_of_getElem? (i := 130) rfl)) rfl
theorem q851 : (Jvm.Cond.code ({ cls := "PegshoreHouse", name := "rowFault", desc := "()I" } : Jvm.MethodName) prog_1_method_56_code (4 : Nat) (Option.some Jvm.ClassFile.FieldType.int)) ∈ lw_all := lw_all_of (lw_in4 (List.mem_of_getElem? (i := 131) rfl)) rfl
theorem q853 : (Jvm.Cond.methodLink "PegshoreHouseLaw" (249 : Nat) ({ cls := "PegshoreHouseLaw", name := "faultAt", desc := "(LPegshoreHouse;[J)I" } : Jvm.MethodName)) ∈ lw_all := lw_all_of (lw_in4 (List.mem_of_getElem? (i := 133) rfl)) rfl
theorem q854 : (Jvm.Cond.static ({ cls := "PegshoreHouseLaw", name := "faultAt", desc := "(LPegshoreHouse;[J)I" } : Jvm.MethodName)) ∈ lw_all := lw_all_of (lw_in4 (List.mem_of_getElem? (i := 134) rfl)) rfl
theorem q855 : (Jvm.Cond.codeWith ({ cls := "PegshoreHouseLaw", name := "faultAt", desc := "(LPegshoreHouse;[J)I" } : Jvm.MethodName) method_27_code (3 : Nat) (Option.some Jvm.ClassFile.FieldType.int) [((0 : Nat), (8 : Nat), (11 : Nat), (29 : Nat))]) ∈ lw_all := lw_all_of (lw_in4 (List.mem_of_getElem? (i := 135) rfl)) rfl
theorem q856 : (Jvm.Cond.methodLink "PegshoreHouseLaw" (97 : Nat) ({ cls := "PegshoreHouse", name := "faultAt", desc := "()I" } : Jvm.MethodName)) ∈ lw_all := lw_all_of (lw_in4 (List.mem_of_getElem? (i := 136) rfl)) rfl
theorem q857 : (Jvm.Cond.instanceMethod ({ cls := "PegshoreHouse", name := "faultAt", desc := "()I" } : Jvm.MethodName)) ∈ lw_all := lw_all_of (lw_in4 (List.mem_of_getElem? (i := 137) rfl)) rfl
theorem q858 : (Jvm.Cond.selects "PegshoreHouse" ({ cls := "PegshoreHouse", name := "faultAt", desc := "()I" } : Jvm.MethodName) ({ cls := "PegshoreHouse", name := "faultAt", desc := "()I" } : Jvm.MethodName)) ∈ lw_all := lw_all_of (lw_in4 (List.mem_of_getElem? (i := 138) rfl)) rfl
theorem q859 : (Jvm.Cond.code ({ cls := "PegshoreHouse", name := "faultAt", desc := "()I" } : Jvm.MethodName) prog_1_method_40_code (2 : Nat) (Option.some Jvm.ClassFile.FieldType.int)) ∈ lw_all := lw_all_of (lw_in4 (List.mem_of_getElem? (i := 139) rfl)) rfl
theorem q861 : (Jvm.Cond.methodLink "PegshoreHouseLaw" (260 : Nat) ({ cls := "PegshoreHouseLaw", name := "pegBits", desc := "(LPegshoreHouse;[J)I" } : Jvm.MethodName)) ∈ lw_all := lw_all_of (lw_in4 (List.mem_of_getElem? (i := 141) rfl)) rfl
theorem q862 : (Jvm.Cond.static ({ cls := "PegshoreHouseLaw", name := "pegBits", desc := "(LPegshoreHouse;[J)I" } : Jvm.MethodName)) ∈ lw_all := lw_all_of (lw_in4 (List.mem_of_getElem? (i := 142) rfl)) rfl
theorem q863 : (Jvm.Cond.codeWith ({ cls := "PegshoreHouseLaw", name := "pegBits", desc := "(LPegshoreHouse;[J)I" } : Jvm.MethodName) method_28_code (3 : Nat) (Option.some Jvm.ClassFile.FieldType.int) [((0 : Nat), (8 : Nat), (11 : Nat), (103 : Nat))]) ∈ lw_all := lw_all_of (lw_in4 (List.mem_of_getElem? (i := 143) rfl)) rfl
theorem q864 : (Jvm.Cond.classLink "PegshoreHouseLaw" (103 : Nat) "java/lang/ArithmeticException") ∈ lw_all := lw_all_of (lw_in4 (List.mem_of_getElem? (i := 144) rfl)) rfl
theorem q865 : (Jvm.Cond.instantiable "java/lang/ArithmeticException" (6 : Nat)) ∈ lw_all := lw_all_of (lw_in4 (List.mem_of_getElem? (i := 145) rfl)) rfl
theorem q866 : (Jvm.Cond.instanceMethod ({ cls := "java/lang/ArithmeticException", name := "<init>", desc := "(Ljava/lang/String;)V" } : Jvm.MethodName)) ∈ lw_all := lw_all_of (lw_in4 (List.mem_of_getElem? (i := 146) rfl)) rfl
theorem q867 : (Jvm.Cond.code ({ cls := "java/lang/ArithmeticException", name := "<init>", desc := "(Ljava/lang/String;)V" } : Jvm.MethodName) prog_10_method_2_code (2 : Nat) (Option.none : Option Jvm.ClassFile.FieldType)) ∈ lw_all := lw_all_of (lw_in4 (List.mem_of_getElem? (i := 147) rfl)) rfl
theorem q868 : (Jvm.Cond.methodLink "java/lang/ArithmeticException" (7 : Nat) ({ cls := "java/lang/RuntimeException", name := "<init>", desc := "(Ljava/lang/String;)V" } : Jvm.MethodName)) ∈ lw_all := lw_all_of (lw_in4 (List.mem_of_getElem? (i := 148) rfl)) rfl
theorem q869 : (Jvm.Cond.lays "java/lang/ArithmeticException" "java/lang/Throwable" "backtrace" "Ljava/lang/Object;") ∈ lw_all := lw_all_of (lw_in4 (List.mem_of_getElem? (i := 149) rfl)) rfl
theorem q870 : (Jvm.Cond.lays "java/lang/ArithmeticException" "java/lang/Throwable" "detailMessage" "Ljava/lang/String;") ∈ lw_all := lw_all_of (lw_in4 (List.mem_of_getElem? (i := 150) rfl)) rfl
theorem q871 : (Jvm.Cond.lays "java/lang/ArithmeticException" "java/lang/Throwable" "cause" "Ljava/lang/Throwable;") ∈ lw_all := lw_all_of (lw_in4 (List.mem_of_getElem? (i := 151) rfl)) rfl
theorem q872 : (Jvm.Cond.lays "java/lang/ArithmeticException" "java/lang/Throwable" "stackTrace" "[Ljava/lang/StackTraceElement;") ∈ lw_all := lw_all_of (lw_in4 (List.mem_of_getElem? (i := 152) rfl)) rfl
theorem q873 : (Jvm.Cond.lays "java/lang/ArithmeticException" "java/lang/Throwable" "depth" "I") ∈ lw_all := lw_all_of (lw_in4 (List.mem_of_getElem? (i := 153) rfl)) rfl
theorem q874 : (Jvm.Cond.lays "java/lang/ArithmeticException" "java/lang/Throwable" "suppressedExceptions" "Ljava/util/List;") ∈ lw_all := lw_all_of (lw_in4 (List.mem_of_getElem? (i := 154) rfl)) rfl
theorem q875 : (Jvm.Cond.superclass "java/lang/ArithmeticException" "java/lang/RuntimeException") ∈ lw_all := lw_all_of (lw_in4 (List.mem_of_getElem? (i := 155) rfl)) rfl
theorem q877 : (Jvm.Cond.selects "java/lang/ArithmeticException" ({ cls := "java/lang/Throwable", name := "fillInStackTrace", desc := "(I)Ljava/lang/Throwable;" } : Jvm.MethodName) ({ cls := "java/lang/Throwable", name := "fillInStackTrace", desc := "(I)Ljava/lang/Throwable;" } : Jvm.MethodName)) ∈ lw_all := lw_all_of (lw_in4 (List.mem_of_getElem? (i := 157) rfl)) rfl
theorem q878 : (Jvm.Cond.methodLink "PegshoreHouseLaw" (100 : Nat) ({ cls := "PegshoreHouse", name := "pegBits", desc := "()I" } : Jvm.MethodName)) ∈ lw_all := lw_all_of (lw_in4 (List.mem_of_getElem? (i := 158) rfl)) rfl
theorem q879 : (Jvm.Cond.instanceMethod ({ cls := "PegshoreHouse", name := "pegBits", desc := "()I" } : Jvm.MethodName)) ∈ lw_all := lw_all_of (lw_in4 (List.mem_of_getElem? (i := 159) rfl)) rfl
theorem q880 : (Jvm.Cond.selects "PegshoreHouse" ({ cls := "PegshoreHouse", name := "pegBits", desc := "()I" } : Jvm.MethodName) ({ cls := "PegshoreHouse", name := "pegBits", desc := "()I" } : Jvm.MethodName)) ∈ lw_all := lw_all_of (lw_in4 (List.mem_of_getElem? (i := 160) rfl)) rfl
theorem q881 : (Jvm.Cond.code ({ cls := "PegshoreHouse", name := "pegBits", desc := "()I" } : Jvm.MethodName) prog_1_method_43_code (2 : Nat) (Option.some Jvm.ClassFile.FieldType.int)) ∈ lw_all := lw_all_of (lw_in4 (List.mem_of_getElem? (i := 161) rfl)) rfl
theorem q882 : (Jvm.Cond.classLink "PegshoreHouse" (257 : Nat) "java/lang/ArithmeticException") ∈ lw_all := lw_all_of (lw_in4 (List.mem_of_getElem? (i := 162) rfl)) rfl
theorem q884 : (Jvm.Cond.methodLink "PegshoreHouse" (261 : Nat) ({ cls := "java/lang/ArithmeticException", name := "<init>", desc := "(Ljava/lang/String;)V" } : Jvm.MethodName)) ∈ lw_all := lw_all_of (lw_in4 (List.mem_of_getElem? (i := 164) rfl)) rfl
theorem q885 : (Jvm.Cond.methodLink "PegshoreHouse" (262 : Nat) ({ cls := "PegshoreHouse", name := "floatBits", desc := "(F)I" } : Jvm.MethodName)) ∈ lw_all := lw_all_of (lw_in4 (List.mem_of_getElem? (i := 165) rfl)) rfl
theorem q886 : (Jvm.Cond.static ({ cls := "PegshoreHouse", name := "floatBits", desc := "(F)I" } : Jvm.MethodName)) ∈ lw_all := lw_all_of (lw_in4 (List.mem_of_getElem? (i := 166) rfl)) rfl
theorem q887 : (Jvm.Cond.code ({ cls := "PegshoreHouse", name := "floatBits", desc := "(F)I" } : Jvm.MethodName) prog_1_method_57_code (3 : Nat) (Option.some Jvm.ClassFile.FieldType.int)) ∈ lw_all := lw_all_of (lw_in4 (List.mem_of_getElem? (i := 167) rfl)) rfl
theorem q888 : (Jvm.Cond.constantFloat "PegshoreHouse" (298 : Nat) (1258291200 : UInt32)) ∈ lw_all := lw_all_of (lw_in4 (List.mem_of_getElem? (i := 168) rfl)) rfl
theorem q889 : (Jvm.Cond.classLink "PegshoreHouseLaw" (106 : Nat) "PegshoreHouseModel") ∈ lw_all := lw_all_of (lw_in4 (List.mem_of_getElem? (i := 169) rfl)) rfl
theorem q890 : (Jvm.Cond.instantiable "PegshoreHouseModel" (19 : Nat)) ∈ lw_all := lw_all_of (lw_in4 (List.mem_of_getElem? (i := 170) rfl)) rfl
theorem q891 : (Jvm.Cond.methodLink "PegshoreHouseLaw" (108 : Nat) ({ cls := "PegshoreHouseModel", name := "<init>", desc := "()V" } : Jvm.MethodName)) ∈ lw_all := lw_all_of (lw_in4 (List.mem_of_getElem? (i := 171) rfl)) rfl
theorem q892 : (Jvm.Cond.instanceMethod ({ cls := "PegshoreHouseModel", name := "<init>", desc := "()V" } : Jvm.MethodName)) ∈ lw_all := lw_all_of (lw_in4 (List.mem_of_getElem? (i := 172) rfl)) rfl
theorem q893 : (Jvm.Cond.code ({ cls := "PegshoreHouseModel", name := "<init>", desc := "()V" } : Jvm.MethodName) prog_6_method_1_code (1 : Nat) (Option.none : Option Jvm.ClassFile.FieldType)) ∈ lw_all := lw_all_of (lw_in4 (List.mem_of_getElem? (i := 173) rfl)) rfl
theorem q894 : (Jvm.Cond.methodLink "PegshoreHouseModel" (1 : Nat) ({ cls := "java/lang/Object", name := "<init>", desc := "()V" } : Jvm.MethodName)) ∈ lw_all := lw_all_of (lw_in4 (List.mem_of_getElem? (i := 174) rfl)) rfl
theorem q895 : (Jvm.Cond.classLink "PegshoreHouseModel" (28 : Nat) "java/util/ArrayList") ∈ lw_all := lw_all_of (lw_in4 (List.mem_of_getElem? (i := 175) rfl)) rfl
theorem q896 : (Jvm.Cond.instantiable "java/util/ArrayList" (3 : Nat)) ∈ lw_all := lw_all_of (lw_in4 (List.mem_of_getElem? (i := 176) rfl)) rfl
theorem q897 : (Jvm.Cond.methodLink "PegshoreHouseModel" (30 : Nat) ({ cls := "java/util/ArrayList", name := "<init>", desc := "()V" } : Jvm.MethodName)) ∈ lw_all := lw_all_of (lw_in4 (List.mem_of_getElem? (i := 177) rfl)) rfl
theorem q898 : (Jvm.Cond.instanceMethod ({ cls := "java/util/ArrayList", name := "<init>", desc := "()V" } : Jvm.MethodName)) ∈ lw_all := lw_all_of (lw_in4 (List.mem_of_getElem? (i := 178) rfl)) rfl
theorem q899 : (Jvm.Cond.code ({ cls := "java/util/ArrayList", name := "<init>", desc := "()V" } : Jvm.MethodName) prog_38_method_2_code (1 : Nat) (Option.none : Option Jvm.ClassFile.FieldType)) ∈ lw_all := lw_all_of (lw_in4 (List.mem_of_getElem? (i := 179) rfl)) rfl
theorem q900 : (Jvm.Cond.methodLink "java/util/ArrayList" (1 : Nat) ({ cls := "java/util/AbstractList", name := "<init>", desc := "()V" } : Jvm.MethodName)) ∈ lw_all := lw_all_of (lw_in4 (List.mem_of_getElem? (i := 180) rfl)) rfl
theorem q901 : (Jvm.Cond.instanceMethod ({ cls := "java/util/AbstractList", name := "<init>", desc := "()V" } : Jvm.MethodName)) ∈ lw_all := lw_all_of (lw_in4 (List.mem_of_getElem? (i := 181) rfl)) rfl
theorem q902 : (Jvm.Cond.code ({ cls := "java/util/AbstractList", name := "<init>", desc := "()V" } : Jvm.MethodName) prog_37_method_1_code (1 : Nat) (Option.none : Option Jvm.ClassFile.FieldType)) ∈ lw_all := lw_all_of (lw_in4 (List.mem_of_getElem? (i := 182) rfl)) rfl
theorem q903 : (Jvm.Cond.methodLink "java/util/AbstractList" (1 : Nat) ({ cls := "java/util/AbstractCollection", name := "<init>", desc := "()V" } : Jvm.MethodName)) ∈ lw_all := lw_all_of (lw_in4 (List.mem_of_getElem? (i := 183) rfl)) rfl
theorem q904 : (Jvm.Cond.instanceMethod ({ cls := "java/util/AbstractCollection", name := "<init>", desc := "()V" } : Jvm.MethodName)) ∈ lw_all := lw_all_of (lw_in4 (List.mem_of_getElem? (i := 184) rfl)) rfl
theorem q905 : (Jvm.Cond.code ({ cls := "java/util/AbstractCollection", name := "<init>", desc := "()V" } : Jvm.MethodName) prog_36_method_1_code (1 : Nat) (Option.none : Option Jvm.ClassFile.FieldType)) ∈ lw_all := lw_all_of (lw_in4 (List.mem_of_getElem? (i := 185) rfl)) rfl
theorem q906 : (Jvm.Cond.methodLink "java/util/AbstractCollection" (1 : Nat) ({ cls := "java/lang/Object", name := "<init>", desc := "()V" } : Jvm.MethodName)) ∈ lw_all := lw_all_of (lw_in4 (List.mem_of_getElem? (i := 186) rfl)) rfl
theorem q907 : (Jvm.Cond.fieldLink "java/util/ArrayList" (39 : Nat) "java/util/ArrayList" "DEFAULTCAPACITY_EMPTY_ELEMENTDATA" "[Ljava/lang/Object;") ∈ lw_all := lw_all_of (lw_in4 (List.mem_of_getElem? (i := 187) rfl)) rfl
theorem q909 : (Jvm.Cond.fieldLink "java/util/ArrayList" (9 : Nat) "java/util/ArrayList" "elementData" "[Ljava/lang/Object;") ∈ lw_all := lw_all_of (lw_in4 (List.mem_of_getElem? (i := 189) rfl)) rfl
theorem q910 : (Jvm.Cond.fieldLink "java/util/ArrayList$Itr" (37 : Nat) "java/util/ArrayList" "elementData" "[Ljava/lang/Object;") ∈ lw_all := lw_all_of (lw_in4 (List.mem_of_getElem? (i := 190) rfl)) rfl
theorem q912 : (Jvm.Cond.fieldLink "java/util/ArrayList" (48 : Nat) "java/util/ArrayList" "size" "I") ∈ lw_all := lw_all_of (lw_in4 (List.mem_of_getElem? (i := 192) rfl)) rfl
theorem q913 : (Jvm.Cond.fieldLink "java/util/AbstractList" (7 : Nat) "java/util/AbstractList" "modCount" "I") ∈ lw_all := lw_all_of (lw_in4 (List.mem_of_getElem? (i := 193) rfl)) rfl
theorem q914 : (Jvm.Cond.fieldLink "java/util/ArrayList$Itr" (17 : Nat) "java/util/ArrayList" "modCount" "I") ∈ lw_all := lw_all_of (lw_in4 (List.mem_of_getElem? (i := 194) rfl)) rfl
theorem q915 : (Jvm.Cond.sameField "java/util/ArrayList" "java/util/AbstractList" "modCount" "I") ∈ lw_all := lw_all_of (lw_in4 (List.mem_of_getElem? (i := 195) rfl)) rfl
theorem q916 : (Jvm.Cond.fieldLink "java/util/ArrayList" (63 : Nat) "java/util/ArrayList" "modCount" "I") ∈ lw_all := lw_all_of (lw_in4 (List.mem_of_getElem? (i := 196) rfl)) rfl
theorem q917 : (Jvm.Cond.lays "java/util/ArrayList" "java/util/ArrayList" "elementData" "[Ljava/lang/Object;") ∈ lw_all := lw_all_of (lw_in4 (List.mem_of_getElem? (i := 197) rfl)) rfl
theorem q919 : (Jvm.Cond.lays "java/util/ArrayList" "java/util/ArrayList" "size" "I") ∈ lw_all := lw_all_of (lw_in4 (List.mem_of_getElem? (i := 199) rfl)) rfl
theorem q921 : (Jvm.Cond.lays "java/util/ArrayList" "java/util/AbstractList" "modCount" "I") ∈ lw_all := lw_all_of (lw_in4 (List.mem_of_getElem? (i := 201) rfl)) rfl
theorem q923 : (Jvm.Cond.superclass "java/util/ArrayList" "java/util/AbstractList") ∈ lw_all := lw_all_of (lw_in4 (List.mem_of_getElem? (i := 203) rfl)) rfl
theorem q924 : (Jvm.Cond.classLink "PegshoreHouseModel" (52 : Nat) "[[I") ∈ lw_all := lw_all_of (lw_in4 (List.mem_of_getElem? (i := 204) rfl)) rfl
theorem q926 : (Jvm.Cond.methodLink "PegshoreHouseModel" (57 : Nat) ({ cls := "PegshoreHouseModel", name := "lists", desc := "()V" } : Jvm.MethodName)) ∈ lw_all := lw_all_of (lw_in4 (List.mem_of_getElem? (i := 206) rfl)) rfl
theorem q928 : (Jvm.Cond.instanceMethod ({ cls := "PegshoreHouseModel", name := "lists", desc := "()V" } : Jvm.MethodName)) ∈ lw_all := lw_all_of (lw_in4 (List.mem_of_getElem? (i := 208) rfl)) rfl
theorem q929 : (Jvm.Cond.code ({ cls := "PegshoreHouseModel", name := "lists", desc := "()V" } : Jvm.MethodName) prog_6_method_8_code (6 : Nat) (Option.none : Option Jvm.ClassFile.FieldType)) ∈ lw_all := lw_all_of (lw_in4 (List.mem_of_getElem? (i := 209) rfl)) rfl
theorem q930 : (Jvm.Cond.methodLink "PegshoreHouseModel" (77 : Nat) ({ cls := "PegshoreHouseModel", name := "step", desc := "(II)I" } : Jvm.MethodName)) ∈ lw_all := lw_all_of (lw_in4 (List.mem_of_getElem? (i := 210) rfl)) rfl
theorem q931 : (Jvm.Cond.static ({ cls := "PegshoreHouseModel", name := "step", desc := "(II)I" } : Jvm.MethodName)) ∈ lw_all := lw_all_of (lw_in4 (List.mem_of_getElem? (i := 211) rfl)) rfl
theorem q932 : (Jvm.Cond.code ({ cls := "PegshoreHouseModel", name := "step", desc := "(II)I" } : Jvm.MethodName) prog_6_method_9_code (4 : Nat) (Option.some Jvm.ClassFile.FieldType.int)) ∈ lw_all := lw_all_of (lw_in4 (List.mem_of_getElem? (i := 212) rfl)) rfl
theorem q933 : (Jvm.Cond.fieldLink "PegshoreHouseModel" (86 : Nat) "PegshoreHouseModel" "DOWN" "[I") ∈ lw_all := lw_all_of (lw_in4 (List.mem_of_getElem? (i := 213) rfl)) rfl
theorem q935 : (Jvm.Cond.fieldLink "PegshoreHouseModel" (89 : Nat) "PegshoreHouseModel" "RIGHT" "[I") ∈ lw_all := lw_all_of (lw_in4 (List.mem_of_getElem? (i := 215) rfl)) rfl
theorem q937 : (Jvm.Cond.methodLink "PegshoreHouseModel" (67 : Nat) ({ cls := "PegshoreHouseModel", name := "in", desc := "(III)Z" } : Jvm.MethodName)) ∈ lw_all := lw_all_of (lw_in4 (List.mem_of_getElem? (i := 217) rfl)) rfl
theorem q938 : (Jvm.Cond.static ({ cls := "PegshoreHouseModel", name := "in", desc := "(III)Z" } : Jvm.MethodName)) ∈ lw_all := lw_all_of (lw_in4 (List.mem_of_getElem? (i := 218) rfl)) rfl
theorem q939 : (Jvm.Cond.code ({ cls := "PegshoreHouseModel", name := "in", desc := "(III)Z" } : Jvm.MethodName) prog_6_method_4_code (3 : Nat) (Option.some Jvm.ClassFile.FieldType.boolean)) ∈ lw_all := lw_all_of (lw_in4 (List.mem_of_getElem? (i := 219) rfl)) rfl
theorem q941 : (Jvm.Cond.methodLink "PegshoreHouseModel" (81 : Nat) ({ cls := "java/util/List", name := "clear", desc := "()V" } : Jvm.MethodName)) ∈ lw_all := lw_all_of (lw_in4 (List.mem_of_getElem? (i := 221) rfl)) rfl
theorem q945 : (Jvm.Cond.selects "java/util/ArrayList" ({ cls := "java/util/List", name := "clear", desc := "()V" } : Jvm.MethodName) ({ cls := "java/util/ArrayList", name := "clear", desc := "()V" } : Jvm.MethodName)) ∈ lw_all := lw_all_of (lw_in4 (List.mem_of_getElem? (i := 225) rfl)) rfl
theorem q947 : (Jvm.Cond.instanceMethod ({ cls := "java/util/ArrayList", name := "clear", desc := "()V" } : Jvm.MethodName)) ∈ lw_all := lw_all_of (lw_in4 (List.mem_of_getElem? (i := 227) rfl)) rfl
theorem q949 : (Jvm.Cond.code ({ cls := "java/util/ArrayList", name := "clear", desc := "()V" } : Jvm.MethodName) prog_38_method_40_code (4 : Nat) (Option.none : Option Jvm.ClassFile.FieldType)) ∈ lw_all := lw_all_of (lw_in4 (List.mem_of_getElem? (i := 229) rfl)) rfl
theorem q950 : (Jvm.Cond.fieldLink "PegshoreHouseModel" (9 : Nat) "PegshoreHouseModel" "holes" "[I") ∈ lw_all := lw_all_of (lw_in4 (List.mem_of_getElem? (i := 230) rfl)) rfl
theorem q951 : (Jvm.Cond.fieldLink "PegshoreHouseModel" (13 : Nat) "PegshoreHouseModel" "cells" "[I") ∈ lw_all := lw_all_of (lw_in4 (List.mem_of_getElem? (i := 231) rfl)) rfl
theorem q952 : (Jvm.Cond.fieldLink "PegshoreHouseModel" (16 : Nat) "PegshoreHouseModel" "weights" "[I") ∈ lw_all := lw_all_of (lw_in4 (List.mem_of_getElem? (i := 232) rfl)) rfl
theorem q953 : (Jvm.Cond.fieldLink "PegshoreHouseModel" (19 : Nat) "PegshoreHouseModel" "from" "[I") ∈ lw_all := lw_all_of (lw_in4 (List.mem_of_getElem? (i := 233) rfl)) rfl
theorem q954 : (Jvm.Cond.fieldLink "PegshoreHouseModel" (22 : Nat) "PegshoreHouseModel" "over" "[I") ∈ lw_all := lw_all_of (lw_in4 (List.mem_of_getElem? (i := 234) rfl)) rfl
theorem q955 : (Jvm.Cond.fieldLink "PegshoreHouseModel" (25 : Nat) "PegshoreHouseModel" "to" "[I") ∈ lw_all := lw_all_of (lw_in4 (List.mem_of_getElem? (i := 235) rfl)) rfl
theorem q956 : (Jvm.Cond.fieldLink "PegshoreHouseModel" (31 : Nat) "PegshoreHouseModel" "made" "Ljava/util/List;") ∈ lw_all := lw_all_of (lw_in4 (List.mem_of_getElem? (i := 236) rfl)) rfl
theorem q957 : (Jvm.Cond.fieldLink "PegshoreHouseModel" (35 : Nat) "PegshoreHouseModel" "told" "Ljava/util/List;") ∈ lw_all := lw_all_of (lw_in4 (List.mem_of_getElem? (i := 237) rfl)) rfl
theorem q958 : (Jvm.Cond.fieldLink "PegshoreHouseModel" (38 : Nat) "PegshoreHouseModel" "row" "Ljava/util/List;") ∈ lw_all := lw_all_of (lw_in4 (List.mem_of_getElem? (i := 238) rfl)) rfl
theorem q959 : (Jvm.Cond.fieldLink "PegshoreHouseModel" (41 : Nat) "PegshoreHouseModel" "ways" "[J") ∈ lw_all := lw_all_of (lw_in4 (List.mem_of_getElem? (i := 239) rfl)) rfl
theorem q960 : (Jvm.Cond.fieldLink "PegshoreHouseModel" (45 : Nat) "PegshoreHouseModel" "isReached" "[Z") ∈ lw_all := lw_all_of (lw_in5 (List.mem_of_getElem? (i := 0) rfl)) rfl
theorem q961 : (Jvm.Cond.fieldLink "PegshoreHouseModel" (49 : Nat) "PegshoreHouseModel" "values" "[I") ∈ lw_all := lw_all_of (lw_in5 (List.mem_of_getElem? (i := 1) rfl)) rfl
theorem q962 : (Jvm.Cond.fieldLink "PegshoreHouseModel" (54 : Nat) "PegshoreHouseModel" "sweeps" "[[I") ∈ lw_all := lw_all_of (lw_in5 (List.mem_of_getElem? (i := 2) rfl)) rfl
theorem q963 : (Jvm.Cond.fieldLink "PegshoreHouseModel" (64 : Nat) "PegshoreHouseModel" "many" "I") ∈ lw_all := lw_all_of (lw_in5 (List.mem_of_getElem? (i := 3) rfl)) rfl
theorem q964 : (Jvm.Cond.fieldLink "PegshoreHouseModel" (71 : Nat) "PegshoreHouseModel" "jumps" "I") ∈ lw_all := lw_all_of (lw_in5 (List.mem_of_getElem? (i := 4) rfl)) rfl
theorem q965 : (Jvm.Cond.fieldLink "PegshoreHouseModel" (120 : Nat) "PegshoreHouseModel" "position" "I") ∈ lw_all := lw_all_of (lw_in5 (List.mem_of_getElem? (i := 5) rfl)) rfl
theorem q966 : (Jvm.Cond.fieldLink "PegshoreHouseModel" (114 : Nat) "PegshoreHouseModel" "end" "I") ∈ lw_all := lw_all_of (lw_in5 (List.mem_of_getElem? (i := 6) rfl)) rfl
theorem q967 : (Jvm.Cond.fieldLink "PegshoreHouseModel" (74 : Nat) "PegshoreHouseModel" "kind" "I") ∈ lw_all := lw_all_of (lw_in5 (List.mem_of_getElem? (i := 7) rfl)) rfl
theorem q968 : (Jvm.Cond.fieldLink "PegshoreHouseModel" (60 : Nat) "PegshoreHouseModel" "code" "I") ∈ lw_all := lw_all_of (lw_in5 (List.mem_of_getElem? (i := 8) rfl)) rfl
theorem q969 : (Jvm.Cond.laysFinal "PegshoreHouseModel" "PegshoreHouseModel" "holes" "[I") ∈ lw_all := lw_all_of (lw_in5 (List.mem_of_getElem? (i := 9) rfl)) rfl
theorem q971 : (Jvm.Cond.laysFinal "PegshoreHouseModel" "PegshoreHouseModel" "cells" "[I") ∈ lw_all := lw_all_of (lw_in5 (List.mem_of_getElem? (i := 11) rfl)) rfl
theorem q973 : (Jvm.Cond.laysFinal "PegshoreHouseModel" "PegshoreHouseModel" "weights" "[I") ∈ lw_all := lw_all_of (lw_in5 (List.mem_of_getElem? (i := 13) rfl)) rfl
theorem q975 : (Jvm.Cond.laysFinal "PegshoreHouseModel" "PegshoreHouseModel" "from" "[I") ∈ lw_all := lw_all_of (lw_in5 (List.mem_of_getElem? (i := 15) rfl)) rfl
theorem q977 : (Jvm.Cond.laysFinal "PegshoreHouseModel" "PegshoreHouseModel" "over" "[I") ∈ lw_all := lw_all_of (lw_in5 (List.mem_of_getElem? (i := 17) rfl)) rfl
theorem q979 : (Jvm.Cond.laysFinal "PegshoreHouseModel" "PegshoreHouseModel" "to" "[I") ∈ lw_all := lw_all_of (lw_in5 (List.mem_of_getElem? (i := 19) rfl)) rfl
theorem q981 : (Jvm.Cond.laysFinal "PegshoreHouseModel" "PegshoreHouseModel" "made" "Ljava/util/List;") ∈ lw_all := lw_all_of (lw_in5 (List.mem_of_getElem? (i := 21) rfl)) rfl
theorem q983 : (Jvm.Cond.laysFinal "PegshoreHouseModel" "PegshoreHouseModel" "told" "Ljava/util/List;") ∈ lw_all := lw_all_of (lw_in5 (List.mem_of_getElem? (i := 23) rfl)) rfl
theorem q985 : (Jvm.Cond.laysFinal "PegshoreHouseModel" "PegshoreHouseModel" "row" "Ljava/util/List;") ∈ lw_all := lw_all_of (lw_in5 (List.mem_of_getElem? (i := 25) rfl)) rfl
theorem q987 : (Jvm.Cond.laysFinal "PegshoreHouseModel" "PegshoreHouseModel" "ways" "[J") ∈ lw_all := lw_all_of (lw_in5 (List.mem_of_getElem? (i := 27) rfl)) rfl
theorem q989 : (Jvm.Cond.laysFinal "PegshoreHouseModel" "PegshoreHouseModel" "isReached" "[Z") ∈ lw_all := lw_all_of (lw_in5 (List.mem_of_getElem? (i := 29) rfl)) rfl
theorem q991 : (Jvm.Cond.laysFinal "PegshoreHouseModel" "PegshoreHouseModel" "values" "[I") ∈ lw_all := lw_all_of (lw_in5 (List.mem_of_getElem? (i := 31) rfl)) rfl
theorem q993 : (Jvm.Cond.laysFinal "PegshoreHouseModel" "PegshoreHouseModel" "sweeps" "[[I") ∈ lw_all := lw_all_of (lw_in5 (List.mem_of_getElem? (i := 33) rfl)) rfl
theorem q995 : (Jvm.Cond.lays "PegshoreHouseModel" "PegshoreHouseModel" "many" "I") ∈ lw_all := lw_all_of (lw_in5 (List.mem_of_getElem? (i := 35) rfl)) rfl
theorem q997 : (Jvm.Cond.lays "PegshoreHouseModel" "PegshoreHouseModel" "jumps" "I") ∈ lw_all := lw_all_of (lw_in5 (List.mem_of_getElem? (i := 37) rfl)) rfl
theorem q999 : (Jvm.Cond.lays "PegshoreHouseModel" "PegshoreHouseModel" "position" "I") ∈ lw_all := lw_all_of (lw_in5 (List.mem_of_getElem? (i := 39) rfl)) rfl
theorem q1001 : (Jvm.Cond.lays "PegshoreHouseModel" "PegshoreHouseModel" "end" "I") ∈ lw_all := lw_all_of (lw_in5 (List.mem_of_getElem? (i := 41) rfl)) rfl
theorem q1003 : (Jvm.Cond.lays "PegshoreHouseModel" "PegshoreHouseModel" "kind" "I") ∈ lw_all := lw_all_of (lw_in5 (List.mem_of_getElem? (i := 43) rfl)) rfl
theorem q1005 : (Jvm.Cond.lays "PegshoreHouseModel" "PegshoreHouseModel" "code" "I") ∈ lw_all := lw_all_of (lw_in5 (List.mem_of_getElem? (i := 45) rfl)) rfl
theorem q1007 : (Jvm.Cond.superclass "PegshoreHouseModel" "java/lang/Object") ∈ lw_all := lw_all_of (lw_in5 (List.mem_of_getElem? (i := 47) rfl)) rfl
theorem q1008 : (Jvm.Cond.arrayClass Jvm.ClassFile.FieldType.boolean) ∈ lw_all := lw_all_of (lw_in5 (List.mem_of_getElem? (i := 48) rfl)) rfl
theorem q1009 : (Jvm.Cond.methodLink "PegshoreHouseLaw" (115 : Nat) ({ cls := "PegshoreHouseModel", name := "thrown", desc := "()I" } : Jvm.MethodName)) ∈ lw_all := lw_all_of (lw_in5 (List.mem_of_getElem? (i := 49) rfl)) rfl
theorem q1010 : (Jvm.Cond.instanceMethod ({ cls := "PegshoreHouseModel", name := "thrown", desc := "()I" } : Jvm.MethodName)) ∈ lw_all := lw_all_of (lw_in5 (List.mem_of_getElem? (i := 50) rfl)) rfl
theorem q1011 : (Jvm.Cond.selects "PegshoreHouseModel" ({ cls := "PegshoreHouseModel", name := "thrown", desc := "()I" } : Jvm.MethodName) ({ cls := "PegshoreHouseModel", name := "thrown", desc := "()I" } : Jvm.MethodName)) ∈ lw_all := lw_all_of (lw_in5 (List.mem_of_getElem? (i := 51) rfl)) rfl
theorem q1012 : (Jvm.Cond.code ({ cls := "PegshoreHouseModel", name := "thrown", desc := "()I" } : Jvm.MethodName) prog_6_method_2_code (1 : Nat) (Option.some Jvm.ClassFile.FieldType.int)) ∈ lw_all := lw_all_of (lw_in5 (List.mem_of_getElem? (i := 52) rfl)) rfl
theorem q1013 : (Jvm.Cond.methodLink "PegshoreHouseLaw" (114 : Nat) ({ cls := "PegshoreHouseModel", name := "setKind", desc := "(C)C" } : Jvm.MethodName)) ∈ lw_all := lw_all_of (lw_in5 (List.mem_of_getElem? (i := 53) rfl)) rfl
theorem q1014 : (Jvm.Cond.instanceMethod ({ cls := "PegshoreHouseModel", name := "setKind", desc := "(C)C" } : Jvm.MethodName)) ∈ lw_all := lw_all_of (lw_in5 (List.mem_of_getElem? (i := 54) rfl)) rfl
theorem q1015 : (Jvm.Cond.selects "PegshoreHouseModel" ({ cls := "PegshoreHouseModel", name := "setKind", desc := "(C)C" } : Jvm.MethodName) ({ cls := "PegshoreHouseModel", name := "setKind", desc := "(C)C" } : Jvm.MethodName)) ∈ lw_all := lw_all_of (lw_in5 (List.mem_of_getElem? (i := 55) rfl)) rfl
theorem q1016 : (Jvm.Cond.code ({ cls := "PegshoreHouseModel", name := "setKind", desc := "(C)C" } : Jvm.MethodName) prog_6_method_10_code (3 : Nat) (Option.some Jvm.ClassFile.FieldType.char)) ∈ lw_all := lw_all_of (lw_in5 (List.mem_of_getElem? (i := 56) rfl)) rfl
theorem q1018 : (Jvm.Cond.methodLink "PegshoreHouseModel" (94 : Nat) ({ cls := "java/lang/String", name := "indexOf", desc := "(I)I" } : Jvm.MethodName)) ∈ lw_all := lw_all_of (lw_in5 (List.mem_of_getElem? (i := 58) rfl)) rfl
theorem q1019 : (Jvm.Cond.instanceMethod ({ cls := "java/lang/String", name := "indexOf", desc := "(I)I" } : Jvm.MethodName)) ∈ lw_all := lw_all_of (lw_in5 (List.mem_of_getElem? (i := 59) rfl)) rfl
theorem q1020 : (Jvm.Cond.selects "java/lang/String" ({ cls := "java/lang/String", name := "indexOf", desc := "(I)I" } : Jvm.MethodName) ({ cls := "java/lang/String", name := "indexOf", desc := "(I)I" } : Jvm.MethodName)) ∈ lw_all := lw_all_of (lw_in5 (List.mem_of_getElem? (i := 60) rfl)) rfl
theorem q1021 : (Jvm.Cond.code ({ cls := "java/lang/String", name := "indexOf", desc := "(I)I" } : Jvm.MethodName) prog_27_method_79_code (2 : Nat) (Option.some Jvm.ClassFile.FieldType.int)) ∈ lw_all := lw_all_of (lw_in5 (List.mem_of_getElem? (i := 61) rfl)) rfl
theorem q1022 : (Jvm.Cond.methodLink "java/lang/String" (633 : Nat) ({ cls := "java/lang/String", name := "indexOf", desc := "(II)I" } : Jvm.MethodName)) ∈ lw_all := lw_all_of (lw_in5 (List.mem_of_getElem? (i := 62) rfl)) rfl
theorem q1023 : (Jvm.Cond.instanceMethod ({ cls := "java/lang/String", name := "indexOf", desc := "(II)I" } : Jvm.MethodName)) ∈ lw_all := lw_all_of (lw_in5 (List.mem_of_getElem? (i := 63) rfl)) rfl
theorem q1024 : (Jvm.Cond.selects "java/lang/String" ({ cls := "java/lang/String", name := "indexOf", desc := "(II)I" } : Jvm.MethodName) ({ cls := "java/lang/String", name := "indexOf", desc := "(II)I" } : Jvm.MethodName)) ∈ lw_all := lw_all_of (lw_in5 (List.mem_of_getElem? (i := 64) rfl)) rfl
theorem q1025 : (Jvm.Cond.code ({ cls := "java/lang/String", name := "indexOf", desc := "(II)I" } : Jvm.MethodName) prog_27_method_80_code (3 : Nat) (Option.some Jvm.ClassFile.FieldType.int)) ∈ lw_all := lw_all_of (lw_in5 (List.mem_of_getElem? (i := 65) rfl)) rfl
theorem q1026 : (Jvm.Cond.methodLink "java/lang/String" (492 : Nat) ({ cls := "java/lang/String", name := "isLatin1", desc := "()Z" } : Jvm.MethodName)) ∈ lw_all := lw_all_of (lw_in5 (List.mem_of_getElem? (i := 66) rfl)) rfl
theorem q1027 : (Jvm.Cond.instanceMethod ({ cls := "java/lang/String", name := "isLatin1", desc := "()Z" } : Jvm.MethodName)) ∈ lw_all := lw_all_of (lw_in5 (List.mem_of_getElem? (i := 67) rfl)) rfl
theorem q1028 : (Jvm.Cond.selects "java/lang/String" ({ cls := "java/lang/String", name := "isLatin1", desc := "()Z" } : Jvm.MethodName) ({ cls := "java/lang/String", name := "isLatin1", desc := "()Z" } : Jvm.MethodName)) ∈ lw_all := lw_all_of (lw_in5 (List.mem_of_getElem? (i := 68) rfl)) rfl
theorem q1029 : (Jvm.Cond.code ({ cls := "java/lang/String", name := "isLatin1", desc := "()Z" } : Jvm.MethodName) prog_27_method_154_code (1 : Nat) (Option.some Jvm.ClassFile.FieldType.boolean)) ∈ lw_all := lw_all_of (lw_in5 (List.mem_of_getElem? (i := 69) rfl)) rfl
theorem q1030 : (Jvm.Cond.fieldLink "java/lang/String" (38 : Nat) "java/lang/String" "COMPACT_STRINGS" "Z") ∈ lw_all := lw_all_of (lw_in5 (List.mem_of_getElem? (i := 70) rfl)) rfl
theorem q1032 : (Jvm.Cond.methodLink "java/lang/String" (505 : Nat) ({ cls := "java/lang/String", name := "length", desc := "()I" } : Jvm.MethodName)) ∈ lw_all := lw_all_of (lw_in5 (List.mem_of_getElem? (i := 72) rfl)) rfl
theorem q1033 : (Jvm.Cond.instanceMethod ({ cls := "java/lang/String", name := "length", desc := "()I" } : Jvm.MethodName)) ∈ lw_all := lw_all_of (lw_in5 (List.mem_of_getElem? (i := 73) rfl)) rfl
theorem q1034 : (Jvm.Cond.selects "java/lang/String" ({ cls := "java/lang/String", name := "length", desc := "()I" } : Jvm.MethodName) ({ cls := "java/lang/String", name := "length", desc := "()I" } : Jvm.MethodName)) ∈ lw_all := lw_all_of (lw_in5 (List.mem_of_getElem? (i := 74) rfl)) rfl
theorem q1035 : (Jvm.Cond.code ({ cls := "java/lang/String", name := "length", desc := "()I" } : Jvm.MethodName) prog_27_method_54_code (1 : Nat) (Option.some Jvm.ClassFile.FieldType.int)) ∈ lw_all := lw_all_of (lw_in5 (List.mem_of_getElem? (i := 75) rfl)) rfl
theorem q1036 : (Jvm.Cond.methodLink "java/lang/String" (335 : Nat) ({ cls := "java/lang/String", name := "coder", desc := "()B" } : Jvm.MethodName)) ∈ lw_all := lw_all_of (lw_in5 (List.mem_of_getElem? (i := 76) rfl)) rfl
theorem q1037 : (Jvm.Cond.instanceMethod ({ cls := "java/lang/String", name := "coder", desc := "()B" } : Jvm.MethodName)) ∈ lw_all := lw_all_of (lw_in5 (List.mem_of_getElem? (i := 77) rfl)) rfl
theorem q1038 : (Jvm.Cond.selects "java/lang/String" ({ cls := "java/lang/String", name := "coder", desc := "()B" } : Jvm.MethodName) ({ cls := "java/lang/String", name := "coder", desc := "()B" } : Jvm.MethodName)) ∈ lw_all := lw_all_of (lw_in5 (List.mem_of_getElem? (i := 78) rfl)) rfl
theorem q1039 : (Jvm.Cond.code ({ cls := "java/lang/String", name := "coder", desc := "()B" } : Jvm.MethodName) prog_27_method_152_code (1 : Nat) (Option.some Jvm.ClassFile.FieldType.byte)) ∈ lw_all := lw_all_of (lw_in5 (List.mem_of_getElem? (i := 79) rfl)) rfl
theorem q1040 : (Jvm.Cond.methodLink "java/lang/String" (637 : Nat) ({ cls := "java/lang/StringLatin1", name := "indexOf", desc := "([BIII)I" } : Jvm.MethodName)) ∈ lw_all := lw_all_of (lw_in5 (List.mem_of_getElem? (i := 80) rfl)) rfl
theorem q1041 : (Jvm.Cond.static ({ cls := "java/lang/StringLatin1", name := "indexOf", desc := "([BIII)I" } : Jvm.MethodName)) ∈ lw_all := lw_all_of (lw_in5 (List.mem_of_getElem? (i := 81) rfl)) rfl
theorem q1042 : (Jvm.Cond.code ({ cls := "java/lang/StringLatin1", name := "indexOf", desc := "([BIII)I" } : Jvm.MethodName) prog_29_method_22_code (4 : Nat) (Option.some Jvm.ClassFile.FieldType.int)) ∈ lw_all := lw_all_of (lw_in5 (List.mem_of_getElem? (i := 82) rfl)) rfl
theorem q1043 : (Jvm.Cond.methodLink "java/lang/StringLatin1" (88 : Nat) ({ cls := "java/lang/StringLatin1", name := "canEncode", desc := "(I)Z" } : Jvm.MethodName)) ∈ lw_all := lw_all_of (lw_in5 (List.mem_of_getElem? (i := 83) rfl)) rfl
theorem q1044 : (Jvm.Cond.static ({ cls := "java/lang/StringLatin1", name := "canEncode", desc := "(I)Z" } : Jvm.MethodName)) ∈ lw_all := lw_all_of (lw_in5 (List.mem_of_getElem? (i := 84) rfl)) rfl
theorem q1045 : (Jvm.Cond.code ({ cls := "java/lang/StringLatin1", name := "canEncode", desc := "(I)Z" } : Jvm.MethodName) prog_29_method_4_code (1 : Nat) (Option.some Jvm.ClassFile.FieldType.boolean)) ∈ lw_all := lw_all_of (lw_in5 (List.mem_of_getElem? (i := 85) rfl)) rfl
theorem q1046 : (Jvm.Cond.methodLink "java/lang/StringLatin1" (92 : Nat) ({ cls := "java/lang/Math", name := "max", desc := "(II)I" } : Jvm.MethodName)) ∈ lw_all := lw_all_of (lw_in5 (List.mem_of_getElem? (i := 86) rfl)) rfl
theorem q1047 : (Jvm.Cond.static ({ cls := "java/lang/Math", name := "max", desc := "(II)I" } : Jvm.MethodName)) ∈ lw_all := lw_all_of (lw_in5 (List.mem_of_getElem? (i := 87) rfl)) rfl
theorem q1048 : (Jvm.Cond.code ({ cls := "java/lang/Math", name := "max", desc := "(II)I" } : Jvm.MethodName) prog_24_method_65_code (2 : Nat) (Option.some Jvm.ClassFile.FieldType.int)) ∈ lw_all := lw_all_of (lw_in5 (List.mem_of_getElem? (i := 88) rfl)) rfl
theorem q1049 : (Jvm.Cond.methodLink "java/lang/StringLatin1" (38 : Nat) ({ cls := "java/lang/Math", name := "min", desc := "(II)I" } : Jvm.MethodName)) ∈ lw_all := lw_all_of (lw_in5 (List.mem_of_getElem? (i := 89) rfl)) rfl
theorem q1050 : (Jvm.Cond.methodLink "java/lang/StringLatin1" (95 : Nat) ({ cls := "java/lang/StringLatin1", name := "indexOfChar", desc := "([BIII)I" } : Jvm.MethodName)) ∈ lw_all := lw_all_of (lw_in5 (List.mem_of_getElem? (i := 90) rfl)) rfl
theorem q1051 : (Jvm.Cond.static ({ cls := "java/lang/StringLatin1", name := "indexOfChar", desc := "([BIII)I" } : Jvm.MethodName)) ∈ lw_all := lw_all_of (lw_in5 (List.mem_of_getElem? (i := 91) rfl)) rfl
theorem q1052 : (Jvm.Cond.code ({ cls := "java/lang/StringLatin1", name := "indexOfChar", desc := "([BIII)I" } : Jvm.MethodName) prog_29_method_23_code (6 : Nat) (Option.some Jvm.ClassFile.FieldType.int)) ∈ lw_all := lw_all_of (lw_in5 (List.mem_of_getElem? (i := 92) rfl)) rfl
theorem q1053 : (Jvm.Cond.methodLink "java/lang/String" (640 : Nat) ({ cls := "java/lang/StringUTF16", name := "indexOf", desc := "([BIII)I" } : Jvm.MethodName)) ∈ lw_all := lw_all_of (lw_in5 (List.mem_of_getElem? (i := 93) rfl)) rfl
theorem q1054 : (Jvm.Cond.static ({ cls := "java/lang/StringUTF16", name := "indexOf", desc := "([BIII)I" } : Jvm.MethodName)) ∈ lw_all := lw_all_of (lw_in5 (List.mem_of_getElem? (i := 94) rfl)) rfl
theorem q1055 : (Jvm.Cond.code ({ cls := "java/lang/StringUTF16", name := "indexOf", desc := "([BIII)I" } : Jvm.MethodName) prog_30_method_40_code (4 : Nat) (Option.some Jvm.ClassFile.FieldType.int)) ∈ lw_all := lw_all_of (lw_in5 (List.mem_of_getElem? (i := 95) rfl)) rfl
theorem q1056 : (Jvm.Cond.methodLink "java/lang/StringUTF16" (224 : Nat) ({ cls := "java/lang/Math", name := "max", desc := "(II)I" } : Jvm.MethodName)) ∈ lw_all := lw_all_of (lw_in5 (List.mem_of_getElem? (i := 96) rfl)) rfl
theorem q1057 : (Jvm.Cond.methodLink "java/lang/StringUTF16" (183 : Nat) ({ cls := "java/lang/Math", name := "min", desc := "(II)I" } : Jvm.MethodName)) ∈ lw_all := lw_all_of (lw_in5 (List.mem_of_getElem? (i := 97) rfl)) rfl
theorem q1058 : (Jvm.Cond.constant "java/lang/StringUTF16" (227 : Nat) (65536 : Int32)) ∈ lw_all := lw_all_of (lw_in5 (List.mem_of_getElem? (i := 98) rfl)) rfl
theorem q1059 : (Jvm.Cond.methodLink "java/lang/StringUTF16" (228 : Nat) ({ cls := "java/lang/StringUTF16", name := "indexOfChar", desc := "([BIII)I" } : Jvm.MethodName)) ∈ lw_all := lw_all_of (lw_in5 (List.mem_of_getElem? (i := 99) rfl)) rfl
theorem q1060 : (Jvm.Cond.static ({ cls := "java/lang/StringUTF16", name := "indexOfChar", desc := "([BIII)I" } : Jvm.MethodName)) ∈ lw_all := lw_all_of (lw_in5 (List.mem_of_getElem? (i := 100) rfl)) rfl
theorem q1061 : (Jvm.Cond.code ({ cls := "java/lang/StringUTF16", name := "indexOfChar", desc := "([BIII)I" } : Jvm.MethodName) prog_30_method_47_code (4 : Nat) (Option.some Jvm.ClassFile.FieldType.int)) ∈ lw_all := lw_all_of (lw_in5 (List.mem_of_getElem? (i := 101) rfl)) rfl
theorem q1062 : (Jvm.Cond.methodLink "java/lang/StringUTF16" (96 : Nat) ({ cls := "java/lang/StringUTF16", name := "checkBoundsBeginEnd", desc := "(II[B)V" } : Jvm.MethodName)) ∈ lw_all := lw_all_of (lw_in5 (List.mem_of_getElem? (i := 102) rfl)) rfl
theorem q1063 : (Jvm.Cond.static ({ cls := "java/lang/StringUTF16", name := "checkBoundsBeginEnd", desc := "(II[B)V" } : Jvm.MethodName)) ∈ lw_all := lw_all_of (lw_in5 (List.mem_of_getElem? (i := 103) rfl)) rfl
theorem q1064 : (Jvm.Cond.code ({ cls := "java/lang/StringUTF16", name := "checkBoundsBeginEnd", desc := "(II[B)V" } : Jvm.MethodName) prog_30_method_93_code (3 : Nat) (Option.none : Option Jvm.ClassFile.FieldType)) ∈ lw_all := lw_all_of (lw_in5 (List.mem_of_getElem? (i := 104) rfl)) rfl
theorem q1065 : (Jvm.Cond.methodLink "java/lang/StringUTF16" (48 : Nat) ({ cls := "java/lang/StringUTF16", name := "length", desc := "([B)I" } : Jvm.MethodName)) ∈ lw_all := lw_all_of (lw_in5 (List.mem_of_getElem? (i := 105) rfl)) rfl
theorem q1066 : (Jvm.Cond.static ({ cls := "java/lang/StringUTF16", name := "length", desc := "([B)I" } : Jvm.MethodName)) ∈ lw_all := lw_all_of (lw_in5 (List.mem_of_getElem? (i := 106) rfl)) rfl
theorem q1067 : (Jvm.Cond.code ({ cls := "java/lang/StringUTF16", name := "length", desc := "([B)I" } : Jvm.MethodName) prog_30_method_6_code (1 : Nat) (Option.some Jvm.ClassFile.FieldType.int)) ∈ lw_all := lw_all_of (lw_in5 (List.mem_of_getElem? (i := 107) rfl)) rfl
theorem q1068 : (Jvm.Cond.methodLink "java/lang/StringUTF16" (241 : Nat) ({ cls := "java/lang/String", name := "checkBoundsBeginEnd", desc := "(III)V" } : Jvm.MethodName)) ∈ lw_all := lw_all_of (lw_in5 (List.mem_of_getElem? (i := 108) rfl)) rfl
theorem q1069 : (Jvm.Cond.static ({ cls := "java/lang/String", name := "checkBoundsBeginEnd", desc := "(III)V" } : Jvm.MethodName)) ∈ lw_all := lw_all_of (lw_in5 (List.mem_of_getElem? (i := 109) rfl)) rfl
theorem q1070 : (Jvm.Cond.code ({ cls := "java/lang/String", name := "checkBoundsBeginEnd", desc := "(III)V" } : Jvm.MethodName) prog_27_method_158_code (3 : Nat) (Option.none : Option Jvm.ClassFile.FieldType)) ∈ lw_all := lw_all_of (lw_in5 (List.mem_of_getElem? (i := 110) rfl)) rfl
theorem q1071 : (Jvm.Cond.fieldLink "java/lang/String" (1053 : Nat) "jdk/internal/util/Preconditions" "SIOOBE_FORMATTER" "Ljava/util/function/BiFunction;") ∈ lw_all := lw_all_of (lw_in5 (List.mem_of_getElem? (i := 111) rfl)) rfl
theorem q1073 : (Jvm.Cond.methodLink "java/lang/String" (1062 : Nat) ({ cls := "jdk/internal/util/Preconditions", name := "checkFromToIndex", desc := "(IIILjava/util/function/BiFunction;)I" } : Jvm.MethodName)) ∈ lw_all := lw_all_of (lw_in5 (List.mem_of_getElem? (i := 113) rfl)) rfl
theorem q1074 : (Jvm.Cond.static ({ cls := "jdk/internal/util/Preconditions", name := "checkFromToIndex", desc := "(IIILjava/util/function/BiFunction;)I" } : Jvm.MethodName)) ∈ lw_all := lw_all_of (lw_in5 (List.mem_of_getElem? (i := 114) rfl)) rfl
theorem q1075 : (Jvm.Cond.code ({ cls := "jdk/internal/util/Preconditions", name := "checkFromToIndex", desc := "(IIILjava/util/function/BiFunction;)I" } : Jvm.MethodName) prog_49_method_12_code (4 : Nat) (Option.some Jvm.ClassFile.FieldType.int)) ∈ lw_all := lw_all_of (lw_in5 (List.mem_of_getElem? (i := 115) rfl)) rfl
theorem q1076 : (Jvm.Cond.methodLink "java/lang/StringUTF16" (244 : Nat) ({ cls := "java/lang/StringUTF16", name := "indexOfCharUnsafe", desc := "([BIII)I" } : Jvm.MethodName)) ∈ lw_all := lw_all_of (lw_in5 (List.mem_of_getElem? (i := 116) rfl)) rfl
theorem q1077 : (Jvm.Cond.static ({ cls := "java/lang/StringUTF16", name := "indexOfCharUnsafe", desc := "([BIII)I" } : Jvm.MethodName)) ∈ lw_all := lw_all_of (lw_in5 (List.mem_of_getElem? (i := 117) rfl)) rfl
theorem q1078 : (Jvm.Cond.code ({ cls := "java/lang/StringUTF16", name := "indexOfCharUnsafe", desc := "([BIII)I" } : Jvm.MethodName) prog_30_method_48_code (5 : Nat) (Option.some Jvm.ClassFile.FieldType.int)) ∈ lw_all := lw_all_of (lw_in5 (List.mem_of_getElem? (i := 118) rfl)) rfl
theorem q1079 : (Jvm.Cond.methodLink "java/lang/StringUTF16" (71 : Nat) ({ cls := "java/lang/StringUTF16", name := "getChar", desc := "([BI)C" } : Jvm.MethodName)) ∈ lw_all := lw_all_of (lw_in5 (List.mem_of_getElem? (i := 119) rfl)) rfl
theorem q1080 : (Jvm.Cond.static ({ cls := "java/lang/StringUTF16", name := "getChar", desc := "([BI)C" } : Jvm.MethodName)) ∈ lw_all := lw_all_of (lw_in5 (List.mem_of_getElem? (i := 120) rfl)) rfl
theorem q1081 : (Jvm.Cond.code ({ cls := "java/lang/StringUTF16", name := "getChar", desc := "([BI)C" } : Jvm.MethodName) prog_30_method_5_code (2 : Nat) (Option.some Jvm.ClassFile.FieldType.char)) ∈ lw_all := lw_all_of (lw_in5 (List.mem_of_getElem? (i := 121) rfl)) rfl
theorem q1082 : (Jvm.Cond.fieldLink "java/lang/StringUTF16" (44 : Nat) "java/lang/StringUTF16" "$assertionsDisabled" "Z") ∈ lw_all := lw_all_of (lw_in5 (List.mem_of_getElem? (i := 122) rfl)) rfl
theorem q1084 : (Jvm.Cond.fieldLink "java/lang/StringUTF16" (59 : Nat) "java/lang/StringUTF16" "HI_BYTE_SHIFT" "I") ∈ lw_all := lw_all_of (lw_in5 (List.mem_of_getElem? (i := 124) rfl)) rfl
theorem q1086 : (Jvm.Cond.fieldLink "java/lang/StringUTF16" (63 : Nat) "java/lang/StringUTF16" "LO_BYTE_SHIFT" "I") ∈ lw_all := lw_all_of (lw_in5 (List.mem_of_getElem? (i := 126) rfl)) rfl
theorem q1088 : (Jvm.Cond.methodLink "java/lang/StringUTF16" (232 : Nat) ({ cls := "java/lang/StringUTF16", name := "indexOfSupplementary", desc := "([BIII)I" } : Jvm.MethodName)) ∈ lw_all := lw_all_of (lw_in5 (List.mem_of_getElem? (i := 128) rfl)) rfl
theorem q1089 : (Jvm.Cond.static ({ cls := "java/lang/StringUTF16", name := "indexOfSupplementary", desc := "([BIII)I" } : Jvm.MethodName)) ∈ lw_all := lw_all_of (lw_in5 (List.mem_of_getElem? (i := 129) rfl)) rfl
theorem q1090 : (Jvm.Cond.code ({ cls := "java/lang/StringUTF16", name := "indexOfSupplementary", desc := "([BIII)I" } : Jvm.MethodName) prog_30_method_49_code (7 : Nat) (Option.some Jvm.ClassFile.FieldType.int)) ∈ lw_all := lw_all_of (lw_in5 (List.mem_of_getElem? (i := 130) rfl)) rfl
theorem q1091 : (Jvm.Cond.methodLink "java/lang/StringUTF16" (164 : Nat) ({ cls := "java/lang/Character", name := "isValidCodePoint", desc := "(I)Z" } : Jvm.MethodName)) ∈ lw_all := lw_all_of (lw_in5 (List.mem_of_getElem? (i := 131) rfl)) rfl
theorem q1092 : (Jvm.Cond.static ({ cls := "java/lang/Character", name := "isValidCodePoint", desc := "(I)Z" } : Jvm.MethodName)) ∈ lw_all := lw_all_of (lw_in5 (List.mem_of_getElem? (i := 132) rfl)) rfl
theorem q1093 : (Jvm.Cond.code ({ cls := "java/lang/Character", name := "isValidCodePoint", desc := "(I)Z" } : Jvm.MethodName) prog_13_method_11_code (2 : Nat) (Option.some Jvm.ClassFile.FieldType.boolean)) ∈ lw_all := lw_all_of (lw_in5 (List.mem_of_getElem? (i := 133) rfl)) rfl
theorem q1094 : (Jvm.Cond.methodLink "java/lang/StringUTF16" (157 : Nat) ({ cls := "java/lang/Character", name := "highSurrogate", desc := "(I)C" } : Jvm.MethodName)) ∈ lw_all := lw_all_of (lw_in5 (List.mem_of_getElem? (i := 134) rfl)) rfl
theorem q1095 : (Jvm.Cond.static ({ cls := "java/lang/Character", name := "highSurrogate", desc := "(I)C" } : Jvm.MethodName)) ∈ lw_all := lw_all_of (lw_in5 (List.mem_of_getElem? (i := 135) rfl)) rfl
theorem q1096 : (Jvm.Cond.code ({ cls := "java/lang/Character", name := "highSurrogate", desc := "(I)C" } : Jvm.MethodName) prog_13_method_28_code (1 : Nat) (Option.some Jvm.ClassFile.FieldType.char)) ∈ lw_all := lw_all_of (lw_in5 (List.mem_of_getElem? (i := 136) rfl)) rfl
theorem q1097 : (Jvm.Cond.constant "java/lang/Character" (110 : Nat) (55232 : Int32)) ∈ lw_all := lw_all_of (lw_in5 (List.mem_of_getElem? (i := 137) rfl)) rfl
theorem q1098 : (Jvm.Cond.methodLink "java/lang/StringUTF16" (161 : Nat) ({ cls := "java/lang/Character", name := "lowSurrogate", desc := "(I)C" } : Jvm.MethodName)) ∈ lw_all := lw_all_of (lw_in5 (List.mem_of_getElem? (i := 138) rfl)) rfl
theorem q1099 : (Jvm.Cond.static ({ cls := "java/lang/Character", name := "lowSurrogate", desc := "(I)C" } : Jvm.MethodName)) ∈ lw_all := lw_all_of (lw_in5 (List.mem_of_getElem? (i := 139) rfl)) rfl
theorem q1100 : (Jvm.Cond.code ({ cls := "java/lang/Character", name := "lowSurrogate", desc := "(I)C" } : Jvm.MethodName) prog_13_method_29_code (1 : Nat) (Option.some Jvm.ClassFile.FieldType.char)) ∈ lw_all := lw_all_of (lw_in5 (List.mem_of_getElem? (i := 140) rfl)) rfl
theorem q1101 : (Jvm.Cond.constant "java/lang/Character" (76 : Nat) (56320 : Int32)) ∈ lw_all := lw_all_of (lw_in5 (List.mem_of_getElem? (i := 141) rfl)) rfl
theorem q1102 : (Jvm.Cond.methodLink "PegshoreHouseModel" (100 : Nat) ({ cls := "PegshoreHouseModel", name := "fails", desc := "(I)Z" } : Jvm.MethodName)) ∈ lw_all := lw_all_of (lw_in5 (List.mem_of_getElem? (i := 142) rfl)) rfl
theorem q1104 : (Jvm.Cond.instanceMethod ({ cls := "PegshoreHouseModel", name := "fails", desc := "(I)Z" } : Jvm.MethodName)) ∈ lw_all := lw_all_of (lw_in5 (List.mem_of_getElem? (i := 144) rfl)) rfl
theorem q1105 : (Jvm.Cond.code ({ cls := "PegshoreHouseModel", name := "fails", desc := "(I)Z" } : Jvm.MethodName) prog_6_method_3_code (2 : Nat) (Option.some Jvm.ClassFile.FieldType.boolean)) ∈ lw_all := lw_all_of (lw_in5 (List.mem_of_getElem? (i := 145) rfl)) rfl
theorem q1106 : (Jvm.Cond.methodLink "PegshoreHouseModel" (104 : Nat) ({ cls := "java/lang/String", name := "charAt", desc := "(I)C" } : Jvm.MethodName)) ∈ lw_all := lw_all_of (lw_in5 (List.mem_of_getElem? (i := 146) rfl)) rfl
theorem q1107 : (Jvm.Cond.instanceMethod ({ cls := "java/lang/String", name := "charAt", desc := "(I)C" } : Jvm.MethodName)) ∈ lw_all := lw_all_of (lw_in5 (List.mem_of_getElem? (i := 147) rfl)) rfl
theorem q1108 : (Jvm.Cond.selects "java/lang/String" ({ cls := "java/lang/String", name := "charAt", desc := "(I)C" } : Jvm.MethodName) ({ cls := "java/lang/String", name := "charAt", desc := "(I)C" } : Jvm.MethodName)) ∈ lw_all := lw_all_of (lw_in5 (List.mem_of_getElem? (i := 148) rfl)) rfl
theorem q1109 : (Jvm.Cond.code ({ cls := "java/lang/String", name := "charAt", desc := "(I)C" } : Jvm.MethodName) prog_27_method_56_code (2 : Nat) (Option.some Jvm.ClassFile.FieldType.char)) ∈ lw_all := lw_all_of (lw_in5 (List.mem_of_getElem? (i := 149) rfl)) rfl
theorem q1110 : (Jvm.Cond.methodLink "java/lang/String" (495 : Nat) ({ cls := "java/lang/StringLatin1", name := "charAt", desc := "([BI)C" } : Jvm.MethodName)) ∈ lw_all := lw_all_of (lw_in5 (List.mem_of_getElem? (i := 150) rfl)) rfl
theorem q1111 : (Jvm.Cond.static ({ cls := "java/lang/StringLatin1", name := "charAt", desc := "([BI)C" } : Jvm.MethodName)) ∈ lw_all := lw_all_of (lw_in5 (List.mem_of_getElem? (i := 151) rfl)) rfl
theorem q1112 : (Jvm.Cond.code ({ cls := "java/lang/StringLatin1", name := "charAt", desc := "([BI)C" } : Jvm.MethodName) prog_29_method_2_code (2 : Nat) (Option.some Jvm.ClassFile.FieldType.char)) ∈ lw_all := lw_all_of (lw_in5 (List.mem_of_getElem? (i := 152) rfl)) rfl
theorem q1113 : (Jvm.Cond.methodLink "java/lang/StringLatin1" (9 : Nat) ({ cls := "java/lang/String", name := "checkIndex", desc := "(II)V" } : Jvm.MethodName)) ∈ lw_all := lw_all_of (lw_in5 (List.mem_of_getElem? (i := 153) rfl)) rfl
theorem q1114 : (Jvm.Cond.static ({ cls := "java/lang/String", name := "checkIndex", desc := "(II)V" } : Jvm.MethodName)) ∈ lw_all := lw_all_of (lw_in5 (List.mem_of_getElem? (i := 154) rfl)) rfl
theorem q1115 : (Jvm.Cond.code ({ cls := "java/lang/String", name := "checkIndex", desc := "(II)V" } : Jvm.MethodName) prog_27_method_155_code (2 : Nat) (Option.none : Option Jvm.ClassFile.FieldType)) ∈ lw_all := lw_all_of (lw_in5 (List.mem_of_getElem? (i := 155) rfl)) rfl
theorem q1116 : (Jvm.Cond.methodLink "java/lang/String" (1059 : Nat) ({ cls := "jdk/internal/util/Preconditions", name := "checkIndex", desc := "(IILjava/util/function/BiFunction;)I" } : Jvm.MethodName)) ∈ lw_all := lw_all_of (lw_in5 (List.mem_of_getElem? (i := 156) rfl)) rfl
theorem q1117 : (Jvm.Cond.static ({ cls := "jdk/internal/util/Preconditions", name := "checkIndex", desc := "(IILjava/util/function/BiFunction;)I" } : Jvm.MethodName)) ∈ lw_all := lw_all_of (lw_in5 (List.mem_of_getElem? (i := 157) rfl)) rfl
theorem q1118 : (Jvm.Cond.code ({ cls := "jdk/internal/util/Preconditions", name := "checkIndex", desc := "(IILjava/util/function/BiFunction;)I" } : Jvm.MethodName) prog_49_method_11_code (3 : Nat) (Option.some Jvm.ClassFile.FieldType.int)) ∈ lw_all := lw_all_of (lw_in5 (List.mem_of_getElem? (i := 158) rfl)) rfl
theorem q1119 : (Jvm.Cond.methodLink "java/lang/String" (498 : Nat) ({ cls := "java/lang/StringUTF16", name := "charAt", desc := "([BI)C" } : Jvm.MethodName)) ∈ lw_all := lw_all_of (lw_in5 (List.mem_of_getElem? (i := 159) rfl)) rfl
theorem q1120 : (Jvm.Cond.static ({ cls := "java/lang/StringUTF16", name := "charAt", desc := "([BI)C" } : Jvm.MethodName)) ∈ lw_all := lw_all_of (lw_in5 (List.mem_of_getElem? (i := 160) rfl)) rfl
theorem q1121 : (Jvm.Cond.code ({ cls := "java/lang/StringUTF16", name := "charAt", desc := "([BI)C" } : Jvm.MethodName) prog_30_method_83_code (2 : Nat) (Option.some Jvm.ClassFile.FieldType.char)) ∈ lw_all := lw_all_of (lw_in5 (List.mem_of_getElem? (i := 161) rfl)) rfl
theorem q1122 : (Jvm.Cond.methodLink "java/lang/StringUTF16" (67 : Nat) ({ cls := "java/lang/StringUTF16", name := "checkIndex", desc := "(I[B)V" } : Jvm.MethodName)) ∈ lw_all := lw_all_of (lw_in5 (List.mem_of_getElem? (i := 162) rfl)) rfl
theorem q1123 : (Jvm.Cond.static ({ cls := "java/lang/StringUTF16", name := "checkIndex", desc := "(I[B)V" } : Jvm.MethodName)) ∈ lw_all := lw_all_of (lw_in5 (List.mem_of_getElem? (i := 163) rfl)) rfl
theorem q1124 : (Jvm.Cond.code ({ cls := "java/lang/StringUTF16", name := "checkIndex", desc := "(I[B)V" } : Jvm.MethodName) prog_30_method_91_code (2 : Nat) (Option.none : Option Jvm.ClassFile.FieldType)) ∈ lw_all := lw_all_of (lw_in5 (List.mem_of_getElem? (i := 164) rfl)) rfl
theorem q1125 : (Jvm.Cond.methodLink "java/lang/StringUTF16" (414 : Nat) ({ cls := "java/lang/String", name := "checkIndex", desc := "(II)V" } : Jvm.MethodName)) ∈ lw_all := lw_all_of (lw_in5 (List.mem_of_getElem? (i := 165) rfl)) rfl
theorem q1126 : (Jvm.Cond.methodLink "PegshoreHouseLaw" (121 : Nat) ({ cls := "PegshoreHouseModel", name := "drill", desc := "(I)I" } : Jvm.MethodName)) ∈ lw_all := lw_all_of (lw_in5 (List.mem_of_getElem? (i := 166) rfl)) rfl
theorem q1127 : (Jvm.Cond.instanceMethod ({ cls := "PegshoreHouseModel", name := "drill", desc := "(I)I" } : Jvm.MethodName)) ∈ lw_all := lw_all_of (lw_in5 (List.mem_of_getElem? (i := 167) rfl)) rfl
theorem q1128 : (Jvm.Cond.selects "PegshoreHouseModel" ({ cls := "PegshoreHouseModel", name := "drill", desc := "(I)I" } : Jvm.MethodName) ({ cls := "PegshoreHouseModel", name := "drill", desc := "(I)I" } : Jvm.MethodName)) ∈ lw_all := lw_all_of (lw_in5 (List.mem_of_getElem? (i := 168) rfl)) rfl
theorem q1129 : (Jvm.Cond.code ({ cls := "PegshoreHouseModel", name := "drill", desc := "(I)I" } : Jvm.MethodName) prog_6_method_15_code (3 : Nat) (Option.some Jvm.ClassFile.FieldType.int)) ∈ lw_all := lw_all_of (lw_in5 (List.mem_of_getElem? (i := 169) rfl)) rfl
theorem q1130 : (Jvm.Cond.methodLink "PegshoreHouseModel" (117 : Nat) ({ cls := "PegshoreHouseModel", name := "isDrilled", desc := "(I)Z" } : Jvm.MethodName)) ∈ lw_all := lw_all_of (lw_in5 (List.mem_of_getElem? (i := 170) rfl)) rfl
theorem q1132 : (Jvm.Cond.instanceMethod ({ cls := "PegshoreHouseModel", name := "isDrilled", desc := "(I)Z" } : Jvm.MethodName)) ∈ lw_all := lw_all_of (lw_in5 (List.mem_of_getElem? (i := 172) rfl)) rfl
theorem q1133 : (Jvm.Cond.code ({ cls := "PegshoreHouseModel", name := "isDrilled", desc := "(I)Z" } : Jvm.MethodName) prog_6_method_11_code (4 : Nat) (Option.some Jvm.ClassFile.FieldType.boolean)) ∈ lw_all := lw_all_of (lw_in5 (List.mem_of_getElem? (i := 173) rfl)) rfl
theorem q1134 : (Jvm.Cond.methodLink "PegshoreHouseModel" (123 : Nat) ({ cls := "PegshoreHouseModel", name := "wider", desc := "(II)I" } : Jvm.MethodName)) ∈ lw_all := lw_all_of (lw_in5 (List.mem_of_getElem? (i := 174) rfl)) rfl
theorem q1135 : (Jvm.Cond.static ({ cls := "PegshoreHouseModel", name := "wider", desc := "(II)I" } : Jvm.MethodName)) ∈ lw_all := lw_all_of (lw_in5 (List.mem_of_getElem? (i := 175) rfl)) rfl
theorem q1136 : (Jvm.Cond.code ({ cls := "PegshoreHouseModel", name := "wider", desc := "(II)I" } : Jvm.MethodName) prog_6_method_12_code (2 : Nat) (Option.some Jvm.ClassFile.FieldType.int)) ∈ lw_all := lw_all_of (lw_in5 (List.mem_of_getElem? (i := 176) rfl)) rfl
theorem q1137 : (Jvm.Cond.methodLink "PegshoreHouseModel" (126 : Nat) ({ cls := "PegshoreHouseModel", name := "numbers", desc := "()V" } : Jvm.MethodName)) ∈ lw_all := lw_all_of (lw_in5 (List.mem_of_getElem? (i := 177) rfl)) rfl
theorem q1139 : (Jvm.Cond.instanceMethod ({ cls := "PegshoreHouseModel", name := "numbers", desc := "()V" } : Jvm.MethodName)) ∈ lw_all := lw_all_of (lw_in5 (List.mem_of_getElem? (i := 179) rfl)) rfl
theorem q1140 : (Jvm.Cond.code ({ cls := "PegshoreHouseModel", name := "numbers", desc := "()V" } : Jvm.MethodName) prog_6_method_14_code (2 : Nat) (Option.none : Option Jvm.ClassFile.FieldType)) ∈ lw_all := lw_all_of (lw_in5 (List.mem_of_getElem? (i := 180) rfl)) rfl
theorem q1141 : (Jvm.Cond.methodLink "PegshoreHouseModel" (108 : Nat) ({ cls := "java/util/Arrays", name := "fill", desc := "([II)V" } : Jvm.MethodName)) ∈ lw_all := lw_all_of (lw_in5 (List.mem_of_getElem? (i := 181) rfl)) rfl
theorem q1142 : (Jvm.Cond.static ({ cls := "java/util/Arrays", name := "fill", desc := "([II)V" } : Jvm.MethodName)) ∈ lw_all := lw_all_of (lw_in5 (List.mem_of_getElem? (i := 182) rfl)) rfl
theorem q1143 : (Jvm.Cond.code ({ cls := "java/util/Arrays", name := "fill", desc := "([II)V" } : Jvm.MethodName) prog_40_method_103_code (4 : Nat) (Option.none : Option Jvm.ClassFile.FieldType)) ∈ lw_all := lw_all_of (lw_in5 (List.mem_of_getElem? (i := 183) rfl)) rfl
theorem q1144 : (Jvm.Cond.methodLink "PegshoreHouseLaw" (124 : Nat) ({ cls := "PegshoreHouseModel", name := "fill", desc := "(I)I" } : Jvm.MethodName)) ∈ lw_all := lw_all_of (lw_in5 (List.mem_of_getElem? (i := 184) rfl)) rfl
theorem q1145 : (Jvm.Cond.instanceMethod ({ cls := "PegshoreHouseModel", name := "fill", desc := "(I)I" } : Jvm.MethodName)) ∈ lw_all := lw_all_of (lw_in5 (List.mem_of_getElem? (i := 185) rfl)) rfl
theorem q1146 : (Jvm.Cond.selects "PegshoreHouseModel" ({ cls := "PegshoreHouseModel", name := "fill", desc := "(I)I" } : Jvm.MethodName) ({ cls := "PegshoreHouseModel", name := "fill", desc := "(I)I" } : Jvm.MethodName)) ∈ lw_all := lw_all_of (lw_in5 (List.mem_of_getElem? (i := 186) rfl)) rfl
theorem q1147 : (Jvm.Cond.code ({ cls := "PegshoreHouseModel", name := "fill", desc := "(I)I" } : Jvm.MethodName) prog_6_method_16_code (4 : Nat) (Option.some Jvm.ClassFile.FieldType.int)) ∈ lw_all := lw_all_of (lw_in5 (List.mem_of_getElem? (i := 187) rfl)) rfl
theorem q1148 : (Jvm.Cond.methodLink "PegshoreHouseModel" (129 : Nat) ({ cls := "PegshoreHouseModel", name := "narrower", desc := "(II)I" } : Jvm.MethodName)) ∈ lw_all := lw_all_of (lw_in5 (List.mem_of_getElem? (i := 188) rfl)) rfl
theorem q1149 : (Jvm.Cond.static ({ cls := "PegshoreHouseModel", name := "narrower", desc := "(II)I" } : Jvm.MethodName)) ∈ lw_all := lw_all_of (lw_in5 (List.mem_of_getElem? (i := 189) rfl)) rfl
theorem q1150 : (Jvm.Cond.code ({ cls := "PegshoreHouseModel", name := "narrower", desc := "(II)I" } : Jvm.MethodName) prog_6_method_13_code (2 : Nat) (Option.some Jvm.ClassFile.FieldType.int)) ∈ lw_all := lw_all_of (lw_in5 (List.mem_of_getElem? (i := 190) rfl)) rfl
theorem q1151 : (Jvm.Cond.methodLink "PegshoreHouseLaw" (127 : Nat) ({ cls := "PegshoreHouseModel", name := "hole", desc := "(I)I" } : Jvm.MethodName)) ∈ lw_all := lw_all_of (lw_in5 (List.mem_of_getElem? (i := 191) rfl)) rfl
theorem q1152 : (Jvm.Cond.instanceMethod ({ cls := "PegshoreHouseModel", name := "hole", desc := "(I)I" } : Jvm.MethodName)) ∈ lw_all := lw_all_of (lw_in5 (List.mem_of_getElem? (i := 192) rfl)) rfl
theorem q1153 : (Jvm.Cond.selects "PegshoreHouseModel" ({ cls := "PegshoreHouseModel", name := "hole", desc := "(I)I" } : Jvm.MethodName) ({ cls := "PegshoreHouseModel", name := "hole", desc := "(I)I" } : Jvm.MethodName)) ∈ lw_all := lw_all_of (lw_in5 (List.mem_of_getElem? (i := 193) rfl)) rfl
theorem q1154 : (Jvm.Cond.code ({ cls := "PegshoreHouseModel", name := "hole", desc := "(I)I" } : Jvm.MethodName) prog_6_method_17_code (2 : Nat) (Option.some Jvm.ClassFile.FieldType.int)) ∈ lw_all := lw_all_of (lw_in5 (List.mem_of_getElem? (i := 194) rfl)) rfl
theorem q1155 : (Jvm.Cond.methodLink "PegshoreHouseLaw" (130 : Nat) ({ cls := "PegshoreHouseModel", name := "cell", desc := "(I)I" } : Jvm.MethodName)) ∈ lw_all := lw_all_of (lw_in5 (List.mem_of_getElem? (i := 195) rfl)) rfl
theorem q1156 : (Jvm.Cond.instanceMethod ({ cls := "PegshoreHouseModel", name := "cell", desc := "(I)I" } : Jvm.MethodName)) ∈ lw_all := lw_all_of (lw_in5 (List.mem_of_getElem? (i := 196) rfl)) rfl
theorem q1157 : (Jvm.Cond.selects "PegshoreHouseModel" ({ cls := "PegshoreHouseModel", name := "cell", desc := "(I)I" } : Jvm.MethodName) ({ cls := "PegshoreHouseModel", name := "cell", desc := "(I)I" } : Jvm.MethodName)) ∈ lw_all := lw_all_of (lw_in5 (List.mem_of_getElem? (i := 197) rfl)) rfl
theorem q1158 : (Jvm.Cond.code ({ cls := "PegshoreHouseModel", name := "cell", desc := "(I)I" } : Jvm.MethodName) prog_6_method_18_code (2 : Nat) (Option.some Jvm.ClassFile.FieldType.int)) ∈ lw_all := lw_all_of (lw_in5 (List.mem_of_getElem? (i := 198) rfl)) rfl
theorem q1159 : (Jvm.Cond.methodLink "PegshoreHouseModel" (132 : Nat) ({ cls := "PegshoreHouseModel", name := "isHole", desc := "(I)Z" } : Jvm.MethodName)) ∈ lw_all := lw_all_of (lw_in5 (List.mem_of_getElem? (i := 199) rfl)) rfl
theorem q1161 : (Jvm.Cond.instanceMethod ({ cls := "PegshoreHouseModel", name := "isHole", desc := "(I)Z" } : Jvm.MethodName)) ∈ lw_all := lw_all_of (lw_in5 (List.mem_of_getElem? (i := 201) rfl)) rfl
theorem q1162 : (Jvm.Cond.code ({ cls := "PegshoreHouseModel", name := "isHole", desc := "(I)Z" } : Jvm.MethodName) prog_6_method_5_code (2 : Nat) (Option.some Jvm.ClassFile.FieldType.boolean)) ∈ lw_all := lw_all_of (lw_in5 (List.mem_of_getElem? (i := 202) rfl)) rfl
theorem q1163 : (Jvm.Cond.methodLink "PegshoreHouseLaw" (134 : Nat) ({ cls := "PegshoreHouseModel", name := "lines", desc := "()I" } : Jvm.MethodName)) ∈ lw_all := lw_all_of (lw_in5 (List.mem_of_getElem? (i := 203) rfl)) rfl
theorem q1164 : (Jvm.Cond.instanceMethod ({ cls := "PegshoreHouseModel", name := "lines", desc := "()I" } : Jvm.MethodName)) ∈ lw_all := lw_all_of (lw_in5 (List.mem_of_getElem? (i := 204) rfl)) rfl
theorem q1165 : (Jvm.Cond.selects "PegshoreHouseModel" ({ cls := "PegshoreHouseModel", name := "lines", desc := "()I" } : Jvm.MethodName) ({ cls := "PegshoreHouseModel", name := "lines", desc := "()I" } : Jvm.MethodName)) ∈ lw_all := lw_all_of (lw_in5 (List.mem_of_getElem? (i := 205) rfl)) rfl
theorem q1166 : (Jvm.Cond.code ({ cls := "PegshoreHouseModel", name := "lines", desc := "()I" } : Jvm.MethodName) prog_6_method_19_code (1 : Nat) (Option.some Jvm.ClassFile.FieldType.int)) ∈ lw_all := lw_all_of (lw_in5 (List.mem_of_getElem? (i := 206) rfl)) rfl
theorem q1167 : (Jvm.Cond.methodLink "PegshoreHouseLaw" (138 : Nat) ({ cls := "PegshoreHouseModel", name := "symmetries", desc := "()I" } : Jvm.MethodName)) ∈ lw_all := lw_all_of (lw_in5 (List.mem_of_getElem? (i := 207) rfl)) rfl
theorem q1168 : (Jvm.Cond.instanceMethod ({ cls := "PegshoreHouseModel", name := "symmetries", desc := "()I" } : Jvm.MethodName)) ∈ lw_all := lw_all_of (lw_in5 (List.mem_of_getElem? (i := 208) rfl)) rfl
theorem q1169 : (Jvm.Cond.selects "PegshoreHouseModel" ({ cls := "PegshoreHouseModel", name := "symmetries", desc := "()I" } : Jvm.MethodName) ({ cls := "PegshoreHouseModel", name := "symmetries", desc := "()I" } : Jvm.MethodName)) ∈ lw_all := lw_all_of (lw_in5 (List.mem_of_getElem? (i := 209) rfl)) rfl
theorem q1170 : (Jvm.Cond.code ({ cls := "PegshoreHouseModel", name := "symmetries", desc := "()I" } : Jvm.MethodName) prog_6_method_24_code (3 : Nat) (Option.some Jvm.ClassFile.FieldType.int)) ∈ lw_all := lw_all_of (lw_in5 (List.mem_of_getElem? (i := 210) rfl)) rfl
theorem q1171 : (Jvm.Cond.methodLink "PegshoreHouseModel" (144 : Nat) ({ cls := "PegshoreHouseModel", name := "isSymmetry", desc := "(I)Z" } : Jvm.MethodName)) ∈ lw_all := lw_all_of (lw_in5 (List.mem_of_getElem? (i := 211) rfl)) rfl
theorem q1173 : (Jvm.Cond.instanceMethod ({ cls := "PegshoreHouseModel", name := "isSymmetry", desc := "(I)Z" } : Jvm.MethodName)) ∈ lw_all := lw_all_of (lw_in5 (List.mem_of_getElem? (i := 213) rfl)) rfl
theorem q1174 : (Jvm.Cond.code ({ cls := "PegshoreHouseModel", name := "isSymmetry", desc := "(I)Z" } : Jvm.MethodName) prog_6_method_23_code (4 : Nat) (Option.some Jvm.ClassFile.FieldType.boolean)) ∈ lw_all := lw_all_of (lw_in5 (List.mem_of_getElem? (i := 214) rfl)) rfl
theorem q1175 : (Jvm.Cond.methodLink "PegshoreHouseModel" (135 : Nat) ({ cls := "PegshoreHouseModel", name := "turned", desc := "(II)I" } : Jvm.MethodName)) ∈ lw_all := lw_all_of (lw_in5 (List.mem_of_getElem? (i := 215) rfl)) rfl
theorem q1176 : (Jvm.Cond.static ({ cls := "PegshoreHouseModel", name := "turned", desc := "(II)I" } : Jvm.MethodName)) ∈ lw_all := lw_all_of (lw_in5 (List.mem_of_getElem? (i := 216) rfl)) rfl
theorem q1177 : (Jvm.Cond.code ({ cls := "PegshoreHouseModel", name := "turned", desc := "(II)I" } : Jvm.MethodName) prog_6_method_20_code (6 : Nat) (Option.some Jvm.ClassFile.FieldType.int)) ∈ lw_all := lw_all_of (lw_in5 (List.mem_of_getElem? (i := 217) rfl)) rfl
theorem q1178 : (Jvm.Cond.methodLink "PegshoreHouseModel" (138 : Nat) ({ cls := "PegshoreHouseModel", name := "holeAt", desc := "(I)I" } : Jvm.MethodName)) ∈ lw_all := lw_all_of (lw_in5 (List.mem_of_getElem? (i := 218) rfl)) rfl
theorem q1180 : (Jvm.Cond.instanceMethod ({ cls := "PegshoreHouseModel", name := "holeAt", desc := "(I)I" } : Jvm.MethodName)) ∈ lw_all := lw_all_of (lw_in5 (List.mem_of_getElem? (i := 220) rfl)) rfl
theorem q1181 : (Jvm.Cond.code ({ cls := "PegshoreHouseModel", name := "holeAt", desc := "(I)I" } : Jvm.MethodName) prog_6_method_21_code (2 : Nat) (Option.some Jvm.ClassFile.FieldType.int)) ∈ lw_all := lw_all_of (lw_in5 (List.mem_of_getElem? (i := 221) rfl)) rfl
theorem q1182 : (Jvm.Cond.methodLink "PegshoreHouseModel" (141 : Nat) ({ cls := "PegshoreHouseModel", name := "isJump", desc := "(III)Z" } : Jvm.MethodName)) ∈ lw_all := lw_all_of (lw_in5 (List.mem_of_getElem? (i := 222) rfl)) rfl
theorem q1184 : (Jvm.Cond.instanceMethod ({ cls := "PegshoreHouseModel", name := "isJump", desc := "(III)Z" } : Jvm.MethodName)) ∈ lw_all := lw_all_of (lw_in5 (List.mem_of_getElem? (i := 224) rfl)) rfl
theorem q1185 : (Jvm.Cond.code ({ cls := "PegshoreHouseModel", name := "isJump", desc := "(III)Z" } : Jvm.MethodName) prog_6_method_22_code (6 : Nat) (Option.some Jvm.ClassFile.FieldType.boolean)) ∈ lw_all := lw_all_of (lw_in5 (List.mem_of_getElem? (i := 225) rfl)) rfl
theorem q1186 : (Jvm.Cond.methodLink "PegshoreHouseLaw" (174 : Nat) ({ cls := "PegshoreHouseModel", name := "leastForm", desc := "(I)I" } : Jvm.MethodName)) ∈ lw_all := lw_all_of (lw_in5 (List.mem_of_getElem? (i := 226) rfl)) rfl
theorem q1187 : (Jvm.Cond.instanceMethod ({ cls := "PegshoreHouseModel", name := "leastForm", desc := "(I)I" } : Jvm.MethodName)) ∈ lw_all := lw_all_of (lw_in5 (List.mem_of_getElem? (i := 227) rfl)) rfl
theorem q1188 : (Jvm.Cond.selects "PegshoreHouseModel" ({ cls := "PegshoreHouseModel", name := "leastForm", desc := "(I)I" } : Jvm.MethodName) ({ cls := "PegshoreHouseModel", name := "leastForm", desc := "(I)I" } : Jvm.MethodName)) ∈ lw_all := lw_all_of (lw_in5 (List.mem_of_getElem? (i := 228) rfl)) rfl
theorem q1189 : (Jvm.Cond.code ({ cls := "PegshoreHouseModel", name := "leastForm", desc := "(I)I" } : Jvm.MethodName) prog_6_method_25_code (6 : Nat) (Option.some Jvm.ClassFile.FieldType.int)) ∈ lw_all := lw_all_of (lw_in5 (List.mem_of_getElem? (i := 229) rfl)) rfl
theorem q1190 : (Jvm.Cond.methodLink "PegshoreHouseModel" (147 : Nat) ({ cls := "PegshoreHouseModel", name := "isPosition", desc := "(I)Z" } : Jvm.MethodName)) ∈ lw_all := lw_all_of (lw_in5 (List.mem_of_getElem? (i := 230) rfl)) rfl
theorem q1192 : (Jvm.Cond.instanceMethod ({ cls := "PegshoreHouseModel", name := "isPosition", desc := "(I)Z" } : Jvm.MethodName)) ∈ lw_all := lw_all_of (lw_in5 (List.mem_of_getElem? (i := 232) rfl)) rfl
theorem q1193 : (Jvm.Cond.code ({ cls := "PegshoreHouseModel", name := "isPosition", desc := "(I)Z" } : Jvm.MethodName) prog_6_method_6_code (2 : Nat) (Option.some Jvm.ClassFile.FieldType.boolean)) ∈ lw_all := lw_all_of (lw_in5 (List.mem_of_getElem? (i := 233) rfl)) rfl
theorem q1194 : (Jvm.Cond.methodLink "PegshoreHouseModel" (150 : Nat) ({ cls := "PegshoreHouseModel", name := "has", desc := "(II)Z" } : Jvm.MethodName)) ∈ lw_all := lw_all_of (lw_in5 (List.mem_of_getElem? (i := 234) rfl)) rfl
theorem q1195 : (Jvm.Cond.static ({ cls := "PegshoreHouseModel", name := "has", desc := "(II)Z" } : Jvm.MethodName)) ∈ lw_all := lw_all_of (lw_in5 (List.mem_of_getElem? (i := 235) rfl)) rfl
theorem q1196 : (Jvm.Cond.code ({ cls := "PegshoreHouseModel", name := "has", desc := "(II)Z" } : Jvm.MethodName) prog_6_method_7_code (2 : Nat) (Option.some Jvm.ClassFile.FieldType.boolean)) ∈ lw_all := lw_all_of (lw_in5 (List.mem_of_getElem? (i := 236) rfl)) rfl
theorem q1197 : (Jvm.Cond.methodLink "PegshoreHouseModel" (154 : Nat) ({ cls := "java/lang/Math", name := "min", desc := "(II)I" } : Jvm.MethodName)) ∈ lw_all := lw_all_of (lw_in5 (List.mem_of_getElem? (i := 237) rfl)) rfl
theorem q1198 : (Jvm.Cond.methodLink "PegshoreHouseLaw" (141 : Nat) ({ cls := "PegshoreHouseModel", name := "put", desc := "(I)I" } : Jvm.MethodName)) ∈ lw_all := lw_all_of (lw_in5 (List.mem_of_getElem? (i := 238) rfl)) rfl
theorem q1199 : (Jvm.Cond.instanceMethod ({ cls := "PegshoreHouseModel", name := "put", desc := "(I)I" } : Jvm.MethodName)) ∈ lw_all := lw_all_of (lw_in5 (List.mem_of_getElem? (i := 239) rfl)) rfl
theorem q1200 : (Jvm.Cond.selects "PegshoreHouseModel" ({ cls := "PegshoreHouseModel", name := "put", desc := "(I)I" } : Jvm.MethodName) ({ cls := "PegshoreHouseModel", name := "put", desc := "(I)I" } : Jvm.MethodName)) ∈ lw_all := lw_all_of (lw_in6 (List.mem_of_getElem? (i := 0) rfl)) rfl
theorem q1201 : (Jvm.Cond.code ({ cls := "PegshoreHouseModel", name := "put", desc := "(I)I" } : Jvm.MethodName) prog_6_method_26_code (3 : Nat) (Option.some Jvm.ClassFile.FieldType.int)) ∈ lw_all := lw_all_of (lw_in6 (List.mem_of_getElem? (i := 1) rfl)) rfl
theorem q1202 : (Jvm.Cond.methodLink "PegshoreHouseLaw" (145 : Nat) ({ cls := "PegshoreHouseModel", name := "now", desc := "()I" } : Jvm.MethodName)) ∈ lw_all := lw_all_of (lw_in6 (List.mem_of_getElem? (i := 2) rfl)) rfl
theorem q1203 : (Jvm.Cond.instanceMethod ({ cls := "PegshoreHouseModel", name := "now", desc := "()I" } : Jvm.MethodName)) ∈ lw_all := lw_all_of (lw_in6 (List.mem_of_getElem? (i := 3) rfl)) rfl
theorem q1204 : (Jvm.Cond.selects "PegshoreHouseModel" ({ cls := "PegshoreHouseModel", name := "now", desc := "()I" } : Jvm.MethodName) ({ cls := "PegshoreHouseModel", name := "now", desc := "()I" } : Jvm.MethodName)) ∈ lw_all := lw_all_of (lw_in6 (List.mem_of_getElem? (i := 4) rfl)) rfl
theorem q1205 : (Jvm.Cond.code ({ cls := "PegshoreHouseModel", name := "now", desc := "()I" } : Jvm.MethodName) prog_6_method_27_code (1 : Nat) (Option.some Jvm.ClassFile.FieldType.int)) ∈ lw_all := lw_all_of (lw_in6 (List.mem_of_getElem? (i := 5) rfl)) rfl
theorem q1206 : (Jvm.Cond.methodLink "PegshoreHouseLaw" (149 : Nat) ({ cls := "PegshoreHouseModel", name := "mayJump", desc := "(II)Z" } : Jvm.MethodName)) ∈ lw_all := lw_all_of (lw_in6 (List.mem_of_getElem? (i := 6) rfl)) rfl
theorem q1207 : (Jvm.Cond.instanceMethod ({ cls := "PegshoreHouseModel", name := "mayJump", desc := "(II)Z" } : Jvm.MethodName)) ∈ lw_all := lw_all_of (lw_in6 (List.mem_of_getElem? (i := 7) rfl)) rfl
theorem q1208 : (Jvm.Cond.selects "PegshoreHouseModel" ({ cls := "PegshoreHouseModel", name := "mayJump", desc := "(II)Z" } : Jvm.MethodName) ({ cls := "PegshoreHouseModel", name := "mayJump", desc := "(II)Z" } : Jvm.MethodName)) ∈ lw_all := lw_all_of (lw_in6 (List.mem_of_getElem? (i := 8) rfl)) rfl
theorem q1209 : (Jvm.Cond.code ({ cls := "PegshoreHouseModel", name := "mayJump", desc := "(II)Z" } : Jvm.MethodName) prog_6_method_32_code (3 : Nat) (Option.some Jvm.ClassFile.FieldType.boolean)) ∈ lw_all := lw_all_of (lw_in6 (List.mem_of_getElem? (i := 9) rfl)) rfl
theorem q1210 : (Jvm.Cond.methodLink "PegshoreHouseModel" (162 : Nat) ({ cls := "PegshoreHouseModel", name := "jumpOf", desc := "(III)I" } : Jvm.MethodName)) ∈ lw_all := lw_all_of (lw_in6 (List.mem_of_getElem? (i := 10) rfl)) rfl
theorem q1212 : (Jvm.Cond.instanceMethod ({ cls := "PegshoreHouseModel", name := "jumpOf", desc := "(III)I" } : Jvm.MethodName)) ∈ lw_all := lw_all_of (lw_in6 (List.mem_of_getElem? (i := 12) rfl)) rfl
theorem q1213 : (Jvm.Cond.code ({ cls := "PegshoreHouseModel", name := "jumpOf", desc := "(III)I" } : Jvm.MethodName) prog_6_method_31_code (5 : Nat) (Option.some Jvm.ClassFile.FieldType.int)) ∈ lw_all := lw_all_of (lw_in6 (List.mem_of_getElem? (i := 13) rfl)) rfl
theorem q1214 : (Jvm.Cond.methodLink "PegshoreHouseModel" (159 : Nat) ({ cls := "PegshoreHouseModel", name := "can", desc := "(II)Z" } : Jvm.MethodName)) ∈ lw_all := lw_all_of (lw_in6 (List.mem_of_getElem? (i := 14) rfl)) rfl
theorem q1216 : (Jvm.Cond.instanceMethod ({ cls := "PegshoreHouseModel", name := "can", desc := "(II)Z" } : Jvm.MethodName)) ∈ lw_all := lw_all_of (lw_in6 (List.mem_of_getElem? (i := 16) rfl)) rfl
theorem q1217 : (Jvm.Cond.code ({ cls := "PegshoreHouseModel", name := "can", desc := "(II)Z" } : Jvm.MethodName) prog_6_method_28_code (3 : Nat) (Option.some Jvm.ClassFile.FieldType.boolean)) ∈ lw_all := lw_all_of (lw_in6 (List.mem_of_getElem? (i := 17) rfl)) rfl
theorem q1218 : (Jvm.Cond.methodLink "PegshoreHouseLaw" (152 : Nat) ({ cls := "PegshoreHouseModel", name := "jump", desc := "(II)I" } : Jvm.MethodName)) ∈ lw_all := lw_all_of (lw_in6 (List.mem_of_getElem? (i := 18) rfl)) rfl
theorem q1219 : (Jvm.Cond.instanceMethod ({ cls := "PegshoreHouseModel", name := "jump", desc := "(II)I" } : Jvm.MethodName)) ∈ lw_all := lw_all_of (lw_in6 (List.mem_of_getElem? (i := 19) rfl)) rfl
theorem q1220 : (Jvm.Cond.selects "PegshoreHouseModel" ({ cls := "PegshoreHouseModel", name := "jump", desc := "(II)I" } : Jvm.MethodName) ({ cls := "PegshoreHouseModel", name := "jump", desc := "(II)I" } : Jvm.MethodName)) ∈ lw_all := lw_all_of (lw_in6 (List.mem_of_getElem? (i := 20) rfl)) rfl
theorem q1221 : (Jvm.Cond.code ({ cls := "PegshoreHouseModel", name := "jump", desc := "(II)I" } : Jvm.MethodName) prog_6_method_35_code (3 : Nat) (Option.some Jvm.ClassFile.FieldType.int)) ∈ lw_all := lw_all_of (lw_in6 (List.mem_of_getElem? (i := 21) rfl)) rfl
theorem q1222 : (Jvm.Cond.methodLink "PegshoreHouseModel" (182 : Nat) ({ cls := "PegshoreHouseModel", name := "whyNoJump", desc := "(II)I" } : Jvm.MethodName)) ∈ lw_all := lw_all_of (lw_in6 (List.mem_of_getElem? (i := 22) rfl)) rfl
theorem q1224 : (Jvm.Cond.instanceMethod ({ cls := "PegshoreHouseModel", name := "whyNoJump", desc := "(II)I" } : Jvm.MethodName)) ∈ lw_all := lw_all_of (lw_in6 (List.mem_of_getElem? (i := 24) rfl)) rfl
theorem q1225 : (Jvm.Cond.code ({ cls := "PegshoreHouseModel", name := "whyNoJump", desc := "(II)I" } : Jvm.MethodName) prog_6_method_34_code (3 : Nat) (Option.some Jvm.ClassFile.FieldType.int)) ∈ lw_all := lw_all_of (lw_in6 (List.mem_of_getElem? (i := 25) rfl)) rfl
theorem q1226 : (Jvm.Cond.methodLink "PegshoreHouseModel" (185 : Nat) ({ cls := "PegshoreHouseModel", name := "makes", desc := "(I)I" } : Jvm.MethodName)) ∈ lw_all := lw_all_of (lw_in6 (List.mem_of_getElem? (i := 26) rfl)) rfl
theorem q1228 : (Jvm.Cond.instanceMethod ({ cls := "PegshoreHouseModel", name := "makes", desc := "(I)I" } : Jvm.MethodName)) ∈ lw_all := lw_all_of (lw_in6 (List.mem_of_getElem? (i := 28) rfl)) rfl
theorem q1229 : (Jvm.Cond.code ({ cls := "PegshoreHouseModel", name := "makes", desc := "(I)I" } : Jvm.MethodName) prog_6_method_33_code (2 : Nat) (Option.some Jvm.ClassFile.FieldType.int)) ∈ lw_all := lw_all_of (lw_in6 (List.mem_of_getElem? (i := 29) rfl)) rfl
theorem q1230 : (Jvm.Cond.methodLink "PegshoreHouseModel" (166 : Nat) ({ cls := "PegshoreHouseModel", name := "behind", desc := "(II)I" } : Jvm.MethodName)) ∈ lw_all := lw_all_of (lw_in6 (List.mem_of_getElem? (i := 30) rfl)) rfl
theorem q1232 : (Jvm.Cond.instanceMethod ({ cls := "PegshoreHouseModel", name := "behind", desc := "(II)I" } : Jvm.MethodName)) ∈ lw_all := lw_all_of (lw_in6 (List.mem_of_getElem? (i := 32) rfl)) rfl
theorem q1233 : (Jvm.Cond.code ({ cls := "PegshoreHouseModel", name := "behind", desc := "(II)I" } : Jvm.MethodName) prog_6_method_29_code (3 : Nat) (Option.some Jvm.ClassFile.FieldType.int)) ∈ lw_all := lw_all_of (lw_in6 (List.mem_of_getElem? (i := 33) rfl)) rfl
theorem q1234 : (Jvm.Cond.methodLink "PegshoreHouseModel" (169 : Nat) ({ cls := "java/lang/Integer", name := "valueOf", desc := "(I)Ljava/lang/Integer;" } : Jvm.MethodName)) ∈ lw_all := lw_all_of (lw_in6 (List.mem_of_getElem? (i := 34) rfl)) rfl
theorem q1235 : (Jvm.Cond.static ({ cls := "java/lang/Integer", name := "valueOf", desc := "(I)Ljava/lang/Integer;" } : Jvm.MethodName)) ∈ lw_all := lw_all_of (lw_in6 (List.mem_of_getElem? (i := 35) rfl)) rfl
theorem q1236 : (Jvm.Cond.code ({ cls := "java/lang/Integer", name := "valueOf", desc := "(I)Ljava/lang/Integer;" } : Jvm.MethodName) prog_21_method_22_code (1 : Nat) (Option.some (Jvm.ClassFile.FieldType.object "java/lang/Integer"))) ∈ lw_all := lw_all_of (lw_in6 (List.mem_of_getElem? (i := 36) rfl)) rfl
theorem q1237 : (Jvm.Cond.fieldLink "java/lang/Integer" (191 : Nat) "java/lang/Integer$IntegerCache" "high" "I") ∈ lw_all := lw_all_of (lw_in6 (List.mem_of_getElem? (i := 37) rfl)) rfl
theorem q1239 : (Jvm.Cond.fieldLink "java/lang/Integer" (195 : Nat) "java/lang/Integer$IntegerCache" "cache" "[Ljava/lang/Integer;") ∈ lw_all := lw_all_of (lw_in6 (List.mem_of_getElem? (i := 39) rfl)) rfl
theorem q1241 : (Jvm.Cond.classLink "java/lang/Integer" (1 : Nat) "java/lang/Integer") ∈ lw_all := lw_all_of (lw_in6 (List.mem_of_getElem? (i := 41) rfl)) rfl
theorem q1242 : (Jvm.Cond.instantiable "java/lang/Integer" (1 : Nat)) ∈ lw_all := lw_all_of (lw_in6 (List.mem_of_getElem? (i := 42) rfl)) rfl
theorem q1243 : (Jvm.Cond.methodLink "java/lang/Integer" (199 : Nat) ({ cls := "java/lang/Integer", name := "<init>", desc := "(I)V" } : Jvm.MethodName)) ∈ lw_all := lw_all_of (lw_in6 (List.mem_of_getElem? (i := 43) rfl)) rfl
theorem q1244 : (Jvm.Cond.instanceMethod ({ cls := "java/lang/Integer", name := "<init>", desc := "(I)V" } : Jvm.MethodName)) ∈ lw_all := lw_all_of (lw_in6 (List.mem_of_getElem? (i := 44) rfl)) rfl
theorem q1245 : (Jvm.Cond.code ({ cls := "java/lang/Integer", name := "<init>", desc := "(I)V" } : Jvm.MethodName) prog_21_method_23_code (2 : Nat) (Option.none : Option Jvm.ClassFile.FieldType)) ∈ lw_all := lw_all_of (lw_in6 (List.mem_of_getElem? (i := 45) rfl)) rfl
theorem q1246 : (Jvm.Cond.methodLink "java/lang/Integer" (202 : Nat) ({ cls := "java/lang/Number", name := "<init>", desc := "()V" } : Jvm.MethodName)) ∈ lw_all := lw_all_of (lw_in6 (List.mem_of_getElem? (i := 46) rfl)) rfl
theorem q1247 : (Jvm.Cond.instanceMethod ({ cls := "java/lang/Number", name := "<init>", desc := "()V" } : Jvm.MethodName)) ∈ lw_all := lw_all_of (lw_in6 (List.mem_of_getElem? (i := 47) rfl)) rfl
theorem q1248 : (Jvm.Cond.code ({ cls := "java/lang/Number", name := "<init>", desc := "()V" } : Jvm.MethodName) prog_25_method_1_code (1 : Nat) (Option.none : Option Jvm.ClassFile.FieldType)) ∈ lw_all := lw_all_of (lw_in6 (List.mem_of_getElem? (i := 48) rfl)) rfl
theorem q1249 : (Jvm.Cond.methodLink "java/lang/Number" (1 : Nat) ({ cls := "java/lang/Object", name := "<init>", desc := "()V" } : Jvm.MethodName)) ∈ lw_all := lw_all_of (lw_in6 (List.mem_of_getElem? (i := 49) rfl)) rfl
theorem q1250 : (Jvm.Cond.fieldLink "java/lang/Integer" (205 : Nat) "java/lang/Integer" "value" "I") ∈ lw_all := lw_all_of (lw_in6 (List.mem_of_getElem? (i := 50) rfl)) rfl
theorem q1251 : (Jvm.Cond.laysFinal "java/lang/Integer" "java/lang/Integer" "value" "I") ∈ lw_all := lw_all_of (lw_in6 (List.mem_of_getElem? (i := 51) rfl)) rfl
theorem q1253 : (Jvm.Cond.superclass "java/lang/Integer" "java/lang/Number") ∈ lw_all := lw_all_of (lw_in6 (List.mem_of_getElem? (i := 53) rfl)) rfl
theorem q1255 : (Jvm.Cond.methodLink "PegshoreHouseModel" (175 : Nat) ({ cls := "java/util/List", name := "add", desc := "(Ljava/lang/Object;)Z" } : Jvm.MethodName)) ∈ lw_all := lw_all_of (lw_in6 (List.mem_of_getElem? (i := 55) rfl)) rfl
theorem q1258 : (Jvm.Cond.selects "java/util/ArrayList" ({ cls := "java/util/List", name := "add", desc := "(Ljava/lang/Object;)Z" } : Jvm.MethodName) ({ cls := "java/util/ArrayList", name := "add", desc := "(Ljava/lang/Object;)Z" } : Jvm.MethodName)) ∈ lw_all := lw_all_of (lw_in6 (List.mem_of_getElem? (i := 58) rfl)) rfl
theorem q1260 : (Jvm.Cond.instanceMethod ({ cls := "java/util/ArrayList", name := "add", desc := "(Ljava/lang/Object;)Z" } : Jvm.MethodName)) ∈ lw_all := lw_all_of (lw_in6 (List.mem_of_getElem? (i := 60) rfl)) rfl
theorem q1262 : (Jvm.Cond.code ({ cls := "java/util/ArrayList", name := "add", desc := "(Ljava/lang/Object;)Z" } : Jvm.MethodName) prog_38_method_25_code (2 : Nat) (Option.some Jvm.ClassFile.FieldType.boolean)) ∈ lw_all := lw_all_of (lw_in6 (List.mem_of_getElem? (i := 62) rfl)) rfl
theorem q1263 : (Jvm.Cond.methodLink "java/util/ArrayList" (131 : Nat) ({ cls := "java/util/ArrayList", name := "add", desc := "(Ljava/lang/Object;[Ljava/lang/Object;I)V" } : Jvm.MethodName)) ∈ lw_all := lw_all_of (lw_in6 (List.mem_of_getElem? (i := 63) rfl)) rfl
theorem q1265 : (Jvm.Cond.instanceMethod ({ cls := "java/util/ArrayList", name := "add", desc := "(Ljava/lang/Object;[Ljava/lang/Object;I)V" } : Jvm.MethodName)) ∈ lw_all := lw_all_of (lw_in6 (List.mem_of_getElem? (i := 65) rfl)) rfl
theorem q1266 : (Jvm.Cond.code ({ cls := "java/util/ArrayList", name := "add", desc := "(Ljava/lang/Object;[Ljava/lang/Object;I)V" } : Jvm.MethodName) prog_38_method_24_code (4 : Nat) (Option.none : Option Jvm.ClassFile.FieldType)) ∈ lw_all := lw_all_of (lw_in6 (List.mem_of_getElem? (i := 66) rfl)) rfl
theorem q1267 : (Jvm.Cond.methodLink "java/util/ArrayList" (129 : Nat) ({ cls := "java/util/ArrayList", name := "grow", desc := "()[Ljava/lang/Object;" } : Jvm.MethodName)) ∈ lw_all := lw_all_of (lw_in6 (List.mem_of_getElem? (i := 67) rfl)) rfl
theorem q1269 : (Jvm.Cond.instanceMethod ({ cls := "java/util/ArrayList", name := "grow", desc := "()[Ljava/lang/Object;" } : Jvm.MethodName)) ∈ lw_all := lw_all_of (lw_in6 (List.mem_of_getElem? (i := 69) rfl)) rfl
theorem q1270 : (Jvm.Cond.code ({ cls := "java/util/ArrayList", name := "grow", desc := "()[Ljava/lang/Object;" } : Jvm.MethodName) prog_38_method_7_code (1 : Nat) (Option.some (Jvm.ClassFile.FieldType.array (Jvm.ClassFile.FieldType.object "java/lang/Object")))) ∈ lw_all := lw_all_of (lw_in6 (List.mem_of_getElem? (i := 70) rfl)) rfl
theorem q1271 : (Jvm.Cond.methodLink "java/util/ArrayList" (69 : Nat) ({ cls := "java/util/ArrayList", name := "grow", desc := "(I)[Ljava/lang/Object;" } : Jvm.MethodName)) ∈ lw_all := lw_all_of (lw_in6 (List.mem_of_getElem? (i := 71) rfl)) rfl
theorem q1273 : (Jvm.Cond.instanceMethod ({ cls := "java/util/ArrayList", name := "grow", desc := "(I)[Ljava/lang/Object;" } : Jvm.MethodName)) ∈ lw_all := lw_all_of (lw_in6 (List.mem_of_getElem? (i := 73) rfl)) rfl
theorem q1274 : (Jvm.Cond.code ({ cls := "java/util/ArrayList", name := "grow", desc := "(I)[Ljava/lang/Object;" } : Jvm.MethodName) prog_38_method_6_code (4 : Nat) (Option.some (Jvm.ClassFile.FieldType.array (Jvm.ClassFile.FieldType.object "java/lang/Object")))) ∈ lw_all := lw_all_of (lw_in6 (List.mem_of_getElem? (i := 74) rfl)) rfl
theorem q1275 : (Jvm.Cond.methodLink "java/util/ArrayList" (73 : Nat) ({ cls := "jdk/internal/util/ArraysSupport", name := "newLength", desc := "(III)I" } : Jvm.MethodName)) ∈ lw_all := lw_all_of (lw_in6 (List.mem_of_getElem? (i := 75) rfl)) rfl
theorem q1276 : (Jvm.Cond.static ({ cls := "jdk/internal/util/ArraysSupport", name := "newLength", desc := "(III)I" } : Jvm.MethodName)) ∈ lw_all := lw_all_of (lw_in6 (List.mem_of_getElem? (i := 76) rfl)) rfl
theorem q1277 : (Jvm.Cond.code ({ cls := "jdk/internal/util/ArraysSupport", name := "newLength", desc := "(III)I" } : Jvm.MethodName) prog_48_method_27_code (4 : Nat) (Option.some Jvm.ClassFile.FieldType.int)) ∈ lw_all := lw_all_of (lw_in6 (List.mem_of_getElem? (i := 77) rfl)) rfl
theorem q1278 : (Jvm.Cond.methodLink "jdk/internal/util/ArraysSupport" (194 : Nat) ({ cls := "java/lang/Math", name := "max", desc := "(II)I" } : Jvm.MethodName)) ∈ lw_all := lw_all_of (lw_in6 (List.mem_of_getElem? (i := 78) rfl)) rfl
theorem q1279 : (Jvm.Cond.constant "jdk/internal/util/ArraysSupport" (200 : Nat) (2147483639 : Int32)) ∈ lw_all := lw_all_of (lw_in6 (List.mem_of_getElem? (i := 79) rfl)) rfl
theorem q1280 : (Jvm.Cond.methodLink "jdk/internal/util/ArraysSupport" (201 : Nat) ({ cls := "jdk/internal/util/ArraysSupport", name := "hugeLength", desc := "(II)I" } : Jvm.MethodName)) ∈ lw_all := lw_all_of (lw_in6 (List.mem_of_getElem? (i := 80) rfl)) rfl
theorem q1281 : (Jvm.Cond.static ({ cls := "jdk/internal/util/ArraysSupport", name := "hugeLength", desc := "(II)I" } : Jvm.MethodName)) ∈ lw_all := lw_all_of (lw_in6 (List.mem_of_getElem? (i := 81) rfl)) rfl
theorem q1282 : (Jvm.Cond.code ({ cls := "jdk/internal/util/ArraysSupport", name := "hugeLength", desc := "(II)I" } : Jvm.MethodName) prog_48_method_28_code (3 : Nat) (Option.some Jvm.ClassFile.FieldType.int)) ∈ lw_all := lw_all_of (lw_in6 (List.mem_of_getElem? (i := 82) rfl)) rfl
theorem q1283 : (Jvm.Cond.methodLink "java/util/ArrayList" (66 : Nat) ({ cls := "java/util/Arrays", name := "copyOf", desc := "([Ljava/lang/Object;I)[Ljava/lang/Object;" } : Jvm.MethodName)) ∈ lw_all := lw_all_of (lw_in6 (List.mem_of_getElem? (i := 83) rfl)) rfl
theorem q1284 : (Jvm.Cond.static ({ cls := "java/util/Arrays", name := "copyOf", desc := "([Ljava/lang/Object;I)[Ljava/lang/Object;" } : Jvm.MethodName)) ∈ lw_all := lw_all_of (lw_in6 (List.mem_of_getElem? (i := 84) rfl)) rfl
theorem q1285 : (Jvm.Cond.code ({ cls := "java/util/Arrays", name := "copyOf", desc := "([Ljava/lang/Object;I)[Ljava/lang/Object;" } : Jvm.MethodName) prog_40_method_119_code (2 : Nat) (Option.some (Jvm.ClassFile.FieldType.array (Jvm.ClassFile.FieldType.object "java/lang/Object")))) ∈ lw_all := lw_all_of (lw_in6 (List.mem_of_getElem? (i := 85) rfl)) rfl
theorem q1286 : (Jvm.Cond.methodLink "java/util/Arrays" (86 : Nat) ({ cls := "java/lang/Object", name := "getClass", desc := "()Ljava/lang/Class;" } : Jvm.MethodName)) ∈ lw_all := lw_all_of (lw_in6 (List.mem_of_getElem? (i := 86) rfl)) rfl
theorem q1287 : (Jvm.Cond.instanceMethod ({ cls := "java/lang/Object", name := "getClass", desc := "()Ljava/lang/Class;" } : Jvm.MethodName)) ∈ lw_all := lw_all_of (lw_in6 (List.mem_of_getElem? (i := 87) rfl)) rfl
theorem q1288 : (Jvm.Cond.sameMethod "java/lang/Object" "java/lang/Object" "getClass" "()Ljava/lang/Class;") ∈ lw_all := lw_all_of (lw_in6 (List.mem_of_getElem? (i := 88) rfl)) rfl
theorem q1289 : (Jvm.Cond.selects "PegshoreHouse" ({ cls := "java/lang/Object", name := "getClass", desc := "()Ljava/lang/Class;" } : Jvm.MethodName) ({ cls := "java/lang/Object", name := "getClass", desc := "()Ljava/lang/Class;" } : Jvm.MethodName)) ∈ lw_all := lw_all_of (lw_in6 (List.mem_of_getElem? (i := 89) rfl)) rfl
theorem q1290 : (Jvm.Cond.selects "PegshoreHouse$Board" ({ cls := "java/lang/Object", name := "getClass", desc := "()Ljava/lang/Class;" } : Jvm.MethodName) ({ cls := "java/lang/Object", name := "getClass", desc := "()Ljava/lang/Class;" } : Jvm.MethodName)) ∈ lw_all := lw_all_of (lw_in6 (List.mem_of_getElem? (i := 90) rfl)) rfl
theorem q1291 : (Jvm.Cond.selects "PegshoreHouse$Row" ({ cls := "java/lang/Object", name := "getClass", desc := "()Ljava/lang/Class;" } : Jvm.MethodName) ({ cls := "java/lang/Object", name := "getClass", desc := "()Ljava/lang/Class;" } : Jvm.MethodName)) ∈ lw_all := lw_all_of (lw_in6 (List.mem_of_getElem? (i := 91) rfl)) rfl
theorem q1292 : (Jvm.Cond.selects "PegshoreHouse$Walk" ({ cls := "java/lang/Object", name := "getClass", desc := "()Ljava/lang/Class;" } : Jvm.MethodName) ({ cls := "java/lang/Object", name := "getClass", desc := "()Ljava/lang/Class;" } : Jvm.MethodName)) ∈ lw_all := lw_all_of (lw_in6 (List.mem_of_getElem? (i := 92) rfl)) rfl
theorem q1293 : (Jvm.Cond.selects "PegshoreHouseModel" ({ cls := "java/lang/Object", name := "getClass", desc := "()Ljava/lang/Class;" } : Jvm.MethodName) ({ cls := "java/lang/Object", name := "getClass", desc := "()Ljava/lang/Class;" } : Jvm.MethodName)) ∈ lw_all := lw_all_of (lw_in6 (List.mem_of_getElem? (i := 93) rfl)) rfl
theorem q1294 : (Jvm.Cond.selects "java/lang/ArithmeticException" ({ cls := "java/lang/Object", name := "getClass", desc := "()Ljava/lang/Class;" } : Jvm.MethodName) ({ cls := "java/lang/Object", name := "getClass", desc := "()Ljava/lang/Class;" } : Jvm.MethodName)) ∈ lw_all := lw_all_of (lw_in6 (List.mem_of_getElem? (i := 94) rfl)) rfl
theorem q1295 : (Jvm.Cond.selects "java/lang/ArrayIndexOutOfBoundsException" ({ cls := "java/lang/Object", name := "getClass", desc := "()Ljava/lang/Class;" } : Jvm.MethodName) ({ cls := "java/lang/Object", name := "getClass", desc := "()Ljava/lang/Class;" } : Jvm.MethodName)) ∈ lw_all := lw_all_of (lw_in6 (List.mem_of_getElem? (i := 95) rfl)) rfl
theorem q1296 : (Jvm.Cond.selects "java/lang/IllegalArgumentException" ({ cls := "java/lang/Object", name := "getClass", desc := "()Ljava/lang/Class;" } : Jvm.MethodName) ({ cls := "java/lang/Object", name := "getClass", desc := "()Ljava/lang/Class;" } : Jvm.MethodName)) ∈ lw_all := lw_all_of (lw_in6 (List.mem_of_getElem? (i := 96) rfl)) rfl
theorem q1297 : (Jvm.Cond.selects "java/lang/IllegalStateException" ({ cls := "java/lang/Object", name := "getClass", desc := "()Ljava/lang/Class;" } : Jvm.MethodName) ({ cls := "java/lang/Object", name := "getClass", desc := "()Ljava/lang/Class;" } : Jvm.MethodName)) ∈ lw_all := lw_all_of (lw_in6 (List.mem_of_getElem? (i := 97) rfl)) rfl
theorem q1298 : (Jvm.Cond.selects "java/lang/IndexOutOfBoundsException" ({ cls := "java/lang/Object", name := "getClass", desc := "()Ljava/lang/Class;" } : Jvm.MethodName) ({ cls := "java/lang/Object", name := "getClass", desc := "()Ljava/lang/Class;" } : Jvm.MethodName)) ∈ lw_all := lw_all_of (lw_in6 (List.mem_of_getElem? (i := 98) rfl)) rfl
theorem q1299 : (Jvm.Cond.selects "java/lang/Integer" ({ cls := "java/lang/Object", name := "getClass", desc := "()Ljava/lang/Class;" } : Jvm.MethodName) ({ cls := "java/lang/Object", name := "getClass", desc := "()Ljava/lang/Class;" } : Jvm.MethodName)) ∈ lw_all := lw_all_of (lw_in6 (List.mem_of_getElem? (i := 99) rfl)) rfl
theorem q1300 : (Jvm.Cond.selects "java/lang/String" ({ cls := "java/lang/Object", name := "getClass", desc := "()Ljava/lang/Class;" } : Jvm.MethodName) ({ cls := "java/lang/Object", name := "getClass", desc := "()Ljava/lang/Class;" } : Jvm.MethodName)) ∈ lw_all := lw_all_of (lw_in6 (List.mem_of_getElem? (i := 100) rfl)) rfl
theorem q1301 : (Jvm.Cond.selects "java/lang/StringBuilder" ({ cls := "java/lang/Object", name := "getClass", desc := "()Ljava/lang/Class;" } : Jvm.MethodName) ({ cls := "java/lang/Object", name := "getClass", desc := "()Ljava/lang/Class;" } : Jvm.MethodName)) ∈ lw_all := lw_all_of (lw_in6 (List.mem_of_getElem? (i := 101) rfl)) rfl
theorem q1302 : (Jvm.Cond.selects "java/lang/UnsupportedOperationException" ({ cls := "java/lang/Object", name := "getClass", desc := "()Ljava/lang/Class;" } : Jvm.MethodName) ({ cls := "java/lang/Object", name := "getClass", desc := "()Ljava/lang/Class;" } : Jvm.MethodName)) ∈ lw_all := lw_all_of (lw_in6 (List.mem_of_getElem? (i := 102) rfl)) rfl
theorem q1303 : (Jvm.Cond.selects "java/util/ArrayList" ({ cls := "java/lang/Object", name := "getClass", desc := "()Ljava/lang/Class;" } : Jvm.MethodName) ({ cls := "java/lang/Object", name := "getClass", desc := "()Ljava/lang/Class;" } : Jvm.MethodName)) ∈ lw_all := lw_all_of (lw_in6 (List.mem_of_getElem? (i := 103) rfl)) rfl
theorem q1304 : (Jvm.Cond.selects "java/util/ArrayList$Itr" ({ cls := "java/lang/Object", name := "getClass", desc := "()Ljava/lang/Class;" } : Jvm.MethodName) ({ cls := "java/lang/Object", name := "getClass", desc := "()Ljava/lang/Class;" } : Jvm.MethodName)) ∈ lw_all := lw_all_of (lw_in6 (List.mem_of_getElem? (i := 104) rfl)) rfl
theorem q1305 : (Jvm.Cond.selects "java/util/NoSuchElementException" ({ cls := "java/lang/Object", name := "getClass", desc := "()Ljava/lang/Class;" } : Jvm.MethodName) ({ cls := "java/lang/Object", name := "getClass", desc := "()Ljava/lang/Class;" } : Jvm.MethodName)) ∈ lw_all := lw_all_of (lw_in6 (List.mem_of_getElem? (i := 105) rfl)) rfl
theorem q1306 : (Jvm.Cond.native ({ cls := "java/lang/Object", name := "getClass", desc := "()Ljava/lang/Class;" } : Jvm.MethodName)) ∈ lw_all := lw_all_of (lw_in6 (List.mem_of_getElem? (i := 106) rfl)) rfl
theorem q1307 : (Jvm.Cond.methodLink "java/util/Arrays" (300 : Nat) ({ cls := "java/util/Arrays", name := "copyOf", desc := "([Ljava/lang/Object;ILjava/lang/Class;)[Ljava/lang/Object;" } : Jvm.MethodName)) ∈ lw_all := lw_all_of (lw_in6 (List.mem_of_getElem? (i := 107) rfl)) rfl
theorem q1308 : (Jvm.Cond.static ({ cls := "java/util/Arrays", name := "copyOf", desc := "([Ljava/lang/Object;ILjava/lang/Class;)[Ljava/lang/Object;" } : Jvm.MethodName)) ∈ lw_all := lw_all_of (lw_in6 (List.mem_of_getElem? (i := 108) rfl)) rfl
theorem q1309 : (Jvm.Cond.code ({ cls := "java/util/Arrays", name := "copyOf", desc := "([Ljava/lang/Object;ILjava/lang/Class;)[Ljava/lang/Object;" } : Jvm.MethodName) prog_40_method_120_code (4 : Nat) (Option.some (Jvm.ClassFile.FieldType.array (Jvm.ClassFile.FieldType.object "java/lang/Object")))) ∈ lw_all := lw_all_of (lw_in6 (List.mem_of_getElem? (i := 109) rfl)) rfl
theorem q1310 : (Jvm.Cond.classLink "java/util/Arrays" (110 : Nat) "[Ljava/lang/Object;") ∈ lw_all := lw_all_of (lw_in6 (List.mem_of_getElem? (i := 110) rfl)) rfl
theorem q1312 : (Jvm.Cond.classLink "java/util/Arrays" (2 : Nat) "java/lang/Object") ∈ lw_all := lw_all_of (lw_in6 (List.mem_of_getElem? (i := 112) rfl)) rfl
theorem q1313 : (Jvm.Cond.methodLink "java/util/Arrays" (304 : Nat) ({ cls := "java/lang/Math", name := "min", desc := "(II)I" } : Jvm.MethodName)) ∈ lw_all := lw_all_of (lw_in6 (List.mem_of_getElem? (i := 113) rfl)) rfl
theorem q1314 : (Jvm.Cond.methodLink "java/util/Arrays" (150 : Nat) ({ cls := "java/lang/System", name := "arraycopy", desc := "(Ljava/lang/Object;ILjava/lang/Object;II)V" } : Jvm.MethodName)) ∈ lw_all := lw_all_of (lw_in6 (List.mem_of_getElem? (i := 114) rfl)) rfl
theorem q1315 : (Jvm.Cond.static ({ cls := "java/lang/System", name := "arraycopy", desc := "(Ljava/lang/Object;ILjava/lang/Object;II)V" } : Jvm.MethodName)) ∈ lw_all := lw_all_of (lw_in6 (List.mem_of_getElem? (i := 115) rfl)) rfl
theorem q1316 : (Jvm.Cond.native ({ cls := "java/lang/System", name := "arraycopy", desc := "(Ljava/lang/Object;ILjava/lang/Object;II)V" } : Jvm.MethodName)) ∈ lw_all := lw_all_of (lw_in6 (List.mem_of_getElem? (i := 116) rfl)) rfl
theorem q1317 : (Jvm.Cond.methodLink "java/util/ArrayList" (79 : Nat) ({ cls := "java/lang/Math", name := "max", desc := "(II)I" } : Jvm.MethodName)) ∈ lw_all := lw_all_of (lw_in6 (List.mem_of_getElem? (i := 117) rfl)) rfl
theorem q1318 : (Jvm.Cond.classLink "java/util/ArrayList" (7 : Nat) "java/lang/Object") ∈ lw_all := lw_all_of (lw_in6 (List.mem_of_getElem? (i := 118) rfl)) rfl
theorem q1319 : (Jvm.Cond.methodLink "PegshoreHouseModel" (179 : Nat) ({ cls := "java/lang/Integer", name := "bitCount", desc := "(I)I" } : Jvm.MethodName)) ∈ lw_all := lw_all_of (lw_in6 (List.mem_of_getElem? (i := 119) rfl)) rfl
theorem q1320 : (Jvm.Cond.methodLink "PegshoreHouseLaw" (156 : Nat) ({ cls := "PegshoreHouseModel", name := "jumps", desc := "()I" } : Jvm.MethodName)) ∈ lw_all := lw_all_of (lw_in6 (List.mem_of_getElem? (i := 120) rfl)) rfl
theorem q1321 : (Jvm.Cond.instanceMethod ({ cls := "PegshoreHouseModel", name := "jumps", desc := "()I" } : Jvm.MethodName)) ∈ lw_all := lw_all_of (lw_in6 (List.mem_of_getElem? (i := 121) rfl)) rfl
theorem q1322 : (Jvm.Cond.selects "PegshoreHouseModel" ({ cls := "PegshoreHouseModel", name := "jumps", desc := "()I" } : Jvm.MethodName) ({ cls := "PegshoreHouseModel", name := "jumps", desc := "()I" } : Jvm.MethodName)) ∈ lw_all := lw_all_of (lw_in6 (List.mem_of_getElem? (i := 122) rfl)) rfl
theorem q1323 : (Jvm.Cond.code ({ cls := "PegshoreHouseModel", name := "jumps", desc := "()I" } : Jvm.MethodName) prog_6_method_37_code (1 : Nat) (Option.some Jvm.ClassFile.FieldType.int)) ∈ lw_all := lw_all_of (lw_in6 (List.mem_of_getElem? (i := 123) rfl)) rfl
theorem q1324 : (Jvm.Cond.methodLink "PegshoreHouseModel" (188 : Nat) ({ cls := "PegshoreHouseModel", name := "jumpsOf", desc := "(I)I" } : Jvm.MethodName)) ∈ lw_all := lw_all_of (lw_in6 (List.mem_of_getElem? (i := 124) rfl)) rfl
theorem q1326 : (Jvm.Cond.instanceMethod ({ cls := "PegshoreHouseModel", name := "jumpsOf", desc := "(I)I" } : Jvm.MethodName)) ∈ lw_all := lw_all_of (lw_in6 (List.mem_of_getElem? (i := 126) rfl)) rfl
theorem q1327 : (Jvm.Cond.code ({ cls := "PegshoreHouseModel", name := "jumpsOf", desc := "(I)I" } : Jvm.MethodName) prog_6_method_36_code (4 : Nat) (Option.some Jvm.ClassFile.FieldType.int)) ∈ lw_all := lw_all_of (lw_in6 (List.mem_of_getElem? (i := 127) rfl)) rfl
theorem q1328 : (Jvm.Cond.methodLink "PegshoreHouseLaw" (159 : Nat) ({ cls := "PegshoreHouseModel", name := "jumpAt", desc := "(I)I" } : Jvm.MethodName)) ∈ lw_all := lw_all_of (lw_in6 (List.mem_of_getElem? (i := 128) rfl)) rfl
theorem q1329 : (Jvm.Cond.instanceMethod ({ cls := "PegshoreHouseModel", name := "jumpAt", desc := "(I)I" } : Jvm.MethodName)) ∈ lw_all := lw_all_of (lw_in6 (List.mem_of_getElem? (i := 129) rfl)) rfl
theorem q1330 : (Jvm.Cond.selects "PegshoreHouseModel" ({ cls := "PegshoreHouseModel", name := "jumpAt", desc := "(I)I" } : Jvm.MethodName) ({ cls := "PegshoreHouseModel", name := "jumpAt", desc := "(I)I" } : Jvm.MethodName)) ∈ lw_all := lw_all_of (lw_in6 (List.mem_of_getElem? (i := 130) rfl)) rfl
theorem q1331 : (Jvm.Cond.code ({ cls := "PegshoreHouseModel", name := "jumpAt", desc := "(I)I" } : Jvm.MethodName) prog_6_method_38_code (4 : Nat) (Option.some Jvm.ClassFile.FieldType.int)) ∈ lw_all := lw_all_of (lw_in6 (List.mem_of_getElem? (i := 131) rfl)) rfl
theorem q1332 : (Jvm.Cond.methodLink "PegshoreHouseModel" (191 : Nat) ({ cls := "PegshoreHouseModel", name := "codeOf", desc := "(I)I" } : Jvm.MethodName)) ∈ lw_all := lw_all_of (lw_in6 (List.mem_of_getElem? (i := 132) rfl)) rfl
theorem q1334 : (Jvm.Cond.instanceMethod ({ cls := "PegshoreHouseModel", name := "codeOf", desc := "(I)I" } : Jvm.MethodName)) ∈ lw_all := lw_all_of (lw_in6 (List.mem_of_getElem? (i := 134) rfl)) rfl
theorem q1335 : (Jvm.Cond.code ({ cls := "PegshoreHouseModel", name := "codeOf", desc := "(I)I" } : Jvm.MethodName) prog_6_method_30_code (2 : Nat) (Option.some Jvm.ClassFile.FieldType.int)) ∈ lw_all := lw_all_of (lw_in6 (List.mem_of_getElem? (i := 135) rfl)) rfl
theorem q1336 : (Jvm.Cond.methodLink "PegshoreHouseLaw" (163 : Nat) ({ cls := "PegshoreHouseModel", name := "takeBack", desc := "()I" } : Jvm.MethodName)) ∈ lw_all := lw_all_of (lw_in6 (List.mem_of_getElem? (i := 136) rfl)) rfl
theorem q1337 : (Jvm.Cond.instanceMethod ({ cls := "PegshoreHouseModel", name := "takeBack", desc := "()I" } : Jvm.MethodName)) ∈ lw_all := lw_all_of (lw_in6 (List.mem_of_getElem? (i := 137) rfl)) rfl
theorem q1338 : (Jvm.Cond.selects "PegshoreHouseModel" ({ cls := "PegshoreHouseModel", name := "takeBack", desc := "()I" } : Jvm.MethodName) ({ cls := "PegshoreHouseModel", name := "takeBack", desc := "()I" } : Jvm.MethodName)) ∈ lw_all := lw_all_of (lw_in6 (List.mem_of_getElem? (i := 138) rfl)) rfl
theorem q1339 : (Jvm.Cond.code ({ cls := "PegshoreHouseModel", name := "takeBack", desc := "()I" } : Jvm.MethodName) prog_6_method_39_code (2 : Nat) (Option.some Jvm.ClassFile.FieldType.int)) ∈ lw_all := lw_all_of (lw_in6 (List.mem_of_getElem? (i := 139) rfl)) rfl
theorem q1341 : (Jvm.Cond.methodLink "PegshoreHouseModel" (194 : Nat) ({ cls := "java/util/List", name := "isEmpty", desc := "()Z" } : Jvm.MethodName)) ∈ lw_all := lw_all_of (lw_in6 (List.mem_of_getElem? (i := 141) rfl)) rfl
theorem q1344 : (Jvm.Cond.selects "java/util/ArrayList" ({ cls := "java/util/List", name := "isEmpty", desc := "()Z" } : Jvm.MethodName) ({ cls := "java/util/ArrayList", name := "isEmpty", desc := "()Z" } : Jvm.MethodName)) ∈ lw_all := lw_all_of (lw_in6 (List.mem_of_getElem? (i := 144) rfl)) rfl
theorem q1346 : (Jvm.Cond.instanceMethod ({ cls := "java/util/ArrayList", name := "isEmpty", desc := "()Z" } : Jvm.MethodName)) ∈ lw_all := lw_all_of (lw_in6 (List.mem_of_getElem? (i := 146) rfl)) rfl
theorem q1348 : (Jvm.Cond.code ({ cls := "java/util/ArrayList", name := "isEmpty", desc := "()Z" } : Jvm.MethodName) prog_38_method_9_code (1 : Nat) (Option.some Jvm.ClassFile.FieldType.boolean)) ∈ lw_all := lw_all_of (lw_in6 (List.mem_of_getElem? (i := 148) rfl)) rfl
theorem q1350 : (Jvm.Cond.methodLink "PegshoreHouseModel" (198 : Nat) ({ cls := "java/util/List", name := "size", desc := "()I" } : Jvm.MethodName)) ∈ lw_all := lw_all_of (lw_in6 (List.mem_of_getElem? (i := 150) rfl)) rfl
theorem q1353 : (Jvm.Cond.selects "java/util/ArrayList" ({ cls := "java/util/List", name := "size", desc := "()I" } : Jvm.MethodName) ({ cls := "java/util/ArrayList", name := "size", desc := "()I" } : Jvm.MethodName)) ∈ lw_all := lw_all_of (lw_in6 (List.mem_of_getElem? (i := 153) rfl)) rfl
theorem q1355 : (Jvm.Cond.instanceMethod ({ cls := "java/util/ArrayList", name := "size", desc := "()I" } : Jvm.MethodName)) ∈ lw_all := lw_all_of (lw_in6 (List.mem_of_getElem? (i := 155) rfl)) rfl
theorem q1357 : (Jvm.Cond.code ({ cls := "java/util/ArrayList", name := "size", desc := "()I" } : Jvm.MethodName) prog_38_method_8_code (1 : Nat) (Option.some Jvm.ClassFile.FieldType.int)) ∈ lw_all := lw_all_of (lw_in6 (List.mem_of_getElem? (i := 157) rfl)) rfl
theorem q1359 : (Jvm.Cond.methodLink "PegshoreHouseModel" (202 : Nat) ({ cls := "java/util/List", name := "remove", desc := "(I)Ljava/lang/Object;" } : Jvm.MethodName)) ∈ lw_all := lw_all_of (lw_in6 (List.mem_of_getElem? (i := 159) rfl)) rfl
theorem q1362 : (Jvm.Cond.selects "java/util/ArrayList" ({ cls := "java/util/List", name := "remove", desc := "(I)Ljava/lang/Object;" } : Jvm.MethodName) ({ cls := "java/util/ArrayList", name := "remove", desc := "(I)Ljava/lang/Object;" } : Jvm.MethodName)) ∈ lw_all := lw_all_of (lw_in6 (List.mem_of_getElem? (i := 162) rfl)) rfl
theorem q1364 : (Jvm.Cond.instanceMethod ({ cls := "java/util/ArrayList", name := "remove", desc := "(I)Ljava/lang/Object;" } : Jvm.MethodName)) ∈ lw_all := lw_all_of (lw_in6 (List.mem_of_getElem? (i := 164) rfl)) rfl
theorem q1366 : (Jvm.Cond.code ({ cls := "java/util/ArrayList", name := "remove", desc := "(I)Ljava/lang/Object;" } : Jvm.MethodName) prog_38_method_29_code (4 : Nat) (Option.some (Jvm.ClassFile.FieldType.object "java/lang/Object"))) ∈ lw_all := lw_all_of (lw_in6 (List.mem_of_getElem? (i := 166) rfl)) rfl
theorem q1367 : (Jvm.Cond.methodLink "java/util/ArrayList" (118 : Nat) ({ cls := "java/util/Objects", name := "checkIndex", desc := "(II)I" } : Jvm.MethodName)) ∈ lw_all := lw_all_of (lw_in6 (List.mem_of_getElem? (i := 167) rfl)) rfl
theorem q1368 : (Jvm.Cond.static ({ cls := "java/util/Objects", name := "checkIndex", desc := "(II)I" } : Jvm.MethodName)) ∈ lw_all := lw_all_of (lw_in6 (List.mem_of_getElem? (i := 168) rfl)) rfl
theorem q1369 : (Jvm.Cond.code ({ cls := "java/util/Objects", name := "checkIndex", desc := "(II)I" } : Jvm.MethodName) prog_45_method_17_code (2 : Nat) (Option.some Jvm.ClassFile.FieldType.int)) ∈ lw_all := lw_all_of (lw_in6 (List.mem_of_getElem? (i := 169) rfl)) rfl
theorem q1370 : (Jvm.Cond.methodLink "java/util/Objects" (105 : Nat) ({ cls := "jdk/internal/util/Preconditions", name := "checkIndex", desc := "(IILjava/util/function/BiFunction;)I" } : Jvm.MethodName)) ∈ lw_all := lw_all_of (lw_in6 (List.mem_of_getElem? (i := 170) rfl)) rfl
theorem q1371 : (Jvm.Cond.methodLink "java/util/ArrayList" (144 : Nat) ({ cls := "java/util/ArrayList", name := "fastRemove", desc := "([Ljava/lang/Object;I)V" } : Jvm.MethodName)) ∈ lw_all := lw_all_of (lw_in6 (List.mem_of_getElem? (i := 171) rfl)) rfl
theorem q1373 : (Jvm.Cond.instanceMethod ({ cls := "java/util/ArrayList", name := "fastRemove", desc := "([Ljava/lang/Object;I)V" } : Jvm.MethodName)) ∈ lw_all := lw_all_of (lw_in6 (List.mem_of_getElem? (i := 173) rfl)) rfl
theorem q1374 : (Jvm.Cond.code ({ cls := "java/util/ArrayList", name := "fastRemove", desc := "([Ljava/lang/Object;I)V" } : Jvm.MethodName) prog_38_method_39_code (4 : Nat) (Option.none : Option Jvm.ClassFile.FieldType)) ∈ lw_all := lw_all_of (lw_in6 (List.mem_of_getElem? (i := 174) rfl)) rfl
theorem q1375 : (Jvm.Cond.methodLink "java/util/ArrayList" (112 : Nat) ({ cls := "java/lang/System", name := "arraycopy", desc := "(Ljava/lang/Object;ILjava/lang/Object;II)V" } : Jvm.MethodName)) ∈ lw_all := lw_all_of (lw_in6 (List.mem_of_getElem? (i := 175) rfl)) rfl
theorem q1376 : (Jvm.Cond.classLink "PegshoreHouseModel" (170 : Nat) "java/lang/Integer") ∈ lw_all := lw_all_of (lw_in6 (List.mem_of_getElem? (i := 176) rfl)) rfl
theorem q1377 : (Jvm.Cond.methodLink "PegshoreHouseModel" (206 : Nat) ({ cls := "java/lang/Integer", name := "intValue", desc := "()I" } : Jvm.MethodName)) ∈ lw_all := lw_all_of (lw_in6 (List.mem_of_getElem? (i := 177) rfl)) rfl
theorem q1378 : (Jvm.Cond.instanceMethod ({ cls := "java/lang/Integer", name := "intValue", desc := "()I" } : Jvm.MethodName)) ∈ lw_all := lw_all_of (lw_in6 (List.mem_of_getElem? (i := 178) rfl)) rfl
theorem q1379 : (Jvm.Cond.selects "java/lang/Integer" ({ cls := "java/lang/Integer", name := "intValue", desc := "()I" } : Jvm.MethodName) ({ cls := "java/lang/Integer", name := "intValue", desc := "()I" } : Jvm.MethodName)) ∈ lw_all := lw_all_of (lw_in6 (List.mem_of_getElem? (i := 179) rfl)) rfl
theorem q1380 : (Jvm.Cond.code ({ cls := "java/lang/Integer", name := "intValue", desc := "()I" } : Jvm.MethodName) prog_21_method_27_code (1 : Nat) (Option.some Jvm.ClassFile.FieldType.int)) ∈ lw_all := lw_all_of (lw_in6 (List.mem_of_getElem? (i := 180) rfl)) rfl
theorem q1381 : (Jvm.Cond.methodLink "PegshoreHouseLaw" (167 : Nat) ({ cls := "PegshoreHouseModel", name := "made", desc := "()I" } : Jvm.MethodName)) ∈ lw_all := lw_all_of (lw_in6 (List.mem_of_getElem? (i := 181) rfl)) rfl
theorem q1382 : (Jvm.Cond.instanceMethod ({ cls := "PegshoreHouseModel", name := "made", desc := "()I" } : Jvm.MethodName)) ∈ lw_all := lw_all_of (lw_in6 (List.mem_of_getElem? (i := 182) rfl)) rfl
theorem q1383 : (Jvm.Cond.selects "PegshoreHouseModel" ({ cls := "PegshoreHouseModel", name := "made", desc := "()I" } : Jvm.MethodName) ({ cls := "PegshoreHouseModel", name := "made", desc := "()I" } : Jvm.MethodName)) ∈ lw_all := lw_all_of (lw_in6 (List.mem_of_getElem? (i := 183) rfl)) rfl
theorem q1384 : (Jvm.Cond.code ({ cls := "PegshoreHouseModel", name := "made", desc := "()I" } : Jvm.MethodName) prog_6_method_40_code (1 : Nat) (Option.some Jvm.ClassFile.FieldType.int)) ∈ lw_all := lw_all_of (lw_in6 (List.mem_of_getElem? (i := 184) rfl)) rfl
theorem q1385 : (Jvm.Cond.methodLink "PegshoreHouseLaw" (171 : Nat) ({ cls := "PegshoreHouseModel", name := "sweeps", desc := "()I" } : Jvm.MethodName)) ∈ lw_all := lw_all_of (lw_in6 (List.mem_of_getElem? (i := 185) rfl)) rfl
theorem q1386 : (Jvm.Cond.instanceMethod ({ cls := "PegshoreHouseModel", name := "sweeps", desc := "()I" } : Jvm.MethodName)) ∈ lw_all := lw_all_of (lw_in6 (List.mem_of_getElem? (i := 186) rfl)) rfl
theorem q1387 : (Jvm.Cond.selects "PegshoreHouseModel" ({ cls := "PegshoreHouseModel", name := "sweeps", desc := "()I" } : Jvm.MethodName) ({ cls := "PegshoreHouseModel", name := "sweeps", desc := "()I" } : Jvm.MethodName)) ∈ lw_all := lw_all_of (lw_in6 (List.mem_of_getElem? (i := 187) rfl)) rfl
theorem q1388 : (Jvm.Cond.code ({ cls := "PegshoreHouseModel", name := "sweeps", desc := "()I" } : Jvm.MethodName) prog_6_method_41_code (3 : Nat) (Option.some Jvm.ClassFile.FieldType.int)) ∈ lw_all := lw_all_of (lw_in6 (List.mem_of_getElem? (i := 188) rfl)) rfl
theorem q1390 : (Jvm.Cond.methodLink "PegshoreHouseModel" (209 : Nat) ({ cls := "java/util/List", name := "get", desc := "(I)Ljava/lang/Object;" } : Jvm.MethodName)) ∈ lw_all := lw_all_of (lw_in6 (List.mem_of_getElem? (i := 190) rfl)) rfl
theorem q1393 : (Jvm.Cond.selects "java/util/ArrayList" ({ cls := "java/util/List", name := "get", desc := "(I)Ljava/lang/Object;" } : Jvm.MethodName) ({ cls := "java/util/ArrayList", name := "get", desc := "(I)Ljava/lang/Object;" } : Jvm.MethodName)) ∈ lw_all := lw_all_of (lw_in6 (List.mem_of_getElem? (i := 193) rfl)) rfl
theorem q1395 : (Jvm.Cond.instanceMethod ({ cls := "java/util/ArrayList", name := "get", desc := "(I)Ljava/lang/Object;" } : Jvm.MethodName)) ∈ lw_all := lw_all_of (lw_in6 (List.mem_of_getElem? (i := 195) rfl)) rfl
theorem q1397 : (Jvm.Cond.code ({ cls := "java/util/ArrayList", name := "get", desc := "(I)Ljava/lang/Object;" } : Jvm.MethodName) prog_38_method_20_code (2 : Nat) (Option.some (Jvm.ClassFile.FieldType.object "java/lang/Object"))) ∈ lw_all := lw_all_of (lw_in6 (List.mem_of_getElem? (i := 197) rfl)) rfl
theorem q1398 : (Jvm.Cond.methodLink "java/util/ArrayList" (123 : Nat) ({ cls := "java/util/ArrayList", name := "elementData", desc := "(I)Ljava/lang/Object;" } : Jvm.MethodName)) ∈ lw_all := lw_all_of (lw_in6 (List.mem_of_getElem? (i := 198) rfl)) rfl
theorem q1399 : (Jvm.Cond.instanceMethod ({ cls := "java/util/ArrayList", name := "elementData", desc := "(I)Ljava/lang/Object;" } : Jvm.MethodName)) ∈ lw_all := lw_all_of (lw_in6 (List.mem_of_getElem? (i := 199) rfl)) rfl
theorem q1400 : (Jvm.Cond.selects "java/util/ArrayList" ({ cls := "java/util/ArrayList", name := "elementData", desc := "(I)Ljava/lang/Object;" } : Jvm.MethodName) ({ cls := "java/util/ArrayList", name := "elementData", desc := "(I)Ljava/lang/Object;" } : Jvm.MethodName)) ∈ lw_all := lw_all_of (lw_in6 (List.mem_of_getElem? (i := 200) rfl)) rfl
theorem q1401 : (Jvm.Cond.code ({ cls := "java/util/ArrayList", name := "elementData", desc := "(I)Ljava/lang/Object;" } : Jvm.MethodName) prog_38_method_18_code (2 : Nat) (Option.some (Jvm.ClassFile.FieldType.object "java/lang/Object"))) ∈ lw_all := lw_all_of (lw_in6 (List.mem_of_getElem? (i := 201) rfl)) rfl
theorem q1402 : (Jvm.Cond.methodLink "PegshoreHouseLaw" (177 : Nat) ({ cls := "PegshoreHouseModel", name := "setEnd", desc := "(I)I" } : Jvm.MethodName)) ∈ lw_all := lw_all_of (lw_in6 (List.mem_of_getElem? (i := 202) rfl)) rfl
theorem q1403 : (Jvm.Cond.instanceMethod ({ cls := "PegshoreHouseModel", name := "setEnd", desc := "(I)I" } : Jvm.MethodName)) ∈ lw_all := lw_all_of (lw_in6 (List.mem_of_getElem? (i := 203) rfl)) rfl
theorem q1404 : (Jvm.Cond.selects "PegshoreHouseModel" ({ cls := "PegshoreHouseModel", name := "setEnd", desc := "(I)I" } : Jvm.MethodName) ({ cls := "PegshoreHouseModel", name := "setEnd", desc := "(I)I" } : Jvm.MethodName)) ∈ lw_all := lw_all_of (lw_in6 (List.mem_of_getElem? (i := 204) rfl)) rfl
theorem q1405 : (Jvm.Cond.code ({ cls := "PegshoreHouseModel", name := "setEnd", desc := "(I)I" } : Jvm.MethodName) prog_6_method_42_code (3 : Nat) (Option.some Jvm.ClassFile.FieldType.int)) ∈ lw_all := lw_all_of (lw_in6 (List.mem_of_getElem? (i := 205) rfl)) rfl
theorem q1406 : (Jvm.Cond.methodLink "PegshoreHouseLaw" (182 : Nat) ({ cls := "PegshoreHouseModel", name := "canEnd", desc := "()Z" } : Jvm.MethodName)) ∈ lw_all := lw_all_of (lw_in6 (List.mem_of_getElem? (i := 206) rfl)) rfl
theorem q1407 : (Jvm.Cond.instanceMethod ({ cls := "PegshoreHouseModel", name := "canEnd", desc := "()Z" } : Jvm.MethodName)) ∈ lw_all := lw_all_of (lw_in6 (List.mem_of_getElem? (i := 207) rfl)) rfl
theorem q1408 : (Jvm.Cond.selects "PegshoreHouseModel" ({ cls := "PegshoreHouseModel", name := "canEnd", desc := "()Z" } : Jvm.MethodName) ({ cls := "PegshoreHouseModel", name := "canEnd", desc := "()Z" } : Jvm.MethodName)) ∈ lw_all := lw_all_of (lw_in6 (List.mem_of_getElem? (i := 208) rfl)) rfl
theorem q1409 : (Jvm.Cond.code ({ cls := "PegshoreHouseModel", name := "canEnd", desc := "()Z" } : Jvm.MethodName) prog_6_method_45_code (1 : Nat) (Option.some Jvm.ClassFile.FieldType.boolean)) ∈ lw_all := lw_all_of (lw_in6 (List.mem_of_getElem? (i := 209) rfl)) rfl
theorem q1410 : (Jvm.Cond.methodLink "PegshoreHouseModel" (215 : Nat) ({ cls := "PegshoreHouseModel", name := "waysNow", desc := "()J" } : Jvm.MethodName)) ∈ lw_all := lw_all_of (lw_in6 (List.mem_of_getElem? (i := 210) rfl)) rfl
theorem q1412 : (Jvm.Cond.instanceMethod ({ cls := "PegshoreHouseModel", name := "waysNow", desc := "()J" } : Jvm.MethodName)) ∈ lw_all := lw_all_of (lw_in6 (List.mem_of_getElem? (i := 212) rfl)) rfl
theorem q1413 : (Jvm.Cond.code ({ cls := "PegshoreHouseModel", name := "waysNow", desc := "()J" } : Jvm.MethodName) prog_6_method_44_code (1 : Nat) (Option.some Jvm.ClassFile.FieldType.long)) ∈ lw_all := lw_all_of (lw_in6 (List.mem_of_getElem? (i := 213) rfl)) rfl
theorem q1414 : (Jvm.Cond.methodLink "PegshoreHouseModel" (212 : Nat) ({ cls := "PegshoreHouseModel", name := "counts", desc := "()V" } : Jvm.MethodName)) ∈ lw_all := lw_all_of (lw_in6 (List.mem_of_getElem? (i := 214) rfl)) rfl
theorem q1416 : (Jvm.Cond.instanceMethod ({ cls := "PegshoreHouseModel", name := "counts", desc := "()V" } : Jvm.MethodName)) ∈ lw_all := lw_all_of (lw_in6 (List.mem_of_getElem? (i := 216) rfl)) rfl
theorem q1417 : (Jvm.Cond.code ({ cls := "PegshoreHouseModel", name := "counts", desc := "()V" } : Jvm.MethodName) prog_6_method_43_code (4 : Nat) (Option.none : Option Jvm.ClassFile.FieldType)) ∈ lw_all := lw_all_of (lw_in6 (List.mem_of_getElem? (i := 217) rfl)) rfl
theorem q1418 : (Jvm.Cond.methodLink "PegshoreHouseLaw" (187 : Nat) ({ cls := "PegshoreHouseModel", name := "ways", desc := "()J" } : Jvm.MethodName)) ∈ lw_all := lw_all_of (lw_in6 (List.mem_of_getElem? (i := 218) rfl)) rfl
theorem q1419 : (Jvm.Cond.instanceMethod ({ cls := "PegshoreHouseModel", name := "ways", desc := "()J" } : Jvm.MethodName)) ∈ lw_all := lw_all_of (lw_in6 (List.mem_of_getElem? (i := 219) rfl)) rfl
theorem q1420 : (Jvm.Cond.selects "PegshoreHouseModel" ({ cls := "PegshoreHouseModel", name := "ways", desc := "()J" } : Jvm.MethodName) ({ cls := "PegshoreHouseModel", name := "ways", desc := "()J" } : Jvm.MethodName)) ∈ lw_all := lw_all_of (lw_in6 (List.mem_of_getElem? (i := 220) rfl)) rfl
theorem q1421 : (Jvm.Cond.code ({ cls := "PegshoreHouseModel", name := "ways", desc := "()J" } : Jvm.MethodName) prog_6_method_46_code (1 : Nat) (Option.some Jvm.ClassFile.FieldType.long)) ∈ lw_all := lw_all_of (lw_in6 (List.mem_of_getElem? (i := 221) rfl)) rfl
theorem q1422 : (Jvm.Cond.methodLink "PegshoreHouseLaw" (190 : Nat) ({ cls := "PegshoreHouseModel", name := "hint", desc := "()I" } : Jvm.MethodName)) ∈ lw_all := lw_all_of (lw_in6 (List.mem_of_getElem? (i := 222) rfl)) rfl
theorem q1423 : (Jvm.Cond.instanceMethod ({ cls := "PegshoreHouseModel", name := "hint", desc := "()I" } : Jvm.MethodName)) ∈ lw_all := lw_all_of (lw_in6 (List.mem_of_getElem? (i := 223) rfl)) rfl
theorem q1424 : (Jvm.Cond.selects "PegshoreHouseModel" ({ cls := "PegshoreHouseModel", name := "hint", desc := "()I" } : Jvm.MethodName) ({ cls := "PegshoreHouseModel", name := "hint", desc := "()I" } : Jvm.MethodName)) ∈ lw_all := lw_all_of (lw_in6 (List.mem_of_getElem? (i := 224) rfl)) rfl
theorem q1425 : (Jvm.Cond.code ({ cls := "PegshoreHouseModel", name := "hint", desc := "()I" } : Jvm.MethodName) prog_6_method_47_code (2 : Nat) (Option.some Jvm.ClassFile.FieldType.int)) ∈ lw_all := lw_all_of (lw_in6 (List.mem_of_getElem? (i := 225) rfl)) rfl
theorem q1426 : (Jvm.Cond.methodLink "PegshoreHouseLaw" (193 : Nat) ({ cls := "PegshoreHouseModel", name := "loses", desc := "(II)Z" } : Jvm.MethodName)) ∈ lw_all := lw_all_of (lw_in6 (List.mem_of_getElem? (i := 226) rfl)) rfl
theorem q1427 : (Jvm.Cond.instanceMethod ({ cls := "PegshoreHouseModel", name := "loses", desc := "(II)Z" } : Jvm.MethodName)) ∈ lw_all := lw_all_of (lw_in6 (List.mem_of_getElem? (i := 227) rfl)) rfl
theorem q1428 : (Jvm.Cond.selects "PegshoreHouseModel" ({ cls := "PegshoreHouseModel", name := "loses", desc := "(II)Z" } : Jvm.MethodName) ({ cls := "PegshoreHouseModel", name := "loses", desc := "(II)Z" } : Jvm.MethodName)) ∈ lw_all := lw_all_of (lw_in6 (List.mem_of_getElem? (i := 228) rfl)) rfl
theorem q1429 : (Jvm.Cond.code ({ cls := "PegshoreHouseModel", name := "loses", desc := "(II)Z" } : Jvm.MethodName) prog_6_method_48_code (3 : Nat) (Option.some Jvm.ClassFile.FieldType.boolean)) ∈ lw_all := lw_all_of (lw_in6 (List.mem_of_getElem? (i := 229) rfl)) rfl
theorem q1430 : (Jvm.Cond.methodLink "PegshoreHouseLaw" (197 : Nat) ({ cls := "PegshoreHouseModel", name := "reached", desc := "()I" } : Jvm.MethodName)) ∈ lw_all := lw_all_of (lw_in6 (List.mem_of_getElem? (i := 230) rfl)) rfl
theorem q1431 : (Jvm.Cond.instanceMethod ({ cls := "PegshoreHouseModel", name := "reached", desc := "()I" } : Jvm.MethodName)) ∈ lw_all := lw_all_of (lw_in6 (List.mem_of_getElem? (i := 231) rfl)) rfl
theorem q1432 : (Jvm.Cond.selects "PegshoreHouseModel" ({ cls := "PegshoreHouseModel", name := "reached", desc := "()I" } : Jvm.MethodName) ({ cls := "PegshoreHouseModel", name := "reached", desc := "()I" } : Jvm.MethodName)) ∈ lw_all := lw_all_of (lw_in6 (List.mem_of_getElem? (i := 232) rfl)) rfl
theorem q1433 : (Jvm.Cond.code ({ cls := "PegshoreHouseModel", name := "reached", desc := "()I" } : Jvm.MethodName) prog_6_method_50_code (1 : Nat) (Option.some Jvm.ClassFile.FieldType.int)) ∈ lw_all := lw_all_of (lw_in6 (List.mem_of_getElem? (i := 233) rfl)) rfl
theorem q1434 : (Jvm.Cond.methodLink "PegshoreHouseModel" (222 : Nat) ({ cls := "PegshoreHouseModel", name := "reaches", desc := "()I" } : Jvm.MethodName)) ∈ lw_all := lw_all_of (lw_in6 (List.mem_of_getElem? (i := 234) rfl)) rfl
theorem q1436 : (Jvm.Cond.instanceMethod ({ cls := "PegshoreHouseModel", name := "reaches", desc := "()I" } : Jvm.MethodName)) ∈ lw_all := lw_all_of (lw_in6 (List.mem_of_getElem? (i := 236) rfl)) rfl
theorem q1437 : (Jvm.Cond.code ({ cls := "PegshoreHouseModel", name := "reaches", desc := "()I" } : Jvm.MethodName) prog_6_method_49_code (5 : Nat) (Option.some Jvm.ClassFile.FieldType.int)) ∈ lw_all := lw_all_of (lw_in6 (List.mem_of_getElem? (i := 237) rfl)) rfl
theorem q1438 : (Jvm.Cond.methodLink "PegshoreHouseModel" (219 : Nat) ({ cls := "java/util/Arrays", name := "fill", desc := "([ZIIZ)V" } : Jvm.MethodName)) ∈ lw_all := lw_all_of (lw_in6 (List.mem_of_getElem? (i := 238) rfl)) rfl
theorem q1439 : (Jvm.Cond.static ({ cls := "java/util/Arrays", name := "fill", desc := "([ZIIZ)V" } : Jvm.MethodName)) ∈ lw_all := lw_all_of (lw_in6 (List.mem_of_getElem? (i := 239) rfl)) rfl
theorem q1440 : (Jvm.Cond.code ({ cls := "java/util/Arrays", name := "fill", desc := "([ZIIZ)V" } : Jvm.MethodName) prog_40_method_112_code (5 : Nat) (Option.none : Option Jvm.ClassFile.FieldType)) ∈ lw_all := lw_all_of (lw_in7 (List.mem_of_getElem? (i := 0) rfl)) rfl
theorem q1441 : (Jvm.Cond.methodLink "java/util/Arrays" (13 : Nat) ({ cls := "java/util/Arrays", name := "rangeCheck", desc := "(III)V" } : Jvm.MethodName)) ∈ lw_all := lw_all_of (lw_in7 (List.mem_of_getElem? (i := 1) rfl)) rfl
theorem q1442 : (Jvm.Cond.static ({ cls := "java/util/Arrays", name := "rangeCheck", desc := "(III)V" } : Jvm.MethodName)) ∈ lw_all := lw_all_of (lw_in7 (List.mem_of_getElem? (i := 2) rfl)) rfl
theorem q1443 : (Jvm.Cond.code ({ cls := "java/util/Arrays", name := "rangeCheck", desc := "(III)V" } : Jvm.MethodName) prog_40_method_30_code (3 : Nat) (Option.none : Option Jvm.ClassFile.FieldType)) ∈ lw_all := lw_all_of (lw_in7 (List.mem_of_getElem? (i := 3) rfl)) rfl
theorem q1444 : (Jvm.Cond.classLink "java/util/Arrays" (43 : Nat) "java/lang/IllegalArgumentException") ∈ lw_all := lw_all_of (lw_in7 (List.mem_of_getElem? (i := 4) rfl)) rfl
theorem q1445 : (Jvm.Cond.classLink "java/util/Arrays" (45 : Nat) "java/lang/StringBuilder") ∈ lw_all := lw_all_of (lw_in7 (List.mem_of_getElem? (i := 5) rfl)) rfl
theorem q1446 : (Jvm.Cond.instantiable "java/lang/StringBuilder" (4 : Nat)) ∈ lw_all := lw_all_of (lw_in7 (List.mem_of_getElem? (i := 6) rfl)) rfl
theorem q1447 : (Jvm.Cond.methodLink "java/util/Arrays" (47 : Nat) ({ cls := "java/lang/StringBuilder", name := "<init>", desc := "()V" } : Jvm.MethodName)) ∈ lw_all := lw_all_of (lw_in7 (List.mem_of_getElem? (i := 7) rfl)) rfl
theorem q1448 : (Jvm.Cond.instanceMethod ({ cls := "java/lang/StringBuilder", name := "<init>", desc := "()V" } : Jvm.MethodName)) ∈ lw_all := lw_all_of (lw_in7 (List.mem_of_getElem? (i := 8) rfl)) rfl
theorem q1449 : (Jvm.Cond.code ({ cls := "java/lang/StringBuilder", name := "<init>", desc := "()V" } : Jvm.MethodName) prog_28_method_1_code (1 : Nat) (Option.none : Option Jvm.ClassFile.FieldType)) ∈ lw_all := lw_all_of (lw_in7 (List.mem_of_getElem? (i := 9) rfl)) rfl
theorem q1450 : (Jvm.Cond.methodLink "java/lang/StringBuilder" (1 : Nat) ({ cls := "java/lang/AbstractStringBuilder", name := "<init>", desc := "(I)V" } : Jvm.MethodName)) ∈ lw_all := lw_all_of (lw_in7 (List.mem_of_getElem? (i := 10) rfl)) rfl
theorem q1451 : (Jvm.Cond.instanceMethod ({ cls := "java/lang/AbstractStringBuilder", name := "<init>", desc := "(I)V" } : Jvm.MethodName)) ∈ lw_all := lw_all_of (lw_in7 (List.mem_of_getElem? (i := 11) rfl)) rfl
theorem q1452 : (Jvm.Cond.code ({ cls := "java/lang/AbstractStringBuilder", name := "<init>", desc := "(I)V" } : Jvm.MethodName) prog_8_method_2_code (2 : Nat) (Option.none : Option Jvm.ClassFile.FieldType)) ∈ lw_all := lw_all_of (lw_in7 (List.mem_of_getElem? (i := 12) rfl)) rfl
theorem q1453 : (Jvm.Cond.methodLink "java/lang/AbstractStringBuilder" (3 : Nat) ({ cls := "java/lang/Object", name := "<init>", desc := "()V" } : Jvm.MethodName)) ∈ lw_all := lw_all_of (lw_in7 (List.mem_of_getElem? (i := 13) rfl)) rfl
theorem q1454 : (Jvm.Cond.fieldLink "java/lang/AbstractStringBuilder" (18 : Nat) "java/lang/String" "COMPACT_STRINGS" "Z") ∈ lw_all := lw_all_of (lw_in7 (List.mem_of_getElem? (i := 14) rfl)) rfl
theorem q1455 : (Jvm.Cond.methodLink "java/lang/AbstractStringBuilder" (26 : Nat) ({ cls := "java/lang/StringUTF16", name := "newBytesFor", desc := "(I)[B" } : Jvm.MethodName)) ∈ lw_all := lw_all_of (lw_in7 (List.mem_of_getElem? (i := 15) rfl)) rfl
theorem q1456 : (Jvm.Cond.static ({ cls := "java/lang/StringUTF16", name := "newBytesFor", desc := "(I)[B" } : Jvm.MethodName)) ∈ lw_all := lw_all_of (lw_in7 (List.mem_of_getElem? (i := 16) rfl)) rfl
theorem q1457 : (Jvm.Cond.code ({ cls := "java/lang/StringUTF16", name := "newBytesFor", desc := "(I)[B" } : Jvm.MethodName) prog_30_method_2_code (1 : Nat) (Option.some (Jvm.ClassFile.FieldType.array Jvm.ClassFile.FieldType.byte))) ∈ lw_all := lw_all_of (lw_in7 (List.mem_of_getElem? (i := 17) rfl)) rfl
theorem q1458 : (Jvm.Cond.methodLink "java/lang/StringUTF16" (11 : Nat) ({ cls := "java/lang/StringUTF16", name := "newBytesLength", desc := "(I)I" } : Jvm.MethodName)) ∈ lw_all := lw_all_of (lw_in7 (List.mem_of_getElem? (i := 18) rfl)) rfl
theorem q1459 : (Jvm.Cond.static ({ cls := "java/lang/StringUTF16", name := "newBytesLength", desc := "(I)I" } : Jvm.MethodName)) ∈ lw_all := lw_all_of (lw_in7 (List.mem_of_getElem? (i := 19) rfl)) rfl
theorem q1460 : (Jvm.Cond.code ({ cls := "java/lang/StringUTF16", name := "newBytesLength", desc := "(I)I" } : Jvm.MethodName) prog_30_method_3_code (1 : Nat) (Option.some Jvm.ClassFile.FieldType.int)) ∈ lw_all := lw_all_of (lw_in7 (List.mem_of_getElem? (i := 20) rfl)) rfl
theorem q1461 : (Jvm.Cond.constant "java/lang/StringUTF16" (20 : Nat) (1073741823 : Int32)) ∈ lw_all := lw_all_of (lw_in7 (List.mem_of_getElem? (i := 21) rfl)) rfl
theorem q1462 : (Jvm.Cond.fieldLink "java/lang/AbstractStringBuilder" (15 : Nat) "java/lang/AbstractStringBuilder" "value" "[B") ∈ lw_all := lw_all_of (lw_in7 (List.mem_of_getElem? (i := 22) rfl)) rfl
theorem q1463 : (Jvm.Cond.fieldLink "java/lang/AbstractStringBuilder" (22 : Nat) "java/lang/AbstractStringBuilder" "coder" "B") ∈ lw_all := lw_all_of (lw_in7 (List.mem_of_getElem? (i := 23) rfl)) rfl
theorem q1464 : (Jvm.Cond.fieldLink "java/lang/String" (1048 : Nat) "java/lang/AbstractStringBuilder" "maybeLatin1" "Z") ∈ lw_all := lw_all_of (lw_in7 (List.mem_of_getElem? (i := 24) rfl)) rfl
theorem q1465 : (Jvm.Cond.fieldLink "java/lang/AbstractStringBuilder" (79 : Nat) "java/lang/AbstractStringBuilder" "count" "I") ∈ lw_all := lw_all_of (lw_in7 (List.mem_of_getElem? (i := 25) rfl)) rfl
theorem q1466 : (Jvm.Cond.lays "java/lang/StringBuilder" "java/lang/AbstractStringBuilder" "value" "[B") ∈ lw_all := lw_all_of (lw_in7 (List.mem_of_getElem? (i := 26) rfl)) rfl
theorem q1468 : (Jvm.Cond.lays "java/lang/StringBuilder" "java/lang/AbstractStringBuilder" "coder" "B") ∈ lw_all := lw_all_of (lw_in7 (List.mem_of_getElem? (i := 28) rfl)) rfl
theorem q1470 : (Jvm.Cond.lays "java/lang/StringBuilder" "java/lang/AbstractStringBuilder" "maybeLatin1" "Z") ∈ lw_all := lw_all_of (lw_in7 (List.mem_of_getElem? (i := 30) rfl)) rfl
theorem q1472 : (Jvm.Cond.lays "java/lang/StringBuilder" "java/lang/AbstractStringBuilder" "count" "I") ∈ lw_all := lw_all_of (lw_in7 (List.mem_of_getElem? (i := 32) rfl)) rfl
theorem q1474 : (Jvm.Cond.superclass "java/lang/StringBuilder" "java/lang/AbstractStringBuilder") ∈ lw_all := lw_all_of (lw_in7 (List.mem_of_getElem? (i := 34) rfl)) rfl
theorem q1476 : (Jvm.Cond.methodLink "java/util/Arrays" (50 : Nat) ({ cls := "java/lang/StringBuilder", name := "append", desc := "(Ljava/lang/String;)Ljava/lang/StringBuilder;" } : Jvm.MethodName)) ∈ lw_all := lw_all_of (lw_in7 (List.mem_of_getElem? (i := 36) rfl)) rfl
theorem q1477 : (Jvm.Cond.instanceMethod ({ cls := "java/lang/StringBuilder", name := "append", desc := "(Ljava/lang/String;)Ljava/lang/StringBuilder;" } : Jvm.MethodName)) ∈ lw_all := lw_all_of (lw_in7 (List.mem_of_getElem? (i := 37) rfl)) rfl
theorem q1478 : (Jvm.Cond.selects "java/lang/StringBuilder" ({ cls := "java/lang/StringBuilder", name := "append", desc := "(Ljava/lang/String;)Ljava/lang/StringBuilder;" } : Jvm.MethodName) ({ cls := "java/lang/StringBuilder", name := "append", desc := "(Ljava/lang/String;)Ljava/lang/StringBuilder;" } : Jvm.MethodName)) ∈ lw_all := lw_all_of (lw_in7 (List.mem_of_getElem? (i := 38) rfl)) rfl
theorem q1479 : (Jvm.Cond.code ({ cls := "java/lang/StringBuilder", name := "append", desc := "(Ljava/lang/String;)Ljava/lang/StringBuilder;" } : Jvm.MethodName) prog_28_method_7_code (2 : Nat) (Option.some (Jvm.ClassFile.FieldType.object "java/lang/StringBuilder"))) ∈ lw_all := lw_all_of (lw_in7 (List.mem_of_getElem? (i := 39) rfl)) rfl
theorem q1480 : (Jvm.Cond.methodLink "java/lang/StringBuilder" (29 : Nat) ({ cls := "java/lang/AbstractStringBuilder", name := "append", desc := "(Ljava/lang/String;)Ljava/lang/AbstractStringBuilder;" } : Jvm.MethodName)) ∈ lw_all := lw_all_of (lw_in7 (List.mem_of_getElem? (i := 40) rfl)) rfl
theorem q1481 : (Jvm.Cond.instanceMethod ({ cls := "java/lang/AbstractStringBuilder", name := "append", desc := "(Ljava/lang/String;)Ljava/lang/AbstractStringBuilder;" } : Jvm.MethodName)) ∈ lw_all := lw_all_of (lw_in7 (List.mem_of_getElem? (i := 41) rfl)) rfl
theorem q1482 : (Jvm.Cond.code ({ cls := "java/lang/AbstractStringBuilder", name := "append", desc := "(Ljava/lang/String;)Ljava/lang/AbstractStringBuilder;" } : Jvm.MethodName) prog_8_method_22_code (3 : Nat) (Option.some (Jvm.ClassFile.FieldType.object "java/lang/AbstractStringBuilder"))) ∈ lw_all := lw_all_of (lw_in7 (List.mem_of_getElem? (i := 42) rfl)) rfl
theorem q1483 : (Jvm.Cond.methodLink "java/lang/AbstractStringBuilder" (204 : Nat) ({ cls := "java/lang/AbstractStringBuilder", name := "appendNull", desc := "()Ljava/lang/AbstractStringBuilder;" } : Jvm.MethodName)) ∈ lw_all := lw_all_of (lw_in7 (List.mem_of_getElem? (i := 43) rfl)) rfl
theorem q1485 : (Jvm.Cond.instanceMethod ({ cls := "java/lang/AbstractStringBuilder", name := "appendNull", desc := "()Ljava/lang/AbstractStringBuilder;" } : Jvm.MethodName)) ∈ lw_all := lw_all_of (lw_in7 (List.mem_of_getElem? (i := 45) rfl)) rfl
theorem q1486 : (Jvm.Cond.code ({ cls := "java/lang/AbstractStringBuilder", name := "appendNull", desc := "()Ljava/lang/AbstractStringBuilder;" } : Jvm.MethodName) prog_8_method_26_code (3 : Nat) (Option.some (Jvm.ClassFile.FieldType.object "java/lang/AbstractStringBuilder"))) ∈ lw_all := lw_all_of (lw_in7 (List.mem_of_getElem? (i := 46) rfl)) rfl
theorem q1487 : (Jvm.Cond.methodLink "java/lang/AbstractStringBuilder" (100 : Nat) ({ cls := "java/lang/AbstractStringBuilder", name := "ensureCapacityInternal", desc := "(I)V" } : Jvm.MethodName)) ∈ lw_all := lw_all_of (lw_in7 (List.mem_of_getElem? (i := 47) rfl)) rfl
theorem q1489 : (Jvm.Cond.instanceMethod ({ cls := "java/lang/AbstractStringBuilder", name := "ensureCapacityInternal", desc := "(I)V" } : Jvm.MethodName)) ∈ lw_all := lw_all_of (lw_in7 (List.mem_of_getElem? (i := 49) rfl)) rfl
theorem q1490 : (Jvm.Cond.code ({ cls := "java/lang/AbstractStringBuilder", name := "ensureCapacityInternal", desc := "(I)V" } : Jvm.MethodName) prog_8_method_9_code (3 : Nat) (Option.none : Option Jvm.ClassFile.FieldType)) ∈ lw_all := lw_all_of (lw_in7 (List.mem_of_getElem? (i := 50) rfl)) rfl
theorem q1491 : (Jvm.Cond.methodLink "java/lang/AbstractStringBuilder" (104 : Nat) ({ cls := "java/lang/AbstractStringBuilder", name := "newCapacity", desc := "(I)I" } : Jvm.MethodName)) ∈ lw_all := lw_all_of (lw_in7 (List.mem_of_getElem? (i := 51) rfl)) rfl
theorem q1493 : (Jvm.Cond.instanceMethod ({ cls := "java/lang/AbstractStringBuilder", name := "newCapacity", desc := "(I)I" } : Jvm.MethodName)) ∈ lw_all := lw_all_of (lw_in7 (List.mem_of_getElem? (i := 53) rfl)) rfl
theorem q1494 : (Jvm.Cond.code ({ cls := "java/lang/AbstractStringBuilder", name := "newCapacity", desc := "(I)I" } : Jvm.MethodName) prog_8_method_10_code (6 : Nat) (Option.some Jvm.ClassFile.FieldType.int)) ∈ lw_all := lw_all_of (lw_in7 (List.mem_of_getElem? (i := 54) rfl)) rfl
theorem q1495 : (Jvm.Cond.methodLink "java/lang/AbstractStringBuilder" (114 : Nat) ({ cls := "jdk/internal/util/ArraysSupport", name := "newLength", desc := "(III)I" } : Jvm.MethodName)) ∈ lw_all := lw_all_of (lw_in7 (List.mem_of_getElem? (i := 55) rfl)) rfl
theorem q1496 : (Jvm.Cond.constant "java/lang/AbstractStringBuilder" (39 : Nat) (2147483647 : Int32)) ∈ lw_all := lw_all_of (lw_in7 (List.mem_of_getElem? (i := 56) rfl)) rfl
theorem q1497 : (Jvm.Cond.methodLink "java/lang/AbstractStringBuilder" (108 : Nat) ({ cls := "java/util/Arrays", name := "copyOf", desc := "([BI)[B" } : Jvm.MethodName)) ∈ lw_all := lw_all_of (lw_in7 (List.mem_of_getElem? (i := 57) rfl)) rfl
theorem q1498 : (Jvm.Cond.static ({ cls := "java/util/Arrays", name := "copyOf", desc := "([BI)[B" } : Jvm.MethodName)) ∈ lw_all := lw_all_of (lw_in7 (List.mem_of_getElem? (i := 58) rfl)) rfl
theorem q1499 : (Jvm.Cond.code ({ cls := "java/util/Arrays", name := "copyOf", desc := "([BI)[B" } : Jvm.MethodName) prog_40_method_121_code (3 : Nat) (Option.some (Jvm.ClassFile.FieldType.array Jvm.ClassFile.FieldType.byte))) ∈ lw_all := lw_all_of (lw_in7 (List.mem_of_getElem? (i := 59) rfl)) rfl
theorem q1500 : (Jvm.Cond.methodLink "java/util/Arrays" (310 : Nat) ({ cls := "[B", name := "clone", desc := "()Ljava/lang/Object;" } : Jvm.MethodName)) ∈ lw_all := lw_all_of (lw_in7 (List.mem_of_getElem? (i := 60) rfl)) rfl
theorem q1501 : (Jvm.Cond.sameMethod "[B" "java/lang/Object" "clone" "()Ljava/lang/Object;") ∈ lw_all := lw_all_of (lw_in7 (List.mem_of_getElem? (i := 61) rfl)) rfl
theorem q1502 : (Jvm.Cond.native ({ cls := "java/lang/Object", name := "clone", desc := "()Ljava/lang/Object;" } : Jvm.MethodName)) ∈ lw_all := lw_all_of (lw_in7 (List.mem_of_getElem? (i := 62) rfl)) rfl
theorem q1503 : (Jvm.Cond.instanceMethod ({ cls := "java/lang/Object", name := "clone", desc := "()Ljava/lang/Object;" } : Jvm.MethodName)) ∈ lw_all := lw_all_of (lw_in7 (List.mem_of_getElem? (i := 63) rfl)) rfl
theorem q1504 : (Jvm.Cond.selects "[B" ({ cls := "[B", name := "clone", desc := "()Ljava/lang/Object;" } : Jvm.MethodName) ({ cls := "java/lang/Object", name := "clone", desc := "()Ljava/lang/Object;" } : Jvm.MethodName)) ∈ lw_all := lw_all_of (lw_in7 (List.mem_of_getElem? (i := 64) rfl)) rfl
theorem q1506 : (Jvm.Cond.classLink "java/util/Arrays" (311 : Nat) "[B") ∈ lw_all := lw_all_of (lw_in7 (List.mem_of_getElem? (i := 66) rfl)) rfl
theorem q1507 : (Jvm.Cond.methodLink "java/lang/AbstractStringBuilder" (83 : Nat) ({ cls := "java/lang/AbstractStringBuilder", name := "isLatin1", desc := "()Z" } : Jvm.MethodName)) ∈ lw_all := lw_all_of (lw_in7 (List.mem_of_getElem? (i := 67) rfl)) rfl
theorem q1508 : (Jvm.Cond.instanceMethod ({ cls := "java/lang/AbstractStringBuilder", name := "isLatin1", desc := "()Z" } : Jvm.MethodName)) ∈ lw_all := lw_all_of (lw_in7 (List.mem_of_getElem? (i := 68) rfl)) rfl
theorem q1509 : (Jvm.Cond.sameMethod "java/lang/AbstractStringBuilder" "java/lang/AbstractStringBuilder" "isLatin1" "()Z") ∈ lw_all := lw_all_of (lw_in7 (List.mem_of_getElem? (i := 69) rfl)) rfl
theorem q1510 : (Jvm.Cond.selects "java/lang/StringBuilder" ({ cls := "java/lang/AbstractStringBuilder", name := "isLatin1", desc := "()Z" } : Jvm.MethodName) ({ cls := "java/lang/AbstractStringBuilder", name := "isLatin1", desc := "()Z" } : Jvm.MethodName)) ∈ lw_all := lw_all_of (lw_in7 (List.mem_of_getElem? (i := 70) rfl)) rfl
theorem q1511 : (Jvm.Cond.code ({ cls := "java/lang/AbstractStringBuilder", name := "isLatin1", desc := "()Z" } : Jvm.MethodName) prog_8_method_68_code (1 : Nat) (Option.some Jvm.ClassFile.FieldType.boolean)) ∈ lw_all := lw_all_of (lw_in7 (List.mem_of_getElem? (i := 71) rfl)) rfl
theorem q1512 : (Jvm.Cond.methodLink "java/lang/AbstractStringBuilder" (226 : Nat) ({ cls := "java/lang/StringUTF16", name := "putCharsAt", desc := "([BICCCC)I" } : Jvm.MethodName)) ∈ lw_all := lw_all_of (lw_in7 (List.mem_of_getElem? (i := 72) rfl)) rfl
theorem q1513 : (Jvm.Cond.static ({ cls := "java/lang/StringUTF16", name := "putCharsAt", desc := "([BICCCC)I" } : Jvm.MethodName)) ∈ lw_all := lw_all_of (lw_in7 (List.mem_of_getElem? (i := 73) rfl)) rfl
theorem q1514 : (Jvm.Cond.code ({ cls := "java/lang/StringUTF16", name := "putCharsAt", desc := "([BICCCC)I" } : Jvm.MethodName) prog_30_method_81_code (7 : Nat) (Option.some Jvm.ClassFile.FieldType.int)) ∈ lw_all := lw_all_of (lw_in7 (List.mem_of_getElem? (i := 74) rfl)) rfl
theorem q1515 : (Jvm.Cond.methodLink "java/lang/StringUTF16" (111 : Nat) ({ cls := "java/lang/StringUTF16", name := "putChar", desc := "([BII)V" } : Jvm.MethodName)) ∈ lw_all := lw_all_of (lw_in7 (List.mem_of_getElem? (i := 75) rfl)) rfl
theorem q1516 : (Jvm.Cond.static ({ cls := "java/lang/StringUTF16", name := "putChar", desc := "([BII)V" } : Jvm.MethodName)) ∈ lw_all := lw_all_of (lw_in7 (List.mem_of_getElem? (i := 76) rfl)) rfl
theorem q1517 : (Jvm.Cond.code ({ cls := "java/lang/StringUTF16", name := "putChar", desc := "([BII)V" } : Jvm.MethodName) prog_30_method_4_code (3 : Nat) (Option.none : Option Jvm.ClassFile.FieldType)) ∈ lw_all := lw_all_of (lw_in7 (List.mem_of_getElem? (i := 77) rfl)) rfl
theorem q1518 : (Jvm.Cond.methodLink "java/lang/AbstractStringBuilder" (32 : Nat) ({ cls := "java/lang/String", name := "length", desc := "()I" } : Jvm.MethodName)) ∈ lw_all := lw_all_of (lw_in7 (List.mem_of_getElem? (i := 78) rfl)) rfl
theorem q1519 : (Jvm.Cond.methodLink "java/lang/AbstractStringBuilder" (208 : Nat) ({ cls := "java/lang/AbstractStringBuilder", name := "putStringAt", desc := "(ILjava/lang/String;)V" } : Jvm.MethodName)) ∈ lw_all := lw_all_of (lw_in7 (List.mem_of_getElem? (i := 79) rfl)) rfl
theorem q1521 : (Jvm.Cond.instanceMethod ({ cls := "java/lang/AbstractStringBuilder", name := "putStringAt", desc := "(ILjava/lang/String;)V" } : Jvm.MethodName)) ∈ lw_all := lw_all_of (lw_in7 (List.mem_of_getElem? (i := 81) rfl)) rfl
theorem q1522 : (Jvm.Cond.code ({ cls := "java/lang/AbstractStringBuilder", name := "putStringAt", desc := "(ILjava/lang/String;)V" } : Jvm.MethodName) prog_8_method_73_code (3 : Nat) (Option.none : Option Jvm.ClassFile.FieldType)) ∈ lw_all := lw_all_of (lw_in7 (List.mem_of_getElem? (i := 82) rfl)) rfl
theorem q1523 : (Jvm.Cond.methodLink "java/lang/AbstractStringBuilder" (397 : Nat) ({ cls := "java/lang/AbstractStringBuilder", name := "inflateIfNeededFor", desc := "(Ljava/lang/String;)V" } : Jvm.MethodName)) ∈ lw_all := lw_all_of (lw_in7 (List.mem_of_getElem? (i := 83) rfl)) rfl
theorem q1525 : (Jvm.Cond.instanceMethod ({ cls := "java/lang/AbstractStringBuilder", name := "inflateIfNeededFor", desc := "(Ljava/lang/String;)V" } : Jvm.MethodName)) ∈ lw_all := lw_all_of (lw_in7 (List.mem_of_getElem? (i := 85) rfl)) rfl
theorem q1526 : (Jvm.Cond.code ({ cls := "java/lang/AbstractStringBuilder", name := "inflateIfNeededFor", desc := "(Ljava/lang/String;)V" } : Jvm.MethodName) prog_8_method_71_code (2 : Nat) (Option.none : Option Jvm.ClassFile.FieldType)) ∈ lw_all := lw_all_of (lw_in7 (List.mem_of_getElem? (i := 86) rfl)) rfl
theorem q1527 : (Jvm.Cond.methodLink "java/lang/AbstractStringBuilder" (40 : Nat) ({ cls := "java/lang/String", name := "coder", desc := "()B" } : Jvm.MethodName)) ∈ lw_all := lw_all_of (lw_in7 (List.mem_of_getElem? (i := 87) rfl)) rfl
theorem q1528 : (Jvm.Cond.methodLink "java/lang/AbstractStringBuilder" (195 : Nat) ({ cls := "java/lang/AbstractStringBuilder", name := "inflate", desc := "()V" } : Jvm.MethodName)) ∈ lw_all := lw_all_of (lw_in7 (List.mem_of_getElem? (i := 88) rfl)) rfl
theorem q1530 : (Jvm.Cond.instanceMethod ({ cls := "java/lang/AbstractStringBuilder", name := "inflate", desc := "()V" } : Jvm.MethodName)) ∈ lw_all := lw_all_of (lw_in7 (List.mem_of_getElem? (i := 90) rfl)) rfl
theorem q1531 : (Jvm.Cond.code ({ cls := "java/lang/AbstractStringBuilder", name := "inflate", desc := "()V" } : Jvm.MethodName) prog_8_method_11_code (2 : Nat) (Option.none : Option Jvm.ClassFile.FieldType)) ∈ lw_all := lw_all_of (lw_in7 (List.mem_of_getElem? (i := 91) rfl)) rfl
theorem q1532 : (Jvm.Cond.methodLink "java/lang/AbstractStringBuilder" (125 : Nat) ({ cls := "java/lang/StringLatin1", name := "inflate", desc := "([BI[BII)V" } : Jvm.MethodName)) ∈ lw_all := lw_all_of (lw_in7 (List.mem_of_getElem? (i := 92) rfl)) rfl
theorem q1533 : (Jvm.Cond.static ({ cls := "java/lang/StringLatin1", name := "inflate", desc := "([BI[BII)V" } : Jvm.MethodName)) ∈ lw_all := lw_all_of (lw_in7 (List.mem_of_getElem? (i := 93) rfl)) rfl
theorem q1534 : (Jvm.Cond.code ({ cls := "java/lang/StringLatin1", name := "inflate", desc := "([BI[BII)V" } : Jvm.MethodName) prog_29_method_50_code (5 : Nat) (Option.none : Option Jvm.ClassFile.FieldType)) ∈ lw_all := lw_all_of (lw_in7 (List.mem_of_getElem? (i := 94) rfl)) rfl
theorem q1535 : (Jvm.Cond.methodLink "java/lang/StringLatin1" (240 : Nat) ({ cls := "java/lang/StringUTF16", name := "inflate", desc := "([BI[BII)V" } : Jvm.MethodName)) ∈ lw_all := lw_all_of (lw_in7 (List.mem_of_getElem? (i := 95) rfl)) rfl
theorem q1536 : (Jvm.Cond.static ({ cls := "java/lang/StringUTF16", name := "inflate", desc := "([BI[BII)V" } : Jvm.MethodName)) ∈ lw_all := lw_all_of (lw_in7 (List.mem_of_getElem? (i := 96) rfl)) rfl
theorem q1537 : (Jvm.Cond.code ({ cls := "java/lang/StringUTF16", name := "inflate", desc := "([BI[BII)V" } : Jvm.MethodName) prog_30_method_86_code (6 : Nat) (Option.none : Option Jvm.ClassFile.FieldType)) ∈ lw_all := lw_all_of (lw_in7 (List.mem_of_getElem? (i := 97) rfl)) rfl
theorem q1538 : (Jvm.Cond.methodLink "java/lang/StringUTF16" (173 : Nat) ({ cls := "java/lang/StringUTF16", name := "checkBoundsOffCount", desc := "(II[B)V" } : Jvm.MethodName)) ∈ lw_all := lw_all_of (lw_in7 (List.mem_of_getElem? (i := 98) rfl)) rfl
theorem q1539 : (Jvm.Cond.static ({ cls := "java/lang/StringUTF16", name := "checkBoundsOffCount", desc := "(II[B)V" } : Jvm.MethodName)) ∈ lw_all := lw_all_of (lw_in7 (List.mem_of_getElem? (i := 99) rfl)) rfl
theorem q1540 : (Jvm.Cond.code ({ cls := "java/lang/StringUTF16", name := "checkBoundsOffCount", desc := "(II[B)V" } : Jvm.MethodName) prog_30_method_94_code (3 : Nat) (Option.none : Option Jvm.ClassFile.FieldType)) ∈ lw_all := lw_all_of (lw_in7 (List.mem_of_getElem? (i := 100) rfl)) rfl
theorem q1541 : (Jvm.Cond.methodLink "java/lang/StringUTF16" (419 : Nat) ({ cls := "java/lang/String", name := "checkBoundsOffCount", desc := "(III)I" } : Jvm.MethodName)) ∈ lw_all := lw_all_of (lw_in7 (List.mem_of_getElem? (i := 101) rfl)) rfl
theorem q1542 : (Jvm.Cond.static ({ cls := "java/lang/String", name := "checkBoundsOffCount", desc := "(III)I" } : Jvm.MethodName)) ∈ lw_all := lw_all_of (lw_in7 (List.mem_of_getElem? (i := 102) rfl)) rfl
theorem q1543 : (Jvm.Cond.code ({ cls := "java/lang/String", name := "checkBoundsOffCount", desc := "(III)I" } : Jvm.MethodName) prog_27_method_157_code (3 : Nat) (Option.some Jvm.ClassFile.FieldType.int)) ∈ lw_all := lw_all_of (lw_in7 (List.mem_of_getElem? (i := 103) rfl)) rfl
theorem q1544 : (Jvm.Cond.methodLink "java/lang/String" (1065 : Nat) ({ cls := "jdk/internal/util/Preconditions", name := "checkFromIndexSize", desc := "(IIILjava/util/function/BiFunction;)I" } : Jvm.MethodName)) ∈ lw_all := lw_all_of (lw_in7 (List.mem_of_getElem? (i := 104) rfl)) rfl
theorem q1545 : (Jvm.Cond.static ({ cls := "jdk/internal/util/Preconditions", name := "checkFromIndexSize", desc := "(IIILjava/util/function/BiFunction;)I" } : Jvm.MethodName)) ∈ lw_all := lw_all_of (lw_in7 (List.mem_of_getElem? (i := 105) rfl)) rfl
theorem q1546 : (Jvm.Cond.code ({ cls := "jdk/internal/util/Preconditions", name := "checkFromIndexSize", desc := "(IIILjava/util/function/BiFunction;)I" } : Jvm.MethodName) prog_49_method_13_code (4 : Nat) (Option.some Jvm.ClassFile.FieldType.int)) ∈ lw_all := lw_all_of (lw_in7 (List.mem_of_getElem? (i := 106) rfl)) rfl
theorem q1547 : (Jvm.Cond.methodLink "java/lang/AbstractStringBuilder" (399 : Nat) ({ cls := "java/lang/String", name := "getBytes", desc := "([BIB)V" } : Jvm.MethodName)) ∈ lw_all := lw_all_of (lw_in7 (List.mem_of_getElem? (i := 107) rfl)) rfl
theorem q1548 : (Jvm.Cond.instanceMethod ({ cls := "java/lang/String", name := "getBytes", desc := "([BIB)V" } : Jvm.MethodName)) ∈ lw_all := lw_all_of (lw_in7 (List.mem_of_getElem? (i := 108) rfl)) rfl
theorem q1549 : (Jvm.Cond.selects "java/lang/String" ({ cls := "java/lang/String", name := "getBytes", desc := "([BIB)V" } : Jvm.MethodName) ({ cls := "java/lang/String", name := "getBytes", desc := "([BIB)V" } : Jvm.MethodName)) ∈ lw_all := lw_all_of (lw_in7 (List.mem_of_getElem? (i := 109) rfl)) rfl
theorem q1550 : (Jvm.Cond.code ({ cls := "java/lang/String", name := "getBytes", desc := "([BIB)V" } : Jvm.MethodName) prog_27_method_147_code (4 : Nat) (Option.none : Option Jvm.ClassFile.FieldType)) ∈ lw_all := lw_all_of (lw_in7 (List.mem_of_getElem? (i := 110) rfl)) rfl
theorem q1551 : (Jvm.Cond.methodLink "java/lang/String" (212 : Nat) ({ cls := "java/lang/System", name := "arraycopy", desc := "(Ljava/lang/Object;ILjava/lang/Object;II)V" } : Jvm.MethodName)) ∈ lw_all := lw_all_of (lw_in7 (List.mem_of_getElem? (i := 111) rfl)) rfl
theorem q1552 : (Jvm.Cond.methodLink "java/lang/String" (106 : Nat) ({ cls := "java/lang/StringLatin1", name := "inflate", desc := "([BI[BII)V" } : Jvm.MethodName)) ∈ lw_all := lw_all_of (lw_in7 (List.mem_of_getElem? (i := 112) rfl)) rfl
theorem q1553 : (Jvm.Cond.methodLink "java/util/Arrays" (54 : Nat) ({ cls := "java/lang/StringBuilder", name := "append", desc := "(I)Ljava/lang/StringBuilder;" } : Jvm.MethodName)) ∈ lw_all := lw_all_of (lw_in7 (List.mem_of_getElem? (i := 113) rfl)) rfl
theorem q1554 : (Jvm.Cond.instanceMethod ({ cls := "java/lang/StringBuilder", name := "append", desc := "(I)Ljava/lang/StringBuilder;" } : Jvm.MethodName)) ∈ lw_all := lw_all_of (lw_in7 (List.mem_of_getElem? (i := 114) rfl)) rfl
theorem q1555 : (Jvm.Cond.selects "java/lang/StringBuilder" ({ cls := "java/lang/StringBuilder", name := "append", desc := "(I)Ljava/lang/StringBuilder;" } : Jvm.MethodName) ({ cls := "java/lang/StringBuilder", name := "append", desc := "(I)Ljava/lang/StringBuilder;" } : Jvm.MethodName)) ∈ lw_all := lw_all_of (lw_in7 (List.mem_of_getElem? (i := 115) rfl)) rfl
theorem q1556 : (Jvm.Cond.code ({ cls := "java/lang/StringBuilder", name := "append", desc := "(I)Ljava/lang/StringBuilder;" } : Jvm.MethodName) prog_28_method_15_code (2 : Nat) (Option.some (Jvm.ClassFile.FieldType.object "java/lang/StringBuilder"))) ∈ lw_all := lw_all_of (lw_in7 (List.mem_of_getElem? (i := 116) rfl)) rfl
theorem q1557 : (Jvm.Cond.methodLink "java/lang/StringBuilder" (53 : Nat) ({ cls := "java/lang/AbstractStringBuilder", name := "append", desc := "(I)Ljava/lang/AbstractStringBuilder;" } : Jvm.MethodName)) ∈ lw_all := lw_all_of (lw_in7 (List.mem_of_getElem? (i := 117) rfl)) rfl
theorem q1558 : (Jvm.Cond.instanceMethod ({ cls := "java/lang/AbstractStringBuilder", name := "append", desc := "(I)Ljava/lang/AbstractStringBuilder;" } : Jvm.MethodName)) ∈ lw_all := lw_all_of (lw_in7 (List.mem_of_getElem? (i := 118) rfl)) rfl
theorem q1559 : (Jvm.Cond.code ({ cls := "java/lang/AbstractStringBuilder", name := "append", desc := "(I)Ljava/lang/AbstractStringBuilder;" } : Jvm.MethodName) prog_8_method_32_code (4 : Nat) (Option.some (Jvm.ClassFile.FieldType.object "java/lang/AbstractStringBuilder"))) ∈ lw_all := lw_all_of (lw_in7 (List.mem_of_getElem? (i := 119) rfl)) rfl
theorem q1560 : (Jvm.Cond.methodLink "java/lang/AbstractStringBuilder" (245 : Nat) ({ cls := "java/lang/Integer", name := "stringSize", desc := "(I)I" } : Jvm.MethodName)) ∈ lw_all := lw_all_of (lw_in7 (List.mem_of_getElem? (i := 120) rfl)) rfl
theorem q1561 : (Jvm.Cond.static ({ cls := "java/lang/Integer", name := "stringSize", desc := "(I)I" } : Jvm.MethodName)) ∈ lw_all := lw_all_of (lw_in7 (List.mem_of_getElem? (i := 121) rfl)) rfl
theorem q1562 : (Jvm.Cond.code ({ cls := "java/lang/Integer", name := "stringSize", desc := "(I)I" } : Jvm.MethodName) prog_21_method_13_code (4 : Nat) (Option.some Jvm.ClassFile.FieldType.int)) ∈ lw_all := lw_all_of (lw_in7 (List.mem_of_getElem? (i := 122) rfl)) rfl
theorem q1563 : (Jvm.Cond.methodLink "java/lang/AbstractStringBuilder" (248 : Nat) ({ cls := "java/lang/Integer", name := "getChars", desc := "(II[B)I" } : Jvm.MethodName)) ∈ lw_all := lw_all_of (lw_in7 (List.mem_of_getElem? (i := 123) rfl)) rfl
theorem q1564 : (Jvm.Cond.static ({ cls := "java/lang/Integer", name := "getChars", desc := "(II[B)I" } : Jvm.MethodName)) ∈ lw_all := lw_all_of (lw_in7 (List.mem_of_getElem? (i := 124) rfl)) rfl
theorem q1565 : (Jvm.Cond.code ({ cls := "java/lang/Integer", name := "getChars", desc := "(II[B)I" } : Jvm.MethodName) prog_21_method_12_code (7 : Nat) (Option.some Jvm.ClassFile.FieldType.int)) ∈ lw_all := lw_all_of (lw_in7 (List.mem_of_getElem? (i := 125) rfl)) rfl
theorem q1566 : (Jvm.Cond.fieldLink "java/lang/Integer" (83 : Nat) "java/lang/Integer" "DigitOnes" "[B") ∈ lw_all := lw_all_of (lw_in7 (List.mem_of_getElem? (i := 126) rfl)) rfl
theorem q1568 : (Jvm.Cond.fieldLink "java/lang/Integer" (87 : Nat) "java/lang/Integer" "DigitTens" "[B") ∈ lw_all := lw_all_of (lw_in7 (List.mem_of_getElem? (i := 128) rfl)) rfl
theorem q1570 : (Jvm.Cond.methodLink "java/lang/AbstractStringBuilder" (251 : Nat) ({ cls := "java/lang/StringUTF16", name := "getChars", desc := "(III[B)I" } : Jvm.MethodName)) ∈ lw_all := lw_all_of (lw_in7 (List.mem_of_getElem? (i := 130) rfl)) rfl
theorem q1571 : (Jvm.Cond.static ({ cls := "java/lang/StringUTF16", name := "getChars", desc := "(III[B)I" } : Jvm.MethodName)) ∈ lw_all := lw_all_of (lw_in7 (List.mem_of_getElem? (i := 131) rfl)) rfl
theorem q1572 : (Jvm.Cond.code ({ cls := "java/lang/StringUTF16", name := "getChars", desc := "(III[B)I" } : Jvm.MethodName) prog_30_method_77_code (5 : Nat) (Option.some Jvm.ClassFile.FieldType.int)) ∈ lw_all := lw_all_of (lw_in7 (List.mem_of_getElem? (i := 132) rfl)) rfl
theorem q1573 : (Jvm.Cond.methodLink "java/lang/StringUTF16" (393 : Nat) ({ cls := "java/lang/StringUTF16", name := "getChars", desc := "(II[B)I" } : Jvm.MethodName)) ∈ lw_all := lw_all_of (lw_in7 (List.mem_of_getElem? (i := 133) rfl)) rfl
theorem q1574 : (Jvm.Cond.static ({ cls := "java/lang/StringUTF16", name := "getChars", desc := "(II[B)I" } : Jvm.MethodName)) ∈ lw_all := lw_all_of (lw_in7 (List.mem_of_getElem? (i := 134) rfl)) rfl
theorem q1575 : (Jvm.Cond.code ({ cls := "java/lang/StringUTF16", name := "getChars", desc := "(II[B)I" } : Jvm.MethodName) prog_30_method_89_code (7 : Nat) (Option.some Jvm.ClassFile.FieldType.int)) ∈ lw_all := lw_all_of (lw_in7 (List.mem_of_getElem? (i := 135) rfl)) rfl
theorem q1576 : (Jvm.Cond.fieldLink "java/lang/StringUTF16" (403 : Nat) "java/lang/Integer" "DigitOnes" "[B") ∈ lw_all := lw_all_of (lw_in7 (List.mem_of_getElem? (i := 136) rfl)) rfl
theorem q1577 : (Jvm.Cond.fieldLink "java/lang/StringUTF16" (407 : Nat) "java/lang/Integer" "DigitTens" "[B") ∈ lw_all := lw_all_of (lw_in7 (List.mem_of_getElem? (i := 137) rfl)) rfl
theorem q1580 : (Jvm.Cond.methodLink "java/util/Arrays" (61 : Nat) ({ cls := "java/lang/StringBuilder", name := "toString", desc := "()Ljava/lang/String;" } : Jvm.MethodName)) ∈ lw_all := lw_all_of (lw_in7 (List.mem_of_getElem? (i := 140) rfl)) rfl
theorem q1581 : (Jvm.Cond.instanceMethod ({ cls := "java/lang/StringBuilder", name := "toString", desc := "()Ljava/lang/String;" } : Jvm.MethodName)) ∈ lw_all := lw_all_of (lw_in7 (List.mem_of_getElem? (i := 141) rfl)) rfl
theorem q1582 : (Jvm.Cond.selects "java/lang/StringBuilder" ({ cls := "java/lang/StringBuilder", name := "toString", desc := "()Ljava/lang/String;" } : Jvm.MethodName) ({ cls := "java/lang/StringBuilder", name := "toString", desc := "()Ljava/lang/String;" } : Jvm.MethodName)) ∈ lw_all := lw_all_of (lw_in7 (List.mem_of_getElem? (i := 142) rfl)) rfl
theorem q1583 : (Jvm.Cond.code ({ cls := "java/lang/StringBuilder", name := "toString", desc := "()Ljava/lang/String;" } : Jvm.MethodName) prog_28_method_42_code (1 : Nat) (Option.some (Jvm.ClassFile.FieldType.object "java/lang/String"))) ∈ lw_all := lw_all_of (lw_in7 (List.mem_of_getElem? (i := 143) rfl)) rfl
theorem q1584 : (Jvm.Cond.classLink "java/lang/StringBuilder" (18 : Nat) "java/lang/String") ∈ lw_all := lw_all_of (lw_in7 (List.mem_of_getElem? (i := 144) rfl)) rfl
theorem q1585 : (Jvm.Cond.methodLink "java/lang/StringBuilder" (137 : Nat) ({ cls := "java/lang/String", name := "<init>", desc := "(Ljava/lang/StringBuilder;)V" } : Jvm.MethodName)) ∈ lw_all := lw_all_of (lw_in7 (List.mem_of_getElem? (i := 145) rfl)) rfl
theorem q1586 : (Jvm.Cond.instanceMethod ({ cls := "java/lang/String", name := "<init>", desc := "(Ljava/lang/StringBuilder;)V" } : Jvm.MethodName)) ∈ lw_all := lw_all_of (lw_in7 (List.mem_of_getElem? (i := 146) rfl)) rfl
theorem q1587 : (Jvm.Cond.code ({ cls := "java/lang/String", name := "<init>", desc := "(Ljava/lang/StringBuilder;)V" } : Jvm.MethodName) prog_27_method_53_code (2 : Nat) (Option.none : Option Jvm.ClassFile.FieldType)) ∈ lw_all := lw_all_of (lw_in7 (List.mem_of_getElem? (i := 147) rfl)) rfl
theorem q1588 : (Jvm.Cond.methodLink "java/lang/String" (489 : Nat) ({ cls := "java/lang/String", name := "<init>", desc := "(Ljava/lang/AbstractStringBuilder;Ljava/lang/Void;)V" } : Jvm.MethodName)) ∈ lw_all := lw_all_of (lw_in7 (List.mem_of_getElem? (i := 148) rfl)) rfl
theorem q1589 : (Jvm.Cond.instanceMethod ({ cls := "java/lang/String", name := "<init>", desc := "(Ljava/lang/AbstractStringBuilder;Ljava/lang/Void;)V" } : Jvm.MethodName)) ∈ lw_all := lw_all_of (lw_in7 (List.mem_of_getElem? (i := 149) rfl)) rfl
theorem q1590 : (Jvm.Cond.code ({ cls := "java/lang/String", name := "<init>", desc := "(Ljava/lang/AbstractStringBuilder;Ljava/lang/Void;)V" } : Jvm.MethodName) prog_27_method_150_code (5 : Nat) (Option.none : Option Jvm.ClassFile.FieldType)) ∈ lw_all := lw_all_of (lw_in7 (List.mem_of_getElem? (i := 150) rfl)) rfl
theorem q1591 : (Jvm.Cond.methodLink "java/lang/String" (1 : Nat) ({ cls := "java/lang/Object", name := "<init>", desc := "()V" } : Jvm.MethodName)) ∈ lw_all := lw_all_of (lw_in7 (List.mem_of_getElem? (i := 151) rfl)) rfl
theorem q1592 : (Jvm.Cond.methodLink "java/lang/String" (552 : Nat) ({ cls := "java/lang/AbstractStringBuilder", name := "getValue", desc := "()[B" } : Jvm.MethodName)) ∈ lw_all := lw_all_of (lw_in7 (List.mem_of_getElem? (i := 152) rfl)) rfl
theorem q1593 : (Jvm.Cond.instanceMethod ({ cls := "java/lang/AbstractStringBuilder", name := "getValue", desc := "()[B" } : Jvm.MethodName)) ∈ lw_all := lw_all_of (lw_in7 (List.mem_of_getElem? (i := 153) rfl)) rfl
theorem q1594 : (Jvm.Cond.sameMethod "java/lang/AbstractStringBuilder" "java/lang/AbstractStringBuilder" "getValue" "()[B") ∈ lw_all := lw_all_of (lw_in7 (List.mem_of_getElem? (i := 154) rfl)) rfl
theorem q1595 : (Jvm.Cond.selects "java/lang/StringBuilder" ({ cls := "java/lang/AbstractStringBuilder", name := "getValue", desc := "()[B" } : Jvm.MethodName) ({ cls := "java/lang/AbstractStringBuilder", name := "getValue", desc := "()[B" } : Jvm.MethodName)) ∈ lw_all := lw_all_of (lw_in7 (List.mem_of_getElem? (i := 155) rfl)) rfl
theorem q1596 : (Jvm.Cond.code ({ cls := "java/lang/AbstractStringBuilder", name := "getValue", desc := "()[B" } : Jvm.MethodName) prog_8_method_64_code (1 : Nat) (Option.some (Jvm.ClassFile.FieldType.array Jvm.ClassFile.FieldType.byte))) ∈ lw_all := lw_all_of (lw_in7 (List.mem_of_getElem? (i := 156) rfl)) rfl
theorem q1597 : (Jvm.Cond.methodLink "java/lang/String" (549 : Nat) ({ cls := "java/lang/AbstractStringBuilder", name := "length", desc := "()I" } : Jvm.MethodName)) ∈ lw_all := lw_all_of (lw_in7 (List.mem_of_getElem? (i := 157) rfl)) rfl
theorem q1598 : (Jvm.Cond.instanceMethod ({ cls := "java/lang/AbstractStringBuilder", name := "length", desc := "()I" } : Jvm.MethodName)) ∈ lw_all := lw_all_of (lw_in7 (List.mem_of_getElem? (i := 158) rfl)) rfl
theorem q1599 : (Jvm.Cond.sameMethod "java/lang/AbstractStringBuilder" "java/lang/AbstractStringBuilder" "length" "()I") ∈ lw_all := lw_all_of (lw_in7 (List.mem_of_getElem? (i := 159) rfl)) rfl
theorem q1600 : (Jvm.Cond.selects "java/lang/StringBuilder" ({ cls := "java/lang/AbstractStringBuilder", name := "length", desc := "()I" } : Jvm.MethodName) ({ cls := "java/lang/StringBuilder", name := "length", desc := "()I" } : Jvm.MethodName)) ∈ lw_all := lw_all_of (lw_in7 (List.mem_of_getElem? (i := 160) rfl)) rfl
theorem q1601 : (Jvm.Cond.instanceMethod ({ cls := "java/lang/StringBuilder", name := "length", desc := "()I" } : Jvm.MethodName)) ∈ lw_all := lw_all_of (lw_in7 (List.mem_of_getElem? (i := 161) rfl)) rfl
theorem q1602 : (Jvm.Cond.code ({ cls := "java/lang/StringBuilder", name := "length", desc := "()I" } : Jvm.MethodName) prog_28_method_93_code (1 : Nat) (Option.some Jvm.ClassFile.FieldType.int)) ∈ lw_all := lw_all_of (lw_in7 (List.mem_of_getElem? (i := 162) rfl)) rfl
theorem q1603 : (Jvm.Cond.methodLink "java/lang/StringBuilder" (343 : Nat) ({ cls := "java/lang/AbstractStringBuilder", name := "length", desc := "()I" } : Jvm.MethodName)) ∈ lw_all := lw_all_of (lw_in7 (List.mem_of_getElem? (i := 163) rfl)) rfl
theorem q1604 : (Jvm.Cond.code ({ cls := "java/lang/AbstractStringBuilder", name := "length", desc := "()I" } : Jvm.MethodName) prog_8_method_6_code (1 : Nat) (Option.some Jvm.ClassFile.FieldType.int)) ∈ lw_all := lw_all_of (lw_in7 (List.mem_of_getElem? (i := 164) rfl)) rfl
theorem q1605 : (Jvm.Cond.methodLink "java/lang/String" (1047 : Nat) ({ cls := "java/lang/AbstractStringBuilder", name := "isLatin1", desc := "()Z" } : Jvm.MethodName)) ∈ lw_all := lw_all_of (lw_in7 (List.mem_of_getElem? (i := 165) rfl)) rfl
theorem q1606 : (Jvm.Cond.methodLink "java/lang/String" (54 : Nat) ({ cls := "java/util/Arrays", name := "copyOfRange", desc := "([BII)[B" } : Jvm.MethodName)) ∈ lw_all := lw_all_of (lw_in7 (List.mem_of_getElem? (i := 166) rfl)) rfl
theorem q1607 : (Jvm.Cond.static ({ cls := "java/util/Arrays", name := "copyOfRange", desc := "([BII)[B" } : Jvm.MethodName)) ∈ lw_all := lw_all_of (lw_in7 (List.mem_of_getElem? (i := 167) rfl)) rfl
theorem q1608 : (Jvm.Cond.code ({ cls := "java/util/Arrays", name := "copyOfRange", desc := "([BII)[B" } : Jvm.MethodName) prog_40_method_132_code (3 : Nat) (Option.some (Jvm.ClassFile.FieldType.array Jvm.ClassFile.FieldType.byte))) ∈ lw_all := lw_all_of (lw_in7 (List.mem_of_getElem? (i := 168) rfl)) rfl
theorem q1609 : (Jvm.Cond.methodLink "java/util/Arrays" (339 : Nat) ({ cls := "java/util/Arrays", name := "copyOfRangeByte", desc := "([BII)[B" } : Jvm.MethodName)) ∈ lw_all := lw_all_of (lw_in7 (List.mem_of_getElem? (i := 169) rfl)) rfl
theorem q1610 : (Jvm.Cond.static ({ cls := "java/util/Arrays", name := "copyOfRangeByte", desc := "([BII)[B" } : Jvm.MethodName)) ∈ lw_all := lw_all_of (lw_in7 (List.mem_of_getElem? (i := 170) rfl)) rfl
theorem q1611 : (Jvm.Cond.code ({ cls := "java/util/Arrays", name := "copyOfRangeByte", desc := "([BII)[B" } : Jvm.MethodName) prog_40_method_133_code (5 : Nat) (Option.some (Jvm.ClassFile.FieldType.array Jvm.ClassFile.FieldType.byte))) ∈ lw_all := lw_all_of (lw_in7 (List.mem_of_getElem? (i := 171) rfl)) rfl
theorem q1612 : (Jvm.Cond.methodLink "java/util/Arrays" (343 : Nat) ({ cls := "java/util/Arrays", name := "checkLength", desc := "(II)V" } : Jvm.MethodName)) ∈ lw_all := lw_all_of (lw_in7 (List.mem_of_getElem? (i := 172) rfl)) rfl
theorem q1613 : (Jvm.Cond.static ({ cls := "java/util/Arrays", name := "checkLength", desc := "(II)V" } : Jvm.MethodName)) ∈ lw_all := lw_all_of (lw_in7 (List.mem_of_getElem? (i := 173) rfl)) rfl
theorem q1614 : (Jvm.Cond.code ({ cls := "java/util/Arrays", name := "checkLength", desc := "(II)V" } : Jvm.MethodName) prog_40_method_131_code (2 : Nat) (Option.none : Option Jvm.ClassFile.FieldType)) ∈ lw_all := lw_all_of (lw_in7 (List.mem_of_getElem? (i := 174) rfl)) rfl
theorem q1616 : (Jvm.Cond.methodLink "java/util/Arrays" (65 : Nat) ({ cls := "java/lang/IllegalArgumentException", name := "<init>", desc := "(Ljava/lang/String;)V" } : Jvm.MethodName)) ∈ lw_all := lw_all_of (lw_in7 (List.mem_of_getElem? (i := 176) rfl)) rfl
theorem q1617 : (Jvm.Cond.methodLink "java/lang/String" (1051 : Nat) ({ cls := "java/lang/StringUTF16", name := "compress", desc := "([BII)[B" } : Jvm.MethodName)) ∈ lw_all := lw_all_of (lw_in7 (List.mem_of_getElem? (i := 177) rfl)) rfl
theorem q1618 : (Jvm.Cond.static ({ cls := "java/lang/StringUTF16", name := "compress", desc := "([BII)[B" } : Jvm.MethodName)) ∈ lw_all := lw_all_of (lw_in7 (List.mem_of_getElem? (i := 178) rfl)) rfl
theorem q1619 : (Jvm.Cond.code ({ cls := "java/lang/StringUTF16", name := "compress", desc := "([BII)[B" } : Jvm.MethodName) prog_30_method_17_code (6 : Nat) (Option.some (Jvm.ClassFile.FieldType.array Jvm.ClassFile.FieldType.byte))) ∈ lw_all := lw_all_of (lw_in7 (List.mem_of_getElem? (i := 179) rfl)) rfl
theorem q1620 : (Jvm.Cond.methodLink "java/lang/StringUTF16" (123 : Nat) ({ cls := "java/lang/StringUTF16", name := "compress", desc := "([BI[BII)I" } : Jvm.MethodName)) ∈ lw_all := lw_all_of (lw_in7 (List.mem_of_getElem? (i := 180) rfl)) rfl
theorem q1621 : (Jvm.Cond.static ({ cls := "java/lang/StringUTF16", name := "compress", desc := "([BI[BII)I" } : Jvm.MethodName)) ∈ lw_all := lw_all_of (lw_in7 (List.mem_of_getElem? (i := 181) rfl)) rfl
theorem q1622 : (Jvm.Cond.code ({ cls := "java/lang/StringUTF16", name := "compress", desc := "([BI[BII)I" } : Jvm.MethodName) prog_30_method_22_code (7 : Nat) (Option.some Jvm.ClassFile.FieldType.int)) ∈ lw_all := lw_all_of (lw_in7 (List.mem_of_getElem? (i := 182) rfl)) rfl
theorem q1623 : (Jvm.Cond.methodLink "java/lang/StringUTF16" (126 : Nat) ({ cls := "java/util/Arrays", name := "copyOfRange", desc := "([BII)[B" } : Jvm.MethodName)) ∈ lw_all := lw_all_of (lw_in7 (List.mem_of_getElem? (i := 183) rfl)) rfl
theorem q1624 : (Jvm.Cond.methodLink "java/lang/String" (47 : Nat) ({ cls := "java/lang/StringUTF16", name := "coderFromArrayLen", desc := "([BI)B" } : Jvm.MethodName)) ∈ lw_all := lw_all_of (lw_in7 (List.mem_of_getElem? (i := 184) rfl)) rfl
theorem q1625 : (Jvm.Cond.static ({ cls := "java/lang/StringUTF16", name := "coderFromArrayLen", desc := "([BI)B" } : Jvm.MethodName)) ∈ lw_all := lw_all_of (lw_in7 (List.mem_of_getElem? (i := 185) rfl)) rfl
theorem q1626 : (Jvm.Cond.code ({ cls := "java/lang/StringUTF16", name := "coderFromArrayLen", desc := "([BI)B" } : Jvm.MethodName) prog_30_method_15_code (2 : Nat) (Option.some Jvm.ClassFile.FieldType.byte)) ∈ lw_all := lw_all_of (lw_in7 (List.mem_of_getElem? (i := 186) rfl)) rfl
theorem q1627 : (Jvm.Cond.fieldLink "java/lang/String" (9 : Nat) "java/lang/String" "value" "[B") ∈ lw_all := lw_all_of (lw_in7 (List.mem_of_getElem? (i := 187) rfl)) rfl
theorem q1628 : (Jvm.Cond.fieldLink "java/lang/String" (15 : Nat) "java/lang/String" "coder" "B") ∈ lw_all := lw_all_of (lw_in7 (List.mem_of_getElem? (i := 188) rfl)) rfl
theorem q1629 : (Jvm.Cond.lays "java/lang/String" "java/lang/String" "hash" "I") ∈ lw_all := lw_all_of (lw_in7 (List.mem_of_getElem? (i := 189) rfl)) rfl
theorem q1631 : (Jvm.Cond.lays "java/lang/String" "java/lang/String" "hashIsZero" "Z") ∈ lw_all := lw_all_of (lw_in7 (List.mem_of_getElem? (i := 191) rfl)) rfl
theorem q1633 : (Jvm.Cond.superclass "java/lang/String" "java/lang/Object") ∈ lw_all := lw_all_of (lw_in7 (List.mem_of_getElem? (i := 193) rfl)) rfl
theorem q1634 : (Jvm.Cond.classLink "java/util/Arrays" (68 : Nat) "java/lang/ArrayIndexOutOfBoundsException") ∈ lw_all := lw_all_of (lw_in7 (List.mem_of_getElem? (i := 194) rfl)) rfl
theorem q1635 : (Jvm.Cond.methodLink "java/util/Arrays" (70 : Nat) ({ cls := "java/lang/ArrayIndexOutOfBoundsException", name := "<init>", desc := "(I)V" } : Jvm.MethodName)) ∈ lw_all := lw_all_of (lw_in7 (List.mem_of_getElem? (i := 195) rfl)) rfl
theorem q1636 : (Jvm.Cond.instanceMethod ({ cls := "java/lang/ArrayIndexOutOfBoundsException", name := "<init>", desc := "(I)V" } : Jvm.MethodName)) ∈ lw_all := lw_all_of (lw_in7 (List.mem_of_getElem? (i := 196) rfl)) rfl
theorem q1637 : (Jvm.Cond.code ({ cls := "java/lang/ArrayIndexOutOfBoundsException", name := "<init>", desc := "(I)V" } : Jvm.MethodName) prog_11_method_3_code (2 : Nat) (Option.none : Option Jvm.ClassFile.FieldType)) ∈ lw_all := lw_all_of (lw_in7 (List.mem_of_getElem? (i := 197) rfl)) rfl
theorem q1638 : (Jvm.Cond.classLink "java/lang/ArrayIndexOutOfBoundsException" (10 : Nat) "java/lang/StringBuilder") ∈ lw_all := lw_all_of (lw_in7 (List.mem_of_getElem? (i := 198) rfl)) rfl
theorem q1639 : (Jvm.Cond.methodLink "java/lang/ArrayIndexOutOfBoundsException" (12 : Nat) ({ cls := "java/lang/StringBuilder", name := "<init>", desc := "()V" } : Jvm.MethodName)) ∈ lw_all := lw_all_of (lw_in7 (List.mem_of_getElem? (i := 199) rfl)) rfl
theorem q1641 : (Jvm.Cond.methodLink "java/lang/ArrayIndexOutOfBoundsException" (15 : Nat) ({ cls := "java/lang/StringBuilder", name := "append", desc := "(Ljava/lang/String;)Ljava/lang/StringBuilder;" } : Jvm.MethodName)) ∈ lw_all := lw_all_of (lw_in7 (List.mem_of_getElem? (i := 201) rfl)) rfl
theorem q1642 : (Jvm.Cond.methodLink "java/lang/ArrayIndexOutOfBoundsException" (19 : Nat) ({ cls := "java/lang/StringBuilder", name := "append", desc := "(I)Ljava/lang/StringBuilder;" } : Jvm.MethodName)) ∈ lw_all := lw_all_of (lw_in7 (List.mem_of_getElem? (i := 202) rfl)) rfl
theorem q1643 : (Jvm.Cond.methodLink "java/lang/ArrayIndexOutOfBoundsException" (22 : Nat) ({ cls := "java/lang/StringBuilder", name := "toString", desc := "()Ljava/lang/String;" } : Jvm.MethodName)) ∈ lw_all := lw_all_of (lw_in7 (List.mem_of_getElem? (i := 203) rfl)) rfl
theorem q1644 : (Jvm.Cond.methodLink "PegshoreHouseLaw" (201 : Nat) ({ cls := "PegshoreHouseModel", name := "dead", desc := "()I" } : Jvm.MethodName)) ∈ lw_all := lw_all_of (lw_in7 (List.mem_of_getElem? (i := 204) rfl)) rfl
theorem q1645 : (Jvm.Cond.instanceMethod ({ cls := "PegshoreHouseModel", name := "dead", desc := "()I" } : Jvm.MethodName)) ∈ lw_all := lw_all_of (lw_in7 (List.mem_of_getElem? (i := 205) rfl)) rfl
theorem q1646 : (Jvm.Cond.selects "PegshoreHouseModel" ({ cls := "PegshoreHouseModel", name := "dead", desc := "()I" } : Jvm.MethodName) ({ cls := "PegshoreHouseModel", name := "dead", desc := "()I" } : Jvm.MethodName)) ∈ lw_all := lw_all_of (lw_in7 (List.mem_of_getElem? (i := 206) rfl)) rfl
theorem q1647 : (Jvm.Cond.code ({ cls := "PegshoreHouseModel", name := "dead", desc := "()I" } : Jvm.MethodName) prog_6_method_51_code (3 : Nat) (Option.some Jvm.ClassFile.FieldType.int)) ∈ lw_all := lw_all_of (lw_in7 (List.mem_of_getElem? (i := 207) rfl)) rfl
theorem q1648 : (Jvm.Cond.methodLink "PegshoreHouseLaw" (205 : Nat) ({ cls := "PegshoreHouseModel", name := "fewest", desc := "()I" } : Jvm.MethodName)) ∈ lw_all := lw_all_of (lw_in7 (List.mem_of_getElem? (i := 208) rfl)) rfl
theorem q1649 : (Jvm.Cond.instanceMethod ({ cls := "PegshoreHouseModel", name := "fewest", desc := "()I" } : Jvm.MethodName)) ∈ lw_all := lw_all_of (lw_in7 (List.mem_of_getElem? (i := 209) rfl)) rfl
theorem q1650 : (Jvm.Cond.selects "PegshoreHouseModel" ({ cls := "PegshoreHouseModel", name := "fewest", desc := "()I" } : Jvm.MethodName) ({ cls := "PegshoreHouseModel", name := "fewest", desc := "()I" } : Jvm.MethodName)) ∈ lw_all := lw_all_of (lw_in7 (List.mem_of_getElem? (i := 210) rfl)) rfl
theorem q1651 : (Jvm.Cond.code ({ cls := "PegshoreHouseModel", name := "fewest", desc := "()I" } : Jvm.MethodName) prog_6_method_52_code (3 : Nat) (Option.some Jvm.ClassFile.FieldType.int)) ∈ lw_all := lw_all_of (lw_in7 (List.mem_of_getElem? (i := 211) rfl)) rfl
theorem q1652 : (Jvm.Cond.methodLink "PegshoreHouseLaw" (208 : Nat) ({ cls := "PegshoreHouseModel", name := "leastSweeps", desc := "()I" } : Jvm.MethodName)) ∈ lw_all := lw_all_of (lw_in7 (List.mem_of_getElem? (i := 212) rfl)) rfl
theorem q1653 : (Jvm.Cond.instanceMethod ({ cls := "PegshoreHouseModel", name := "leastSweeps", desc := "()I" } : Jvm.MethodName)) ∈ lw_all := lw_all_of (lw_in7 (List.mem_of_getElem? (i := 213) rfl)) rfl
theorem q1654 : (Jvm.Cond.selects "PegshoreHouseModel" ({ cls := "PegshoreHouseModel", name := "leastSweeps", desc := "()I" } : Jvm.MethodName) ({ cls := "PegshoreHouseModel", name := "leastSweeps", desc := "()I" } : Jvm.MethodName)) ∈ lw_all := lw_all_of (lw_in7 (List.mem_of_getElem? (i := 214) rfl)) rfl
theorem q1655 : (Jvm.Cond.code ({ cls := "PegshoreHouseModel", name := "leastSweeps", desc := "()I" } : Jvm.MethodName) prog_6_method_54_code (1 : Nat) (Option.some Jvm.ClassFile.FieldType.int)) ∈ lw_all := lw_all_of (lw_in7 (List.mem_of_getElem? (i := 215) rfl)) rfl
theorem q1656 : (Jvm.Cond.methodLink "PegshoreHouseModel" (225 : Nat) ({ cls := "PegshoreHouseModel", name := "sweep", desc := "()V" } : Jvm.MethodName)) ∈ lw_all := lw_all_of (lw_in7 (List.mem_of_getElem? (i := 216) rfl)) rfl
theorem q1658 : (Jvm.Cond.instanceMethod ({ cls := "PegshoreHouseModel", name := "sweep", desc := "()V" } : Jvm.MethodName)) ∈ lw_all := lw_all_of (lw_in7 (List.mem_of_getElem? (i := 218) rfl)) rfl
theorem q1659 : (Jvm.Cond.code ({ cls := "PegshoreHouseModel", name := "sweep", desc := "()V" } : Jvm.MethodName) prog_6_method_53_code (5 : Nat) (Option.none : Option Jvm.ClassFile.FieldType)) ∈ lw_all := lw_all_of (lw_in7 (List.mem_of_getElem? (i := 219) rfl)) rfl
theorem q1660 : (Jvm.Cond.methodLink "PegshoreHouseLaw" (211 : Nat) ({ cls := "PegshoreHouseModel", name := "highest", desc := "()I" } : Jvm.MethodName)) ∈ lw_all := lw_all_of (lw_in7 (List.mem_of_getElem? (i := 220) rfl)) rfl
theorem q1661 : (Jvm.Cond.instanceMethod ({ cls := "PegshoreHouseModel", name := "highest", desc := "()I" } : Jvm.MethodName)) ∈ lw_all := lw_all_of (lw_in7 (List.mem_of_getElem? (i := 221) rfl)) rfl
theorem q1662 : (Jvm.Cond.selects "PegshoreHouseModel" ({ cls := "PegshoreHouseModel", name := "highest", desc := "()I" } : Jvm.MethodName) ({ cls := "PegshoreHouseModel", name := "highest", desc := "()I" } : Jvm.MethodName)) ∈ lw_all := lw_all_of (lw_in7 (List.mem_of_getElem? (i := 222) rfl)) rfl
theorem q1663 : (Jvm.Cond.code ({ cls := "PegshoreHouseModel", name := "highest", desc := "()I" } : Jvm.MethodName) prog_6_method_55_code (4 : Nat) (Option.some Jvm.ClassFile.FieldType.int)) ∈ lw_all := lw_all_of (lw_in7 (List.mem_of_getElem? (i := 223) rfl)) rfl
theorem q1664 : (Jvm.Cond.methodLink "PegshoreHouseLaw" (214 : Nat) ({ cls := "PegshoreHouseModel", name := "weigh", desc := "(II)I" } : Jvm.MethodName)) ∈ lw_all := lw_all_of (lw_in7 (List.mem_of_getElem? (i := 224) rfl)) rfl
theorem q1665 : (Jvm.Cond.instanceMethod ({ cls := "PegshoreHouseModel", name := "weigh", desc := "(II)I" } : Jvm.MethodName)) ∈ lw_all := lw_all_of (lw_in7 (List.mem_of_getElem? (i := 225) rfl)) rfl
theorem q1666 : (Jvm.Cond.selects "PegshoreHouseModel" ({ cls := "PegshoreHouseModel", name := "weigh", desc := "(II)I" } : Jvm.MethodName) ({ cls := "PegshoreHouseModel", name := "weigh", desc := "(II)I" } : Jvm.MethodName)) ∈ lw_all := lw_all_of (lw_in7 (List.mem_of_getElem? (i := 226) rfl)) rfl
theorem q1667 : (Jvm.Cond.code ({ cls := "PegshoreHouseModel", name := "weigh", desc := "(II)I" } : Jvm.MethodName) prog_6_method_56_code (4 : Nat) (Option.some Jvm.ClassFile.FieldType.int)) ∈ lw_all := lw_all_of (lw_in7 (List.mem_of_getElem? (i := 227) rfl)) rfl
theorem q1668 : (Jvm.Cond.methodLink "PegshoreHouseLaw" (217 : Nat) ({ cls := "PegshoreHouseModel", name := "weight", desc := "(I)I" } : Jvm.MethodName)) ∈ lw_all := lw_all_of (lw_in7 (List.mem_of_getElem? (i := 228) rfl)) rfl
theorem q1669 : (Jvm.Cond.instanceMethod ({ cls := "PegshoreHouseModel", name := "weight", desc := "(I)I" } : Jvm.MethodName)) ∈ lw_all := lw_all_of (lw_in7 (List.mem_of_getElem? (i := 229) rfl)) rfl
theorem q1670 : (Jvm.Cond.selects "PegshoreHouseModel" ({ cls := "PegshoreHouseModel", name := "weight", desc := "(I)I" } : Jvm.MethodName) ({ cls := "PegshoreHouseModel", name := "weight", desc := "(I)I" } : Jvm.MethodName)) ∈ lw_all := lw_all_of (lw_in7 (List.mem_of_getElem? (i := 230) rfl)) rfl
theorem q1671 : (Jvm.Cond.code ({ cls := "PegshoreHouseModel", name := "weight", desc := "(I)I" } : Jvm.MethodName) prog_6_method_58_code (2 : Nat) (Option.some Jvm.ClassFile.FieldType.int)) ∈ lw_all := lw_all_of (lw_in7 (List.mem_of_getElem? (i := 231) rfl)) rfl
theorem q1672 : (Jvm.Cond.methodLink "PegshoreHouseModel" (228 : Nat) ({ cls := "PegshoreHouseModel", name := "weightOf", desc := "(I)I" } : Jvm.MethodName)) ∈ lw_all := lw_all_of (lw_in7 (List.mem_of_getElem? (i := 232) rfl)) rfl
theorem q1674 : (Jvm.Cond.instanceMethod ({ cls := "PegshoreHouseModel", name := "weightOf", desc := "(I)I" } : Jvm.MethodName)) ∈ lw_all := lw_all_of (lw_in7 (List.mem_of_getElem? (i := 234) rfl)) rfl
theorem q1675 : (Jvm.Cond.code ({ cls := "PegshoreHouseModel", name := "weightOf", desc := "(I)I" } : Jvm.MethodName) prog_6_method_57_code (4 : Nat) (Option.some Jvm.ClassFile.FieldType.int)) ∈ lw_all := lw_all_of (lw_in7 (List.mem_of_getElem? (i := 235) rfl)) rfl
theorem q1676 : (Jvm.Cond.methodLink "PegshoreHouseLaw" (221 : Nat) ({ cls := "PegshoreHouseModel", name := "isProof", desc := "()Z" } : Jvm.MethodName)) ∈ lw_all := lw_all_of (lw_in7 (List.mem_of_getElem? (i := 236) rfl)) rfl
theorem q1677 : (Jvm.Cond.instanceMethod ({ cls := "PegshoreHouseModel", name := "isProof", desc := "()Z" } : Jvm.MethodName)) ∈ lw_all := lw_all_of (lw_in7 (List.mem_of_getElem? (i := 237) rfl)) rfl
theorem q1678 : (Jvm.Cond.selects "PegshoreHouseModel" ({ cls := "PegshoreHouseModel", name := "isProof", desc := "()Z" } : Jvm.MethodName) ({ cls := "PegshoreHouseModel", name := "isProof", desc := "()Z" } : Jvm.MethodName)) ∈ lw_all := lw_all_of (lw_in7 (List.mem_of_getElem? (i := 238) rfl)) rfl
theorem q1679 : (Jvm.Cond.code ({ cls := "PegshoreHouseModel", name := "isProof", desc := "()Z" } : Jvm.MethodName) prog_6_method_61_code (1 : Nat) (Option.some Jvm.ClassFile.FieldType.boolean)) ∈ lw_all := lw_all_of (lw_in7 (List.mem_of_getElem? (i := 239) rfl)) rfl
theorem q1680 : (Jvm.Cond.methodLink "PegshoreHouseModel" (234 : Nat) ({ cls := "PegshoreHouseModel", name := "worst", desc := "()I" } : Jvm.MethodName)) ∈ lw_all := lw_all_of (lw_in8 (List.mem_of_getElem? (i := 0) rfl)) rfl
theorem q1682 : (Jvm.Cond.instanceMethod ({ cls := "PegshoreHouseModel", name := "worst", desc := "()I" } : Jvm.MethodName)) ∈ lw_all := lw_all_of (lw_in8 (List.mem_of_getElem? (i := 2) rfl)) rfl
theorem q1683 : (Jvm.Cond.code ({ cls := "PegshoreHouseModel", name := "worst", desc := "()I" } : Jvm.MethodName) prog_6_method_60_code (3 : Nat) (Option.some Jvm.ClassFile.FieldType.int)) ∈ lw_all := lw_all_of (lw_in8 (List.mem_of_getElem? (i := 3) rfl)) rfl
theorem q1684 : (Jvm.Cond.methodLink "PegshoreHouseModel" (231 : Nat) ({ cls := "PegshoreHouseModel", name := "gains", desc := "(I)I" } : Jvm.MethodName)) ∈ lw_all := lw_all_of (lw_in8 (List.mem_of_getElem? (i := 4) rfl)) rfl
theorem q1686 : (Jvm.Cond.instanceMethod ({ cls := "PegshoreHouseModel", name := "gains", desc := "(I)I" } : Jvm.MethodName)) ∈ lw_all := lw_all_of (lw_in8 (List.mem_of_getElem? (i := 6) rfl)) rfl
theorem q1687 : (Jvm.Cond.code ({ cls := "PegshoreHouseModel", name := "gains", desc := "(I)I" } : Jvm.MethodName) prog_6_method_59_code (2 : Nat) (Option.some Jvm.ClassFile.FieldType.int)) ∈ lw_all := lw_all_of (lw_in8 (List.mem_of_getElem? (i := 7) rfl)) rfl
theorem q1688 : (Jvm.Cond.methodLink "PegshoreHouseLaw" (224 : Nat) ({ cls := "PegshoreHouseModel", name := "fault", desc := "()I" } : Jvm.MethodName)) ∈ lw_all := lw_all_of (lw_in8 (List.mem_of_getElem? (i := 8) rfl)) rfl
theorem q1689 : (Jvm.Cond.instanceMethod ({ cls := "PegshoreHouseModel", name := "fault", desc := "()I" } : Jvm.MethodName)) ∈ lw_all := lw_all_of (lw_in8 (List.mem_of_getElem? (i := 9) rfl)) rfl
theorem q1690 : (Jvm.Cond.selects "PegshoreHouseModel" ({ cls := "PegshoreHouseModel", name := "fault", desc := "()I" } : Jvm.MethodName) ({ cls := "PegshoreHouseModel", name := "fault", desc := "()I" } : Jvm.MethodName)) ∈ lw_all := lw_all_of (lw_in8 (List.mem_of_getElem? (i := 10) rfl)) rfl
theorem q1691 : (Jvm.Cond.code ({ cls := "PegshoreHouseModel", name := "fault", desc := "()I" } : Jvm.MethodName) prog_6_method_62_code (1 : Nat) (Option.some Jvm.ClassFile.FieldType.int)) ∈ lw_all := lw_all_of (lw_in8 (List.mem_of_getElem? (i := 11) rfl)) rfl
theorem q1692 : (Jvm.Cond.methodLink "PegshoreHouseLaw" (232 : Nat) ({ cls := "PegshoreHouseModel", name := "colour", desc := "(II)I" } : Jvm.MethodName)) ∈ lw_all := lw_all_of (lw_in8 (List.mem_of_getElem? (i := 12) rfl)) rfl
theorem q1693 : (Jvm.Cond.instanceMethod ({ cls := "PegshoreHouseModel", name := "colour", desc := "(II)I" } : Jvm.MethodName)) ∈ lw_all := lw_all_of (lw_in8 (List.mem_of_getElem? (i := 13) rfl)) rfl
theorem q1694 : (Jvm.Cond.selects "PegshoreHouseModel" ({ cls := "PegshoreHouseModel", name := "colour", desc := "(II)I" } : Jvm.MethodName) ({ cls := "PegshoreHouseModel", name := "colour", desc := "(II)I" } : Jvm.MethodName)) ∈ lw_all := lw_all_of (lw_in8 (List.mem_of_getElem? (i := 14) rfl)) rfl
theorem q1695 : (Jvm.Cond.code ({ cls := "PegshoreHouseModel", name := "colour", desc := "(II)I" } : Jvm.MethodName) prog_6_method_64_code (3 : Nat) (Option.some Jvm.ClassFile.FieldType.int)) ∈ lw_all := lw_all_of (lw_in8 (List.mem_of_getElem? (i := 15) rfl)) rfl
theorem q1696 : (Jvm.Cond.methodLink "PegshoreHouseModel" (237 : Nat) ({ cls := "PegshoreHouseModel", name := "colourOf", desc := "(II)I" } : Jvm.MethodName)) ∈ lw_all := lw_all_of (lw_in8 (List.mem_of_getElem? (i := 16) rfl)) rfl
theorem q1698 : (Jvm.Cond.instanceMethod ({ cls := "PegshoreHouseModel", name := "colourOf", desc := "(II)I" } : Jvm.MethodName)) ∈ lw_all := lw_all_of (lw_in8 (List.mem_of_getElem? (i := 18) rfl)) rfl
theorem q1699 : (Jvm.Cond.code ({ cls := "PegshoreHouseModel", name := "colourOf", desc := "(II)I" } : Jvm.MethodName) prog_6_method_63_code (3 : Nat) (Option.some Jvm.ClassFile.FieldType.int)) ∈ lw_all := lw_all_of (lw_in8 (List.mem_of_getElem? (i := 19) rfl)) rfl
theorem q1700 : (Jvm.Cond.methodLink "PegshoreHouseLaw" (235 : Nat) ({ cls := "PegshoreHouseModel", name := "isFit", desc := "(I)Z" } : Jvm.MethodName)) ∈ lw_all := lw_all_of (lw_in8 (List.mem_of_getElem? (i := 20) rfl)) rfl
theorem q1701 : (Jvm.Cond.instanceMethod ({ cls := "PegshoreHouseModel", name := "isFit", desc := "(I)Z" } : Jvm.MethodName)) ∈ lw_all := lw_all_of (lw_in8 (List.mem_of_getElem? (i := 21) rfl)) rfl
theorem q1702 : (Jvm.Cond.selects "PegshoreHouseModel" ({ cls := "PegshoreHouseModel", name := "isFit", desc := "(I)Z" } : Jvm.MethodName) ({ cls := "PegshoreHouseModel", name := "isFit", desc := "(I)Z" } : Jvm.MethodName)) ∈ lw_all := lw_all_of (lw_in8 (List.mem_of_getElem? (i := 22) rfl)) rfl
theorem q1703 : (Jvm.Cond.code ({ cls := "PegshoreHouseModel", name := "isFit", desc := "(I)Z" } : Jvm.MethodName) prog_6_method_66_code (2 : Nat) (Option.some Jvm.ClassFile.FieldType.boolean)) ∈ lw_all := lw_all_of (lw_in8 (List.mem_of_getElem? (i := 23) rfl)) rfl
theorem q1704 : (Jvm.Cond.methodLink "PegshoreHouseModel" (240 : Nat) ({ cls := "PegshoreHouseModel", name := "fits", desc := "(I)Z" } : Jvm.MethodName)) ∈ lw_all := lw_all_of (lw_in8 (List.mem_of_getElem? (i := 24) rfl)) rfl
theorem q1706 : (Jvm.Cond.instanceMethod ({ cls := "PegshoreHouseModel", name := "fits", desc := "(I)Z" } : Jvm.MethodName)) ∈ lw_all := lw_all_of (lw_in8 (List.mem_of_getElem? (i := 26) rfl)) rfl
theorem q1707 : (Jvm.Cond.code ({ cls := "PegshoreHouseModel", name := "fits", desc := "(I)Z" } : Jvm.MethodName) prog_6_method_65_code (4 : Nat) (Option.some Jvm.ClassFile.FieldType.boolean)) ∈ lw_all := lw_all_of (lw_in8 (List.mem_of_getElem? (i := 27) rfl)) rfl
theorem q1708 : (Jvm.Cond.methodLink "PegshoreHouseLaw" (229 : Nat) ({ cls := "PegshoreHouseModel", name := "isBarred", desc := "(Z)Z" } : Jvm.MethodName)) ∈ lw_all := lw_all_of (lw_in8 (List.mem_of_getElem? (i := 28) rfl)) rfl
theorem q1709 : (Jvm.Cond.instanceMethod ({ cls := "PegshoreHouseModel", name := "isBarred", desc := "(Z)Z" } : Jvm.MethodName)) ∈ lw_all := lw_all_of (lw_in8 (List.mem_of_getElem? (i := 29) rfl)) rfl
theorem q1710 : (Jvm.Cond.selects "PegshoreHouseModel" ({ cls := "PegshoreHouseModel", name := "isBarred", desc := "(Z)Z" } : Jvm.MethodName) ({ cls := "PegshoreHouseModel", name := "isBarred", desc := "(Z)Z" } : Jvm.MethodName)) ∈ lw_all := lw_all_of (lw_in8 (List.mem_of_getElem? (i := 30) rfl)) rfl
theorem q1711 : (Jvm.Cond.code ({ cls := "PegshoreHouseModel", name := "isBarred", desc := "(Z)Z" } : Jvm.MethodName) prog_6_method_68_code (5 : Nat) (Option.some Jvm.ClassFile.FieldType.boolean)) ∈ lw_all := lw_all_of (lw_in8 (List.mem_of_getElem? (i := 31) rfl)) rfl
theorem q1712 : (Jvm.Cond.methodLink "PegshoreHouseModel" (243 : Nat) ({ cls := "PegshoreHouseModel", name := "others", desc := "(III)I" } : Jvm.MethodName)) ∈ lw_all := lw_all_of (lw_in8 (List.mem_of_getElem? (i := 32) rfl)) rfl
theorem q1714 : (Jvm.Cond.instanceMethod ({ cls := "PegshoreHouseModel", name := "others", desc := "(III)I" } : Jvm.MethodName)) ∈ lw_all := lw_all_of (lw_in8 (List.mem_of_getElem? (i := 34) rfl)) rfl
theorem q1715 : (Jvm.Cond.code ({ cls := "PegshoreHouseModel", name := "others", desc := "(III)I" } : Jvm.MethodName) prog_6_method_67_code (6 : Nat) (Option.some Jvm.ClassFile.FieldType.int)) ∈ lw_all := lw_all_of (lw_in8 (List.mem_of_getElem? (i := 35) rfl)) rfl
theorem q1716 : (Jvm.Cond.methodLink "PegshoreHouseLaw" (239 : Nat) ({ cls := "PegshoreHouseModel", name := "value", desc := "()I" } : Jvm.MethodName)) ∈ lw_all := lw_all_of (lw_in8 (List.mem_of_getElem? (i := 36) rfl)) rfl
theorem q1717 : (Jvm.Cond.instanceMethod ({ cls := "PegshoreHouseModel", name := "value", desc := "()I" } : Jvm.MethodName)) ∈ lw_all := lw_all_of (lw_in8 (List.mem_of_getElem? (i := 37) rfl)) rfl
theorem q1718 : (Jvm.Cond.selects "PegshoreHouseModel" ({ cls := "PegshoreHouseModel", name := "value", desc := "()I" } : Jvm.MethodName) ({ cls := "PegshoreHouseModel", name := "value", desc := "()I" } : Jvm.MethodName)) ∈ lw_all := lw_all_of (lw_in8 (List.mem_of_getElem? (i := 38) rfl)) rfl
theorem q1719 : (Jvm.Cond.code ({ cls := "PegshoreHouseModel", name := "value", desc := "()I" } : Jvm.MethodName) prog_6_method_71_code (1 : Nat) (Option.some Jvm.ClassFile.FieldType.int)) ∈ lw_all := lw_all_of (lw_in8 (List.mem_of_getElem? (i := 39) rfl)) rfl
theorem q1720 : (Jvm.Cond.methodLink "PegshoreHouseModel" (253 : Nat) ({ cls := "PegshoreHouseModel", name := "valueAll", desc := "()V" } : Jvm.MethodName)) ∈ lw_all := lw_all_of (lw_in8 (List.mem_of_getElem? (i := 40) rfl)) rfl
theorem q1722 : (Jvm.Cond.instanceMethod ({ cls := "PegshoreHouseModel", name := "valueAll", desc := "()V" } : Jvm.MethodName)) ∈ lw_all := lw_all_of (lw_in8 (List.mem_of_getElem? (i := 42) rfl)) rfl
theorem q1723 : (Jvm.Cond.code ({ cls := "PegshoreHouseModel", name := "valueAll", desc := "()V" } : Jvm.MethodName) prog_6_method_70_code (3 : Nat) (Option.none : Option Jvm.ClassFile.FieldType)) ∈ lw_all := lw_all_of (lw_in8 (List.mem_of_getElem? (i := 43) rfl)) rfl
theorem q1724 : (Jvm.Cond.methodLink "PegshoreHouseModel" (249 : Nat) ({ cls := "PegshoreHouseModel", name := "value", desc := "(I)V" } : Jvm.MethodName)) ∈ lw_all := lw_all_of (lw_in8 (List.mem_of_getElem? (i := 44) rfl)) rfl
theorem q1726 : (Jvm.Cond.instanceMethod ({ cls := "PegshoreHouseModel", name := "value", desc := "(I)V" } : Jvm.MethodName)) ∈ lw_all := lw_all_of (lw_in8 (List.mem_of_getElem? (i := 46) rfl)) rfl
theorem q1727 : (Jvm.Cond.code ({ cls := "PegshoreHouseModel", name := "value", desc := "(I)V" } : Jvm.MethodName) prog_6_method_69_code (4 : Nat) (Option.none : Option Jvm.ClassFile.FieldType)) ∈ lw_all := lw_all_of (lw_in8 (List.mem_of_getElem? (i := 47) rfl)) rfl
theorem q1728 : (Jvm.Cond.methodLink "PegshoreHouseModel" (246 : Nat) ({ cls := "java/lang/Integer", name := "numberOfTrailingZeros", desc := "(I)I" } : Jvm.MethodName)) ∈ lw_all := lw_all_of (lw_in8 (List.mem_of_getElem? (i := 48) rfl)) rfl
theorem q1729 : (Jvm.Cond.static ({ cls := "java/lang/Integer", name := "numberOfTrailingZeros", desc := "(I)I" } : Jvm.MethodName)) ∈ lw_all := lw_all_of (lw_in8 (List.mem_of_getElem? (i := 49) rfl)) rfl
theorem q1730 : (Jvm.Cond.code ({ cls := "java/lang/Integer", name := "numberOfTrailingZeros", desc := "(I)I" } : Jvm.MethodName) prog_21_method_48_code (2 : Nat) (Option.some Jvm.ClassFile.FieldType.int)) ∈ lw_all := lw_all_of (lw_in8 (List.mem_of_getElem? (i := 50) rfl)) rfl
theorem q1731 : (Jvm.Cond.constant "java/lang/Integer" (264 : Nat) (65536 : Int32)) ∈ lw_all := lw_all_of (lw_in8 (List.mem_of_getElem? (i := 51) rfl)) rfl
theorem q1732 : (Jvm.Cond.methodLink "PegshoreHouseLaw" (242 : Nat) ({ cls := "PegshoreHouseModel", name := "winning", desc := "()I" } : Jvm.MethodName)) ∈ lw_all := lw_all_of (lw_in8 (List.mem_of_getElem? (i := 52) rfl)) rfl
theorem q1733 : (Jvm.Cond.instanceMethod ({ cls := "PegshoreHouseModel", name := "winning", desc := "()I" } : Jvm.MethodName)) ∈ lw_all := lw_all_of (lw_in8 (List.mem_of_getElem? (i := 53) rfl)) rfl
theorem q1734 : (Jvm.Cond.selects "PegshoreHouseModel" ({ cls := "PegshoreHouseModel", name := "winning", desc := "()I" } : Jvm.MethodName) ({ cls := "PegshoreHouseModel", name := "winning", desc := "()I" } : Jvm.MethodName)) ∈ lw_all := lw_all_of (lw_in8 (List.mem_of_getElem? (i := 54) rfl)) rfl
theorem q1735 : (Jvm.Cond.code ({ cls := "PegshoreHouseModel", name := "winning", desc := "()I" } : Jvm.MethodName) prog_6_method_72_code (2 : Nat) (Option.some Jvm.ClassFile.FieldType.int)) ∈ lw_all := lw_all_of (lw_in8 (List.mem_of_getElem? (i := 55) rfl)) rfl
theorem q1736 : (Jvm.Cond.methodLink "PegshoreHouseLaw" (245 : Nat) ({ cls := "PegshoreHouseModel", name := "tell", desc := "(I)I" } : Jvm.MethodName)) ∈ lw_all := lw_all_of (lw_in8 (List.mem_of_getElem? (i := 56) rfl)) rfl
theorem q1737 : (Jvm.Cond.instanceMethod ({ cls := "PegshoreHouseModel", name := "tell", desc := "(I)I" } : Jvm.MethodName)) ∈ lw_all := lw_all_of (lw_in8 (List.mem_of_getElem? (i := 57) rfl)) rfl
theorem q1738 : (Jvm.Cond.selects "PegshoreHouseModel" ({ cls := "PegshoreHouseModel", name := "tell", desc := "(I)I" } : Jvm.MethodName) ({ cls := "PegshoreHouseModel", name := "tell", desc := "(I)I" } : Jvm.MethodName)) ∈ lw_all := lw_all_of (lw_in8 (List.mem_of_getElem? (i := 58) rfl)) rfl
theorem q1739 : (Jvm.Cond.code ({ cls := "PegshoreHouseModel", name := "tell", desc := "(I)I" } : Jvm.MethodName) prog_6_method_73_code (2 : Nat) (Option.some Jvm.ClassFile.FieldType.int)) ∈ lw_all := lw_all_of (lw_in8 (List.mem_of_getElem? (i := 59) rfl)) rfl
theorem q1740 : (Jvm.Cond.methodLink "PegshoreHouseLaw" (248 : Nat) ({ cls := "PegshoreHouseModel", name := "play", desc := "()I" } : Jvm.MethodName)) ∈ lw_all := lw_all_of (lw_in8 (List.mem_of_getElem? (i := 60) rfl)) rfl
theorem q1741 : (Jvm.Cond.instanceMethod ({ cls := "PegshoreHouseModel", name := "play", desc := "()I" } : Jvm.MethodName)) ∈ lw_all := lw_all_of (lw_in8 (List.mem_of_getElem? (i := 61) rfl)) rfl
theorem q1742 : (Jvm.Cond.selects "PegshoreHouseModel" ({ cls := "PegshoreHouseModel", name := "play", desc := "()I" } : Jvm.MethodName) ({ cls := "PegshoreHouseModel", name := "play", desc := "()I" } : Jvm.MethodName)) ∈ lw_all := lw_all_of (lw_in8 (List.mem_of_getElem? (i := 62) rfl)) rfl
theorem q1743 : (Jvm.Cond.code ({ cls := "PegshoreHouseModel", name := "play", desc := "()I" } : Jvm.MethodName) prog_6_method_75_code (3 : Nat) (Option.some Jvm.ClassFile.FieldType.int)) ∈ lw_all := lw_all_of (lw_in8 (List.mem_of_getElem? (i := 63) rfl)) rfl
theorem q1744 : (Jvm.Cond.methodLink "PegshoreHouseModel" (256 : Nat) ({ cls := "PegshoreHouseModel", name := "faultIn", desc := "()I" } : Jvm.MethodName)) ∈ lw_all := lw_all_of (lw_in8 (List.mem_of_getElem? (i := 64) rfl)) rfl
theorem q1746 : (Jvm.Cond.instanceMethod ({ cls := "PegshoreHouseModel", name := "faultIn", desc := "()I" } : Jvm.MethodName)) ∈ lw_all := lw_all_of (lw_in8 (List.mem_of_getElem? (i := 66) rfl)) rfl
theorem q1747 : (Jvm.Cond.code ({ cls := "PegshoreHouseModel", name := "faultIn", desc := "()I" } : Jvm.MethodName) prog_6_method_74_code (4 : Nat) (Option.some Jvm.ClassFile.FieldType.int)) ∈ lw_all := lw_all_of (lw_in8 (List.mem_of_getElem? (i := 67) rfl)) rfl
theorem q1749 : (Jvm.Cond.methodLink "PegshoreHouseModel" (259 : Nat) ({ cls := "java/util/List", name := "iterator", desc := "()Ljava/util/Iterator;" } : Jvm.MethodName)) ∈ lw_all := lw_all_of (lw_in8 (List.mem_of_getElem? (i := 69) rfl)) rfl
theorem q1752 : (Jvm.Cond.selects "java/util/ArrayList" ({ cls := "java/util/List", name := "iterator", desc := "()Ljava/util/Iterator;" } : Jvm.MethodName) ({ cls := "java/util/ArrayList", name := "iterator", desc := "()Ljava/util/Iterator;" } : Jvm.MethodName)) ∈ lw_all := lw_all_of (lw_in8 (List.mem_of_getElem? (i := 72) rfl)) rfl
theorem q1754 : (Jvm.Cond.instanceMethod ({ cls := "java/util/ArrayList", name := "iterator", desc := "()Ljava/util/Iterator;" } : Jvm.MethodName)) ∈ lw_all := lw_all_of (lw_in8 (List.mem_of_getElem? (i := 74) rfl)) rfl
theorem q1756 : (Jvm.Cond.code ({ cls := "java/util/ArrayList", name := "iterator", desc := "()Ljava/util/Iterator;" } : Jvm.MethodName) prog_38_method_55_code (1 : Nat) (Option.some (Jvm.ClassFile.FieldType.object "java/util/Iterator"))) ∈ lw_all := lw_all_of (lw_in8 (List.mem_of_getElem? (i := 76) rfl)) rfl
theorem q1757 : (Jvm.Cond.classLink "java/util/ArrayList" (267 : Nat) "java/util/ArrayList$Itr") ∈ lw_all := lw_all_of (lw_in8 (List.mem_of_getElem? (i := 77) rfl)) rfl
theorem q1758 : (Jvm.Cond.instantiable "java/util/ArrayList$Itr" (4 : Nat)) ∈ lw_all := lw_all_of (lw_in8 (List.mem_of_getElem? (i := 78) rfl)) rfl
theorem q1759 : (Jvm.Cond.methodLink "java/util/ArrayList" (269 : Nat) ({ cls := "java/util/ArrayList$Itr", name := "<init>", desc := "(Ljava/util/ArrayList;)V" } : Jvm.MethodName)) ∈ lw_all := lw_all_of (lw_in8 (List.mem_of_getElem? (i := 79) rfl)) rfl
theorem q1760 : (Jvm.Cond.instanceMethod ({ cls := "java/util/ArrayList$Itr", name := "<init>", desc := "(Ljava/util/ArrayList;)V" } : Jvm.MethodName)) ∈ lw_all := lw_all_of (lw_in8 (List.mem_of_getElem? (i := 80) rfl)) rfl
theorem q1761 : (Jvm.Cond.code ({ cls := "java/util/ArrayList$Itr", name := "<init>", desc := "(Ljava/util/ArrayList;)V" } : Jvm.MethodName) prog_39_method_1_code (2 : Nat) (Option.none : Option Jvm.ClassFile.FieldType)) ∈ lw_all := lw_all_of (lw_in8 (List.mem_of_getElem? (i := 81) rfl)) rfl
theorem q1762 : (Jvm.Cond.methodLink "java/util/ArrayList$Itr" (7 : Nat) ({ cls := "java/lang/Object", name := "<init>", desc := "()V" } : Jvm.MethodName)) ∈ lw_all := lw_all_of (lw_in8 (List.mem_of_getElem? (i := 82) rfl)) rfl
theorem q1763 : (Jvm.Cond.fieldLink "java/util/ArrayList$Itr" (25 : Nat) "java/util/ArrayList$Itr" "cursor" "I") ∈ lw_all := lw_all_of (lw_in8 (List.mem_of_getElem? (i := 83) rfl)) rfl
theorem q1764 : (Jvm.Cond.fieldLink "java/util/ArrayList$Itr" (13 : Nat) "java/util/ArrayList$Itr" "lastRet" "I") ∈ lw_all := lw_all_of (lw_in8 (List.mem_of_getElem? (i := 84) rfl)) rfl
theorem q1765 : (Jvm.Cond.fieldLink "java/util/ArrayList$Itr" (22 : Nat) "java/util/ArrayList$Itr" "expectedModCount" "I") ∈ lw_all := lw_all_of (lw_in8 (List.mem_of_getElem? (i := 85) rfl)) rfl
theorem q1766 : (Jvm.Cond.fieldLink "java/util/ArrayList$Itr" (1 : Nat) "java/util/ArrayList$Itr" "this$0" "Ljava/util/ArrayList;") ∈ lw_all := lw_all_of (lw_in8 (List.mem_of_getElem? (i := 86) rfl)) rfl
theorem q1767 : (Jvm.Cond.lays "java/util/ArrayList$Itr" "java/util/ArrayList$Itr" "cursor" "I") ∈ lw_all := lw_all_of (lw_in8 (List.mem_of_getElem? (i := 87) rfl)) rfl
theorem q1769 : (Jvm.Cond.lays "java/util/ArrayList$Itr" "java/util/ArrayList$Itr" "lastRet" "I") ∈ lw_all := lw_all_of (lw_in8 (List.mem_of_getElem? (i := 89) rfl)) rfl
theorem q1771 : (Jvm.Cond.lays "java/util/ArrayList$Itr" "java/util/ArrayList$Itr" "expectedModCount" "I") ∈ lw_all := lw_all_of (lw_in8 (List.mem_of_getElem? (i := 91) rfl)) rfl
theorem q1773 : (Jvm.Cond.laysFinal "java/util/ArrayList$Itr" "java/util/ArrayList$Itr" "this$0" "Ljava/util/ArrayList;") ∈ lw_all := lw_all_of (lw_in8 (List.mem_of_getElem? (i := 93) rfl)) rfl
theorem q1775 : (Jvm.Cond.superclass "java/util/ArrayList$Itr" "java/lang/Object") ∈ lw_all := lw_all_of (lw_in8 (List.mem_of_getElem? (i := 95) rfl)) rfl
theorem q1777 : (Jvm.Cond.methodLink "PegshoreHouseModel" (263 : Nat) ({ cls := "java/util/Iterator", name := "hasNext", desc := "()Z" } : Jvm.MethodName)) ∈ lw_all := lw_all_of (lw_in8 (List.mem_of_getElem? (i := 97) rfl)) rfl
theorem q1781 : (Jvm.Cond.selects "java/util/ArrayList$Itr" ({ cls := "java/util/Iterator", name := "hasNext", desc := "()Z" } : Jvm.MethodName) ({ cls := "java/util/ArrayList$Itr", name := "hasNext", desc := "()Z" } : Jvm.MethodName)) ∈ lw_all := lw_all_of (lw_in8 (List.mem_of_getElem? (i := 101) rfl)) rfl
theorem q1783 : (Jvm.Cond.instanceMethod ({ cls := "java/util/ArrayList$Itr", name := "hasNext", desc := "()Z" } : Jvm.MethodName)) ∈ lw_all := lw_all_of (lw_in8 (List.mem_of_getElem? (i := 103) rfl)) rfl
theorem q1785 : (Jvm.Cond.code ({ cls := "java/util/ArrayList$Itr", name := "hasNext", desc := "()Z" } : Jvm.MethodName) prog_39_method_2_code (1 : Nat) (Option.some Jvm.ClassFile.FieldType.boolean)) ∈ lw_all := lw_all_of (lw_in8 (List.mem_of_getElem? (i := 105) rfl)) rfl
theorem q1787 : (Jvm.Cond.methodLink "PegshoreHouseModel" (268 : Nat) ({ cls := "java/util/Iterator", name := "next", desc := "()Ljava/lang/Object;" } : Jvm.MethodName)) ∈ lw_all := lw_all_of (lw_in8 (List.mem_of_getElem? (i := 107) rfl)) rfl
theorem q1790 : (Jvm.Cond.selects "java/util/ArrayList$Itr" ({ cls := "java/util/Iterator", name := "next", desc := "()Ljava/lang/Object;" } : Jvm.MethodName) ({ cls := "java/util/ArrayList$Itr", name := "next", desc := "()Ljava/lang/Object;" } : Jvm.MethodName)) ∈ lw_all := lw_all_of (lw_in8 (List.mem_of_getElem? (i := 110) rfl)) rfl
theorem q1792 : (Jvm.Cond.instanceMethod ({ cls := "java/util/ArrayList$Itr", name := "next", desc := "()Ljava/lang/Object;" } : Jvm.MethodName)) ∈ lw_all := lw_all_of (lw_in8 (List.mem_of_getElem? (i := 112) rfl)) rfl
theorem q1794 : (Jvm.Cond.code ({ cls := "java/util/ArrayList$Itr", name := "next", desc := "()Ljava/lang/Object;" } : Jvm.MethodName) prog_39_method_3_code (3 : Nat) (Option.some (Jvm.ClassFile.FieldType.object "java/lang/Object"))) ∈ lw_all := lw_all_of (lw_in8 (List.mem_of_getElem? (i := 114) rfl)) rfl
theorem q1795 : (Jvm.Cond.methodLink "java/util/ArrayList$Itr" (31 : Nat) ({ cls := "java/util/ArrayList$Itr", name := "checkForComodification", desc := "()V" } : Jvm.MethodName)) ∈ lw_all := lw_all_of (lw_in8 (List.mem_of_getElem? (i := 115) rfl)) rfl
theorem q1796 : (Jvm.Cond.instanceMethod ({ cls := "java/util/ArrayList$Itr", name := "checkForComodification", desc := "()V" } : Jvm.MethodName)) ∈ lw_all := lw_all_of (lw_in8 (List.mem_of_getElem? (i := 116) rfl)) rfl
theorem q1797 : (Jvm.Cond.selects "java/util/ArrayList$Itr" ({ cls := "java/util/ArrayList$Itr", name := "checkForComodification", desc := "()V" } : Jvm.MethodName) ({ cls := "java/util/ArrayList$Itr", name := "checkForComodification", desc := "()V" } : Jvm.MethodName)) ∈ lw_all := lw_all_of (lw_in8 (List.mem_of_getElem? (i := 117) rfl)) rfl
theorem q1798 : (Jvm.Cond.code ({ cls := "java/util/ArrayList$Itr", name := "checkForComodification", desc := "()V" } : Jvm.MethodName) prog_39_method_6_code (1 : Nat) (Option.none : Option Jvm.ClassFile.FieldType)) ∈ lw_all := lw_all_of (lw_in8 (List.mem_of_getElem? (i := 118) rfl)) rfl
theorem q1799 : (Jvm.Cond.classLink "java/util/ArrayList$Itr" (34 : Nat) "java/util/NoSuchElementException") ∈ lw_all := lw_all_of (lw_in8 (List.mem_of_getElem? (i := 119) rfl)) rfl
theorem q1800 : (Jvm.Cond.methodLink "java/util/ArrayList$Itr" (36 : Nat) ({ cls := "java/util/NoSuchElementException", name := "<init>", desc := "()V" } : Jvm.MethodName)) ∈ lw_all := lw_all_of (lw_in8 (List.mem_of_getElem? (i := 120) rfl)) rfl
theorem q1801 : (Jvm.Cond.instanceMethod ({ cls := "java/util/NoSuchElementException", name := "<init>", desc := "()V" } : Jvm.MethodName)) ∈ lw_all := lw_all_of (lw_in8 (List.mem_of_getElem? (i := 121) rfl)) rfl
theorem q1802 : (Jvm.Cond.code ({ cls := "java/util/NoSuchElementException", name := "<init>", desc := "()V" } : Jvm.MethodName) prog_44_method_1_code (1 : Nat) (Option.none : Option Jvm.ClassFile.FieldType)) ∈ lw_all := lw_all_of (lw_in8 (List.mem_of_getElem? (i := 122) rfl)) rfl
theorem q1803 : (Jvm.Cond.methodLink "java/util/NoSuchElementException" (1 : Nat) ({ cls := "java/lang/RuntimeException", name := "<init>", desc := "()V" } : Jvm.MethodName)) ∈ lw_all := lw_all_of (lw_in8 (List.mem_of_getElem? (i := 123) rfl)) rfl
theorem q1804 : (Jvm.Cond.instanceMethod ({ cls := "java/lang/RuntimeException", name := "<init>", desc := "()V" } : Jvm.MethodName)) ∈ lw_all := lw_all_of (lw_in8 (List.mem_of_getElem? (i := 124) rfl)) rfl
theorem q1805 : (Jvm.Cond.code ({ cls := "java/lang/RuntimeException", name := "<init>", desc := "()V" } : Jvm.MethodName) prog_26_method_1_code (1 : Nat) (Option.none : Option Jvm.ClassFile.FieldType)) ∈ lw_all := lw_all_of (lw_in8 (List.mem_of_getElem? (i := 125) rfl)) rfl
theorem q1806 : (Jvm.Cond.methodLink "java/lang/RuntimeException" (1 : Nat) ({ cls := "java/lang/Exception", name := "<init>", desc := "()V" } : Jvm.MethodName)) ∈ lw_all := lw_all_of (lw_in8 (List.mem_of_getElem? (i := 126) rfl)) rfl
theorem q1807 : (Jvm.Cond.instanceMethod ({ cls := "java/lang/Exception", name := "<init>", desc := "()V" } : Jvm.MethodName)) ∈ lw_all := lw_all_of (lw_in8 (List.mem_of_getElem? (i := 127) rfl)) rfl
theorem q1808 : (Jvm.Cond.code ({ cls := "java/lang/Exception", name := "<init>", desc := "()V" } : Jvm.MethodName) prog_16_method_1_code (1 : Nat) (Option.none : Option Jvm.ClassFile.FieldType)) ∈ lw_all := lw_all_of (lw_in8 (List.mem_of_getElem? (i := 128) rfl)) rfl
theorem q1809 : (Jvm.Cond.methodLink "java/lang/Exception" (1 : Nat) ({ cls := "java/lang/Throwable", name := "<init>", desc := "()V" } : Jvm.MethodName)) ∈ lw_all := lw_all_of (lw_in8 (List.mem_of_getElem? (i := 129) rfl)) rfl
theorem q1810 : (Jvm.Cond.methodLink "PegshoreHouseLaw" (251 : Nat) ({ cls := "PegshoreHouseModel", name := "faultAt", desc := "()I" } : Jvm.MethodName)) ∈ lw_all := lw_all_of (lw_in8 (List.mem_of_getElem? (i := 130) rfl)) rfl
theorem q1811 : (Jvm.Cond.instanceMethod ({ cls := "PegshoreHouseModel", name := "faultAt", desc := "()I" } : Jvm.MethodName)) ∈ lw_all := lw_all_of (lw_in8 (List.mem_of_getElem? (i := 131) rfl)) rfl
theorem q1812 : (Jvm.Cond.selects "PegshoreHouseModel" ({ cls := "PegshoreHouseModel", name := "faultAt", desc := "()I" } : Jvm.MethodName) ({ cls := "PegshoreHouseModel", name := "faultAt", desc := "()I" } : Jvm.MethodName)) ∈ lw_all := lw_all_of (lw_in8 (List.mem_of_getElem? (i := 132) rfl)) rfl
theorem q1813 : (Jvm.Cond.code ({ cls := "PegshoreHouseModel", name := "faultAt", desc := "()I" } : Jvm.MethodName) prog_6_method_76_code (2 : Nat) (Option.some Jvm.ClassFile.FieldType.int)) ∈ lw_all := lw_all_of (lw_in8 (List.mem_of_getElem? (i := 133) rfl)) rfl
theorem q1814 : (Jvm.Cond.methodLink "PegshoreHouseLaw" (255 : Nat) ({ cls := "PegshoreHouseModel", name := "clear", desc := "()I" } : Jvm.MethodName)) ∈ lw_all := lw_all_of (lw_in8 (List.mem_of_getElem? (i := 134) rfl)) rfl
theorem q1815 : (Jvm.Cond.instanceMethod ({ cls := "PegshoreHouseModel", name := "clear", desc := "()I" } : Jvm.MethodName)) ∈ lw_all := lw_all_of (lw_in8 (List.mem_of_getElem? (i := 135) rfl)) rfl
theorem q1816 : (Jvm.Cond.selects "PegshoreHouseModel" ({ cls := "PegshoreHouseModel", name := "clear", desc := "()I" } : Jvm.MethodName) ({ cls := "PegshoreHouseModel", name := "clear", desc := "()I" } : Jvm.MethodName)) ∈ lw_all := lw_all_of (lw_in8 (List.mem_of_getElem? (i := 136) rfl)) rfl
theorem q1817 : (Jvm.Cond.code ({ cls := "PegshoreHouseModel", name := "clear", desc := "()I" } : Jvm.MethodName) prog_6_method_77_code (2 : Nat) (Option.some Jvm.ClassFile.FieldType.int)) ∈ lw_all := lw_all_of (lw_in8 (List.mem_of_getElem? (i := 137) rfl)) rfl
theorem q1818 : (Jvm.Cond.methodLink "PegshoreHouseLaw" (259 : Nat) ({ cls := "PegshoreHouseModel", name := "checksum", desc := "()J" } : Jvm.MethodName)) ∈ lw_all := lw_all_of (lw_in8 (List.mem_of_getElem? (i := 138) rfl)) rfl
theorem q1819 : (Jvm.Cond.instanceMethod ({ cls := "PegshoreHouseModel", name := "checksum", desc := "()J" } : Jvm.MethodName)) ∈ lw_all := lw_all_of (lw_in8 (List.mem_of_getElem? (i := 139) rfl)) rfl
theorem q1820 : (Jvm.Cond.selects "PegshoreHouseModel" ({ cls := "PegshoreHouseModel", name := "checksum", desc := "()J" } : Jvm.MethodName) ({ cls := "PegshoreHouseModel", name := "checksum", desc := "()J" } : Jvm.MethodName)) ∈ lw_all := lw_all_of (lw_in8 (List.mem_of_getElem? (i := 140) rfl)) rfl
theorem q1821 : (Jvm.Cond.code ({ cls := "PegshoreHouseModel", name := "checksum", desc := "()J" } : Jvm.MethodName) prog_6_method_78_code (5 : Nat) (Option.some Jvm.ClassFile.FieldType.long)) ∈ lw_all := lw_all_of (lw_in8 (List.mem_of_getElem? (i := 141) rfl)) rfl
theorem q1822 : (Jvm.Cond.constantLong "PegshoreHouseModel" (272 : Nat) (7 : Int64)) ∈ lw_all := lw_all_of (lw_in8 (List.mem_of_getElem? (i := 142) rfl)) rfl
theorem q1823 : (Jvm.Cond.constantLong "PegshoreHouseModel" (274 : Nat) (31 : Int64)) ∈ lw_all := lw_all_of (lw_in8 (List.mem_of_getElem? (i := 143) rfl)) rfl
theorem q1824 : (Jvm.Cond.methodLink "PegshoreHouseLaw" (262 : Nat) ({ cls := "PegshoreHouseModel", name := "pegBits", desc := "()I" } : Jvm.MethodName)) ∈ lw_all := lw_all_of (lw_in8 (List.mem_of_getElem? (i := 144) rfl)) rfl
theorem q1825 : (Jvm.Cond.instanceMethod ({ cls := "PegshoreHouseModel", name := "pegBits", desc := "()I" } : Jvm.MethodName)) ∈ lw_all := lw_all_of (lw_in8 (List.mem_of_getElem? (i := 145) rfl)) rfl
theorem q1826 : (Jvm.Cond.selects "PegshoreHouseModel" ({ cls := "PegshoreHouseModel", name := "pegBits", desc := "()I" } : Jvm.MethodName) ({ cls := "PegshoreHouseModel", name := "pegBits", desc := "()I" } : Jvm.MethodName)) ∈ lw_all := lw_all_of (lw_in8 (List.mem_of_getElem? (i := 146) rfl)) rfl
theorem q1827 : (Jvm.Cond.code ({ cls := "PegshoreHouseModel", name := "pegBits", desc := "()I" } : Jvm.MethodName) prog_6_method_79_code (1 : Nat) (Option.some Jvm.ClassFile.FieldType.int)) ∈ lw_all := lw_all_of (lw_in8 (List.mem_of_getElem? (i := 147) rfl)) rfl
theorem q1828 : (Jvm.Cond.methodLink "PegshoreHouseModel" (276 : Nat) ({ cls := "java/lang/Float", name := "floatToIntBits", desc := "(F)I" } : Jvm.MethodName)) ∈ lw_all := lw_all_of (lw_in8 (List.mem_of_getElem? (i := 148) rfl)) rfl
theorem q1829 : (Jvm.Cond.static ({ cls := "java/lang/Float", name := "floatToIntBits", desc := "(F)I" } : Jvm.MethodName)) ∈ lw_all := lw_all_of (lw_in8 (List.mem_of_getElem? (i := 149) rfl)) rfl
theorem q1830 : (Jvm.Cond.code ({ cls := "java/lang/Float", name := "floatToIntBits", desc := "(F)I" } : Jvm.MethodName) prog_17_method_24_code (1 : Nat) (Option.some Jvm.ClassFile.FieldType.int)) ∈ lw_all := lw_all_of (lw_in8 (List.mem_of_getElem? (i := 150) rfl)) rfl
theorem q1831 : (Jvm.Cond.methodLink "java/lang/Float" (59 : Nat) ({ cls := "java/lang/Float", name := "isNaN", desc := "(F)Z" } : Jvm.MethodName)) ∈ lw_all := lw_all_of (lw_in8 (List.mem_of_getElem? (i := 151) rfl)) rfl
theorem q1832 : (Jvm.Cond.static ({ cls := "java/lang/Float", name := "isNaN", desc := "(F)Z" } : Jvm.MethodName)) ∈ lw_all := lw_all_of (lw_in8 (List.mem_of_getElem? (i := 152) rfl)) rfl
theorem q1833 : (Jvm.Cond.code ({ cls := "java/lang/Float", name := "isNaN", desc := "(F)Z" } : Jvm.MethodName) prog_17_method_6_code (1 : Nat) (Option.some Jvm.ClassFile.FieldType.boolean)) ∈ lw_all := lw_all_of (lw_in8 (List.mem_of_getElem? (i := 153) rfl)) rfl
theorem q1834 : (Jvm.Cond.methodLink "java/lang/Float" (74 : Nat) ({ cls := "java/lang/Float", name := "floatToRawIntBits", desc := "(F)I" } : Jvm.MethodName)) ∈ lw_all := lw_all_of (lw_in8 (List.mem_of_getElem? (i := 154) rfl)) rfl
theorem q1835 : (Jvm.Cond.static ({ cls := "java/lang/Float", name := "floatToRawIntBits", desc := "(F)I" } : Jvm.MethodName)) ∈ lw_all := lw_all_of (lw_in8 (List.mem_of_getElem? (i := 155) rfl)) rfl
theorem q1836 : (Jvm.Cond.native ({ cls := "java/lang/Float", name := "floatToRawIntBits", desc := "(F)I" } : Jvm.MethodName)) ∈ lw_all := lw_all_of (lw_in8 (List.mem_of_getElem? (i := 156) rfl)) rfl
theorem q1837 : (Jvm.Cond.constant "java/lang/Float" (77 : Nat) (2143289344 : Int32)) ∈ lw_all := lw_all_of (lw_in8 (List.mem_of_getElem? (i := 157) rfl)) rfl
theorem q1838 : (Jvm.Cond.methodLink "PegshoreHouseLaw" (267 : Nat) ({ cls := "PegshoreHouseModel", name := "meanJumps", desc := "()D" } : Jvm.MethodName)) ∈ lw_all := lw_all_of (lw_in8 (List.mem_of_getElem? (i := 158) rfl)) rfl
theorem q1839 : (Jvm.Cond.instanceMethod ({ cls := "PegshoreHouseModel", name := "meanJumps", desc := "()D" } : Jvm.MethodName)) ∈ lw_all := lw_all_of (lw_in8 (List.mem_of_getElem? (i := 159) rfl)) rfl
theorem q1840 : (Jvm.Cond.selects "PegshoreHouseModel" ({ cls := "PegshoreHouseModel", name := "meanJumps", desc := "()D" } : Jvm.MethodName) ({ cls := "PegshoreHouseModel", name := "meanJumps", desc := "()D" } : Jvm.MethodName)) ∈ lw_all := lw_all_of (lw_in8 (List.mem_of_getElem? (i := 160) rfl)) rfl
theorem q1841 : (Jvm.Cond.code ({ cls := "PegshoreHouseModel", name := "meanJumps", desc := "()D" } : Jvm.MethodName) prog_6_method_80_code (4 : Nat) (Option.some Jvm.ClassFile.FieldType.double)) ∈ lw_all := lw_all_of (lw_in8 (List.mem_of_getElem? (i := 161) rfl)) rfl
theorem q1842 : (Jvm.Cond.methodLink "PegshoreHouseLaw" (271 : Nat) ({ cls := "PegshoreHouseModel", name := "isSound", desc := "()Z" } : Jvm.MethodName)) ∈ lw_all := lw_all_of (lw_in8 (List.mem_of_getElem? (i := 162) rfl)) rfl
theorem q1843 : (Jvm.Cond.instanceMethod ({ cls := "PegshoreHouseModel", name := "isSound", desc := "()Z" } : Jvm.MethodName)) ∈ lw_all := lw_all_of (lw_in8 (List.mem_of_getElem? (i := 163) rfl)) rfl
theorem q1844 : (Jvm.Cond.selects "PegshoreHouseModel" ({ cls := "PegshoreHouseModel", name := "isSound", desc := "()Z" } : Jvm.MethodName) ({ cls := "PegshoreHouseModel", name := "isSound", desc := "()Z" } : Jvm.MethodName)) ∈ lw_all := lw_all_of (lw_in8 (List.mem_of_getElem? (i := 164) rfl)) rfl
theorem q1845 : (Jvm.Cond.code ({ cls := "PegshoreHouseModel", name := "isSound", desc := "()Z" } : Jvm.MethodName) prog_6_method_81_code (1 : Nat) (Option.some Jvm.ClassFile.FieldType.boolean)) ∈ lw_all := lw_all_of (lw_in8 (List.mem_of_getElem? (i := 165) rfl)) rfl
theorem q1846 : (Jvm.Cond.sameMethod "java/lang/Throwable" "java/lang/Throwable" "fillInStackTrace" "(I)Ljava/lang/Throwable;") ∈ lw_all := lw_all_of (lw_in8 (List.mem_of_getElem? (i := 166) rfl)) rfl
theorem q1847 : (Jvm.Cond.sameMethod "java/lang/AbstractStringBuilder" "java/lang/AbstractStringBuilder" "append" "(Ljava/lang/String;)Ljava/lang/AbstractStringBuilder;") ∈ lw_all := lw_all_of (lw_in8 (List.mem_of_getElem? (i := 167) rfl)) rfl
theorem q1848 : (Jvm.Cond.sameMethod "java/lang/AbstractStringBuilder" "java/lang/AbstractStringBuilder" "appendNull" "()Ljava/lang/AbstractStringBuilder;") ∈ lw_all := lw_all_of (lw_in8 (List.mem_of_getElem? (i := 168) rfl)) rfl
theorem q1849 : (Jvm.Cond.sameMethod "java/lang/AbstractStringBuilder" "java/lang/AbstractStringBuilder" "ensureCapacityInternal" "(I)V") ∈ lw_all := lw_all_of (lw_in8 (List.mem_of_getElem? (i := 169) rfl)) rfl
theorem q1850 : (Jvm.Cond.sameMethod "java/lang/AbstractStringBuilder" "java/lang/AbstractStringBuilder" "newCapacity" "(I)I") ∈ lw_all := lw_all_of (lw_in8 (List.mem_of_getElem? (i := 170) rfl)) rfl
theorem q1851 : (Jvm.Cond.sameMethod "java/lang/AbstractStringBuilder" "java/lang/AbstractStringBuilder" "putStringAt" "(ILjava/lang/String;)V") ∈ lw_all := lw_all_of (lw_in8 (List.mem_of_getElem? (i := 171) rfl)) rfl
theorem q1852 : (Jvm.Cond.sameMethod "java/lang/AbstractStringBuilder" "java/lang/AbstractStringBuilder" "inflateIfNeededFor" "(Ljava/lang/String;)V") ∈ lw_all := lw_all_of (lw_in8 (List.mem_of_getElem? (i := 172) rfl)) rfl
theorem q1853 : (Jvm.Cond.sameMethod "java/lang/AbstractStringBuilder" "java/lang/AbstractStringBuilder" "inflate" "()V") ∈ lw_all := lw_all_of (lw_in8 (List.mem_of_getElem? (i := 173) rfl)) rfl
theorem q1854 : (Jvm.Cond.sameMethod "java/lang/AbstractStringBuilder" "java/lang/AbstractStringBuilder" "append" "(I)Ljava/lang/AbstractStringBuilder;") ∈ lw_all := lw_all_of (lw_in8 (List.mem_of_getElem? (i := 174) rfl)) rfl
theorem q1874 : (Jvm.Cond.sameMethod "[Ljava/lang/Object;" "java/lang/Object" "getClass" "()Ljava/lang/Class;") ∈ lw_all := lw_all_of (lw_in8 (List.mem_of_getElem? (i := 194) rfl)) rfl
theorem q1875 : (Jvm.Cond.selects "[Ljava/lang/Object;" ({ cls := "java/lang/Object", name := "getClass", desc := "()Ljava/lang/Class;" } : Jvm.MethodName) ({ cls := "java/lang/Object", name := "getClass", desc := "()Ljava/lang/Class;" } : Jvm.MethodName)) ∈ lw_all := lw_all_of (lw_in8 (List.mem_of_getElem? (i := 195) rfl)) rfl
theorem qs0 : Cond.selects "PegshoreHouse$Board" ({ cls := "PegshoreHouse$Board", name := "isLine", desc := "(II)Z" } : Jvm.MethodName) ({ cls := "PegshoreHouse$Board", name := "isLine", desc := "(II)Z" } : Jvm.MethodName) ∈ lw_all := List.mem_filter.mpr ⟨List.mem_append_left _ (List.mem_of_getElem? (i := 0) rfl), rfl⟩
theorem qs1 : Cond.selects "PegshoreHouse$Board" ({ cls := "PegshoreHouse$Board", name := "isTwoSteps", desc := "(II)Z" } : Jvm.MethodName) ({ cls := "PegshoreHouse$Board", name := "isTwoSteps", desc := "(II)Z" } : Jvm.MethodName) ∈ lw_all := List.mem_filter.mpr ⟨List.mem_append_left _ (List.mem_of_getElem? (i := 1) rfl), rfl⟩
theorem qs2 : Cond.selects "PegshoreHouse$Walk" ({ cls := "PegshoreHouse$Walk", name := "wipe", desc := "()V" } : Jvm.MethodName) ({ cls := "PegshoreHouse$Walk", name := "wipe", desc := "()V" } : Jvm.MethodName) ∈ lw_all := List.mem_filter.mpr ⟨List.mem_append_left _ (List.mem_of_getElem? (i := 2) rfl), rfl⟩
theorem qs3 : Cond.selects "PegshoreHouse$Walk" ({ cls := "PegshoreHouse$Walk", name := "find", desc := "(IJ)V" } : Jvm.MethodName) ({ cls := "PegshoreHouse$Walk", name := "find", desc := "(IJ)V" } : Jvm.MethodName) ∈ lw_all := List.mem_filter.mpr ⟨List.mem_append_left _ (List.mem_of_getElem? (i := 3) rfl), rfl⟩
theorem qs4 : Cond.selects "PegshoreHouse$Walk" ({ cls := "PegshoreHouse$Walk", name := "visit", desc := "(I)V" } : Jvm.MethodName) ({ cls := "PegshoreHouse$Walk", name := "visit", desc := "(I)V" } : Jvm.MethodName) ∈ lw_all := List.mem_filter.mpr ⟨List.mem_append_left _ (List.mem_of_getElem? (i := 4) rfl), rfl⟩
theorem qs5 : Cond.selects "PegshoreHouse" ({ cls := "PegshoreHouse", name := "isOddApart", desc := "(I)Z" } : Jvm.MethodName) ({ cls := "PegshoreHouse", name := "isOddApart", desc := "(I)Z" } : Jvm.MethodName) ∈ lw_all := List.mem_filter.mpr ⟨List.mem_append_left _ (List.mem_of_getElem? (i := 5) rfl), rfl⟩
theorem qs6 : Cond.selects "PegshoreHouse$Walk" ({ cls := "PegshoreHouse$Walk", name := "leastOther", desc := "(I)I" } : Jvm.MethodName) ({ cls := "PegshoreHouse$Walk", name := "leastOther", desc := "(I)I" } : Jvm.MethodName) ∈ lw_all := List.mem_filter.mpr ⟨List.mem_append_left _ (List.mem_of_getElem? (i := 6) rfl), rfl⟩
theorem qs7 : Cond.selects "PegshoreHouse$Walk" ({ cls := "PegshoreHouse$Walk", name := "changeFigure", desc := "(II)V" } : Jvm.MethodName) ({ cls := "PegshoreHouse$Walk", name := "changeFigure", desc := "(II)V" } : Jvm.MethodName) ∈ lw_all := List.mem_filter.mpr ⟨List.mem_append_left _ (List.mem_of_getElem? (i := 7) rfl), rfl⟩
theorem qs8 : Cond.selects "PegshoreHouse" ({ cls := "PegshoreHouse", name := "isToldSound", desc := "()Z" } : Jvm.MethodName) ({ cls := "PegshoreHouse", name := "isToldSound", desc := "()Z" } : Jvm.MethodName) ∈ lw_all := List.mem_filter.mpr ⟨List.mem_append_left _ (List.mem_of_getElem? (i := 8) rfl), rfl⟩
theorem qs9 : Cond.selects "PegshoreHouse" ({ cls := "PegshoreHouse", name := "isMadeSound", desc := "()Z" } : Jvm.MethodName) ({ cls := "PegshoreHouse", name := "isMadeSound", desc := "()Z" } : Jvm.MethodName) ∈ lw_all := List.mem_filter.mpr ⟨List.mem_append_left _ (List.mem_of_getElem? (i := 9) rfl), rfl⟩
theorem qs10 : Cond.selects "java/lang/Throwable" ({ cls := "java/lang/Throwable", name := "fillInStackTrace", desc := "(I)Ljava/lang/Throwable;" } : Jvm.MethodName) ({ cls := "java/lang/Throwable", name := "fillInStackTrace", desc := "(I)Ljava/lang/Throwable;" } : Jvm.MethodName) ∈ lw_all := List.mem_filter.mpr ⟨List.mem_append_left _ (List.mem_of_getElem? (i := 10) rfl), rfl⟩
theorem qs11 : Cond.selects "PegshoreHouse$Board" ({ cls := "PegshoreHouse$Board", name := "layLines", desc := "()V" } : Jvm.MethodName) ({ cls := "PegshoreHouse$Board", name := "layLines", desc := "()V" } : Jvm.MethodName) ∈ lw_all := List.mem_filter.mpr ⟨List.mem_append_left _ (List.mem_of_getElem? (i := 11) rfl), rfl⟩
theorem qs12 : Cond.selects "PegshoreHouse$Board" ({ cls := "PegshoreHouse$Board", name := "addLine", desc := "(II)V" } : Jvm.MethodName) ({ cls := "PegshoreHouse$Board", name := "addLine", desc := "(II)V" } : Jvm.MethodName) ∈ lw_all := List.mem_filter.mpr ⟨List.mem_append_left _ (List.mem_of_getElem? (i := 12) rfl), rfl⟩
theorem qs13 : Cond.selects "PegshoreHouse" ({ cls := "PegshoreHouse", name := "forgetAll", desc := "()V" } : Jvm.MethodName) ({ cls := "PegshoreHouse", name := "forgetAll", desc := "()V" } : Jvm.MethodName) ∈ lw_all := List.mem_filter.mpr ⟨List.mem_append_left _ (List.mem_of_getElem? (i := 13) rfl), rfl⟩
theorem qs14 : Cond.selects "PegshoreHouse$Board" ({ cls := "PegshoreHouse$Board", name := "layHoles", desc := "()V" } : Jvm.MethodName) ({ cls := "PegshoreHouse$Board", name := "layHoles", desc := "()V" } : Jvm.MethodName) ∈ lw_all := List.mem_filter.mpr ⟨List.mem_append_left _ (List.mem_of_getElem? (i := 14) rfl), rfl⟩
theorem qs15 : Cond.selects "PegshoreHouse" ({ cls := "PegshoreHouse", name := "requireHole", desc := "(I)V" } : Jvm.MethodName) ({ cls := "PegshoreHouse", name := "requireHole", desc := "(I)V" } : Jvm.MethodName) ∈ lw_all := List.mem_filter.mpr ⟨List.mem_append_left _ (List.mem_of_getElem? (i := 15) rfl), rfl⟩
theorem qs16 : Cond.selects "PegshoreHouse" ({ cls := "PegshoreHouse", name := "requirePegs", desc := "(I)V" } : Jvm.MethodName) ({ cls := "PegshoreHouse", name := "requirePegs", desc := "(I)V" } : Jvm.MethodName) ∈ lw_all := List.mem_filter.mpr ⟨List.mem_append_left _ (List.mem_of_getElem? (i := 16) rfl), rfl⟩
theorem qs17 : Cond.selects "PegshoreHouse" ({ cls := "PegshoreHouse", name := "behindJump", desc := "(III)I" } : Jvm.MethodName) ({ cls := "PegshoreHouse", name := "behindJump", desc := "(III)I" } : Jvm.MethodName) ∈ lw_all := List.mem_filter.mpr ⟨List.mem_append_left _ (List.mem_of_getElem? (i := 17) rfl), rfl⟩
theorem qs18 : Cond.selects "PegshoreHouse" ({ cls := "PegshoreHouse", name := "requireJump", desc := "(II)I" } : Jvm.MethodName) ({ cls := "PegshoreHouse", name := "requireJump", desc := "(II)I" } : Jvm.MethodName) ∈ lw_all := List.mem_filter.mpr ⟨List.mem_append_left _ (List.mem_of_getElem? (i := 18) rfl), rfl⟩
theorem qs19 : Cond.selects "PegshoreHouse" ({ cls := "PegshoreHouse", name := "makeJump", desc := "(III)V" } : Jvm.MethodName) ({ cls := "PegshoreHouse", name := "makeJump", desc := "(III)V" } : Jvm.MethodName) ∈ lw_all := List.mem_filter.mpr ⟨List.mem_append_left _ (List.mem_of_getElem? (i := 19) rfl), rfl⟩
theorem qs20 : Cond.selects "PegshoreHouse$Walk" ({ cls := "PegshoreHouse$Walk", name := "leads", desc := "(II)Z" } : Jvm.MethodName) ({ cls := "PegshoreHouse$Walk", name := "leads", desc := "(II)Z" } : Jvm.MethodName) ∈ lw_all := List.mem_filter.mpr ⟨List.mem_append_left _ (List.mem_of_getElem? (i := 20) rfl), rfl⟩
theorem qs21 : Cond.selects "PegshoreHouse" ({ cls := "PegshoreHouse", name := "lineTo", desc := "(I)I" } : Jvm.MethodName) ({ cls := "PegshoreHouse", name := "lineTo", desc := "(I)I" } : Jvm.MethodName) ∈ lw_all := List.mem_filter.mpr ⟨List.mem_append_left _ (List.mem_of_getElem? (i := 21) rfl), rfl⟩
theorem qs22 : Cond.selects "PegshoreHouse$Walk" ({ cls := "PegshoreHouse$Walk", name := "leastSweepsAt", desc := "(I)I" } : Jvm.MethodName) ({ cls := "PegshoreHouse$Walk", name := "leastSweepsAt", desc := "(I)I" } : Jvm.MethodName) ∈ lw_all := List.mem_filter.mpr ⟨List.mem_append_left _ (List.mem_of_getElem? (i := 22) rfl), rfl⟩
theorem qs23 : Cond.selects "PegshoreHouse$Walk" ({ cls := "PegshoreHouse$Walk", name := "sweepOn", desc := "(II)V" } : Jvm.MethodName) ({ cls := "PegshoreHouse$Walk", name := "sweepOn", desc := "(II)V" } : Jvm.MethodName) ∈ lw_all := List.mem_filter.mpr ⟨List.mem_append_left _ (List.mem_of_getElem? (i := 23) rfl), rfl⟩
theorem qs24 : Cond.selects "PegshoreHouse" ({ cls := "PegshoreHouse", name := "rowFault", desc := "()I" } : Jvm.MethodName) ({ cls := "PegshoreHouse", name := "rowFault", desc := "()I" } : Jvm.MethodName) ∈ lw_all := List.mem_filter.mpr ⟨List.mem_append_left _ (List.mem_of_getElem? (i := 24) rfl), rfl⟩
theorem qs25 : Cond.selects "PegshoreHouseModel" ({ cls := "PegshoreHouseModel", name := "lists", desc := "()V" } : Jvm.MethodName) ({ cls := "PegshoreHouseModel", name := "lists", desc := "()V" } : Jvm.MethodName) ∈ lw_all := List.mem_filter.mpr ⟨List.mem_append_left _ (List.mem_of_getElem? (i := 25) rfl), rfl⟩
theorem qs26 : Cond.selects "PegshoreHouseModel" ({ cls := "PegshoreHouseModel", name := "fails", desc := "(I)Z" } : Jvm.MethodName) ({ cls := "PegshoreHouseModel", name := "fails", desc := "(I)Z" } : Jvm.MethodName) ∈ lw_all := List.mem_filter.mpr ⟨List.mem_append_left _ (List.mem_of_getElem? (i := 26) rfl), rfl⟩
theorem qs27 : Cond.selects "PegshoreHouseModel" ({ cls := "PegshoreHouseModel", name := "isDrilled", desc := "(I)Z" } : Jvm.MethodName) ({ cls := "PegshoreHouseModel", name := "isDrilled", desc := "(I)Z" } : Jvm.MethodName) ∈ lw_all := List.mem_filter.mpr ⟨List.mem_append_left _ (List.mem_of_getElem? (i := 27) rfl), rfl⟩
theorem qs28 : Cond.selects "PegshoreHouseModel" ({ cls := "PegshoreHouseModel", name := "numbers", desc := "()V" } : Jvm.MethodName) ({ cls := "PegshoreHouseModel", name := "numbers", desc := "()V" } : Jvm.MethodName) ∈ lw_all := List.mem_filter.mpr ⟨List.mem_append_left _ (List.mem_of_getElem? (i := 28) rfl), rfl⟩
theorem qs29 : Cond.selects "PegshoreHouseModel" ({ cls := "PegshoreHouseModel", name := "isHole", desc := "(I)Z" } : Jvm.MethodName) ({ cls := "PegshoreHouseModel", name := "isHole", desc := "(I)Z" } : Jvm.MethodName) ∈ lw_all := List.mem_filter.mpr ⟨List.mem_append_left _ (List.mem_of_getElem? (i := 29) rfl), rfl⟩
theorem qs30 : Cond.selects "PegshoreHouseModel" ({ cls := "PegshoreHouseModel", name := "isSymmetry", desc := "(I)Z" } : Jvm.MethodName) ({ cls := "PegshoreHouseModel", name := "isSymmetry", desc := "(I)Z" } : Jvm.MethodName) ∈ lw_all := List.mem_filter.mpr ⟨List.mem_append_left _ (List.mem_of_getElem? (i := 30) rfl), rfl⟩
theorem qs31 : Cond.selects "PegshoreHouseModel" ({ cls := "PegshoreHouseModel", name := "holeAt", desc := "(I)I" } : Jvm.MethodName) ({ cls := "PegshoreHouseModel", name := "holeAt", desc := "(I)I" } : Jvm.MethodName) ∈ lw_all := List.mem_filter.mpr ⟨List.mem_append_left _ (List.mem_of_getElem? (i := 31) rfl), rfl⟩
theorem qs32 : Cond.selects "PegshoreHouseModel" ({ cls := "PegshoreHouseModel", name := "isJump", desc := "(III)Z" } : Jvm.MethodName) ({ cls := "PegshoreHouseModel", name := "isJump", desc := "(III)Z" } : Jvm.MethodName) ∈ lw_all := List.mem_filter.mpr ⟨List.mem_append_left _ (List.mem_of_getElem? (i := 32) rfl), rfl⟩
theorem qs33 : Cond.selects "PegshoreHouseModel" ({ cls := "PegshoreHouseModel", name := "isPosition", desc := "(I)Z" } : Jvm.MethodName) ({ cls := "PegshoreHouseModel", name := "isPosition", desc := "(I)Z" } : Jvm.MethodName) ∈ lw_all := List.mem_filter.mpr ⟨List.mem_append_left _ (List.mem_of_getElem? (i := 33) rfl), rfl⟩
theorem qs34 : Cond.selects "PegshoreHouseModel" ({ cls := "PegshoreHouseModel", name := "jumpOf", desc := "(III)I" } : Jvm.MethodName) ({ cls := "PegshoreHouseModel", name := "jumpOf", desc := "(III)I" } : Jvm.MethodName) ∈ lw_all := List.mem_filter.mpr ⟨List.mem_append_left _ (List.mem_of_getElem? (i := 34) rfl), rfl⟩
theorem qs35 : Cond.selects "PegshoreHouseModel" ({ cls := "PegshoreHouseModel", name := "can", desc := "(II)Z" } : Jvm.MethodName) ({ cls := "PegshoreHouseModel", name := "can", desc := "(II)Z" } : Jvm.MethodName) ∈ lw_all := List.mem_filter.mpr ⟨List.mem_append_left _ (List.mem_of_getElem? (i := 35) rfl), rfl⟩
theorem qs36 : Cond.selects "PegshoreHouseModel" ({ cls := "PegshoreHouseModel", name := "whyNoJump", desc := "(II)I" } : Jvm.MethodName) ({ cls := "PegshoreHouseModel", name := "whyNoJump", desc := "(II)I" } : Jvm.MethodName) ∈ lw_all := List.mem_filter.mpr ⟨List.mem_append_left _ (List.mem_of_getElem? (i := 36) rfl), rfl⟩
theorem qs37 : Cond.selects "PegshoreHouseModel" ({ cls := "PegshoreHouseModel", name := "makes", desc := "(I)I" } : Jvm.MethodName) ({ cls := "PegshoreHouseModel", name := "makes", desc := "(I)I" } : Jvm.MethodName) ∈ lw_all := List.mem_filter.mpr ⟨List.mem_append_left _ (List.mem_of_getElem? (i := 37) rfl), rfl⟩
theorem qs38 : Cond.selects "PegshoreHouseModel" ({ cls := "PegshoreHouseModel", name := "behind", desc := "(II)I" } : Jvm.MethodName) ({ cls := "PegshoreHouseModel", name := "behind", desc := "(II)I" } : Jvm.MethodName) ∈ lw_all := List.mem_filter.mpr ⟨List.mem_append_left _ (List.mem_of_getElem? (i := 38) rfl), rfl⟩
theorem qs39 : Cond.selects "java/util/ArrayList" ({ cls := "java/util/ArrayList", name := "add", desc := "(Ljava/lang/Object;[Ljava/lang/Object;I)V" } : Jvm.MethodName) ({ cls := "java/util/ArrayList", name := "add", desc := "(Ljava/lang/Object;[Ljava/lang/Object;I)V" } : Jvm.MethodName) ∈ lw_all := List.mem_filter.mpr ⟨List.mem_append_left _ (List.mem_of_getElem? (i := 39) rfl), rfl⟩
theorem qs40 : Cond.selects "java/util/ArrayList" ({ cls := "java/util/ArrayList", name := "grow", desc := "()[Ljava/lang/Object;" } : Jvm.MethodName) ({ cls := "java/util/ArrayList", name := "grow", desc := "()[Ljava/lang/Object;" } : Jvm.MethodName) ∈ lw_all := List.mem_filter.mpr ⟨List.mem_append_left _ (List.mem_of_getElem? (i := 40) rfl), rfl⟩
theorem qs41 : Cond.selects "java/util/ArrayList" ({ cls := "java/util/ArrayList", name := "grow", desc := "(I)[Ljava/lang/Object;" } : Jvm.MethodName) ({ cls := "java/util/ArrayList", name := "grow", desc := "(I)[Ljava/lang/Object;" } : Jvm.MethodName) ∈ lw_all := List.mem_filter.mpr ⟨List.mem_append_left _ (List.mem_of_getElem? (i := 41) rfl), rfl⟩
theorem qs42 : Cond.selects "PegshoreHouseModel" ({ cls := "PegshoreHouseModel", name := "jumpsOf", desc := "(I)I" } : Jvm.MethodName) ({ cls := "PegshoreHouseModel", name := "jumpsOf", desc := "(I)I" } : Jvm.MethodName) ∈ lw_all := List.mem_filter.mpr ⟨List.mem_append_left _ (List.mem_of_getElem? (i := 42) rfl), rfl⟩
theorem qs43 : Cond.selects "PegshoreHouseModel" ({ cls := "PegshoreHouseModel", name := "codeOf", desc := "(I)I" } : Jvm.MethodName) ({ cls := "PegshoreHouseModel", name := "codeOf", desc := "(I)I" } : Jvm.MethodName) ∈ lw_all := List.mem_filter.mpr ⟨List.mem_append_left _ (List.mem_of_getElem? (i := 43) rfl), rfl⟩
theorem qs44 : Cond.selects "java/util/ArrayList" ({ cls := "java/util/ArrayList", name := "fastRemove", desc := "([Ljava/lang/Object;I)V" } : Jvm.MethodName) ({ cls := "java/util/ArrayList", name := "fastRemove", desc := "([Ljava/lang/Object;I)V" } : Jvm.MethodName) ∈ lw_all := List.mem_filter.mpr ⟨List.mem_append_left _ (List.mem_of_getElem? (i := 44) rfl), rfl⟩
theorem qs45 : Cond.selects "PegshoreHouseModel" ({ cls := "PegshoreHouseModel", name := "waysNow", desc := "()J" } : Jvm.MethodName) ({ cls := "PegshoreHouseModel", name := "waysNow", desc := "()J" } : Jvm.MethodName) ∈ lw_all := List.mem_filter.mpr ⟨List.mem_append_left _ (List.mem_of_getElem? (i := 45) rfl), rfl⟩
theorem qs46 : Cond.selects "PegshoreHouseModel" ({ cls := "PegshoreHouseModel", name := "counts", desc := "()V" } : Jvm.MethodName) ({ cls := "PegshoreHouseModel", name := "counts", desc := "()V" } : Jvm.MethodName) ∈ lw_all := List.mem_filter.mpr ⟨List.mem_append_left _ (List.mem_of_getElem? (i := 46) rfl), rfl⟩
theorem qs47 : Cond.selects "PegshoreHouseModel" ({ cls := "PegshoreHouseModel", name := "reaches", desc := "()I" } : Jvm.MethodName) ({ cls := "PegshoreHouseModel", name := "reaches", desc := "()I" } : Jvm.MethodName) ∈ lw_all := List.mem_filter.mpr ⟨List.mem_append_left _ (List.mem_of_getElem? (i := 47) rfl), rfl⟩
theorem qs48 : Cond.selects "PegshoreHouseModel" ({ cls := "PegshoreHouseModel", name := "sweep", desc := "()V" } : Jvm.MethodName) ({ cls := "PegshoreHouseModel", name := "sweep", desc := "()V" } : Jvm.MethodName) ∈ lw_all := List.mem_filter.mpr ⟨List.mem_append_left _ (List.mem_of_getElem? (i := 48) rfl), rfl⟩
theorem qs49 : Cond.selects "PegshoreHouseModel" ({ cls := "PegshoreHouseModel", name := "weightOf", desc := "(I)I" } : Jvm.MethodName) ({ cls := "PegshoreHouseModel", name := "weightOf", desc := "(I)I" } : Jvm.MethodName) ∈ lw_all := List.mem_filter.mpr ⟨List.mem_append_left _ (List.mem_of_getElem? (i := 49) rfl), rfl⟩
theorem qs50 : Cond.selects "PegshoreHouseModel" ({ cls := "PegshoreHouseModel", name := "worst", desc := "()I" } : Jvm.MethodName) ({ cls := "PegshoreHouseModel", name := "worst", desc := "()I" } : Jvm.MethodName) ∈ lw_all := List.mem_filter.mpr ⟨List.mem_append_left _ (List.mem_of_getElem? (i := 50) rfl), rfl⟩
theorem qs51 : Cond.selects "PegshoreHouseModel" ({ cls := "PegshoreHouseModel", name := "gains", desc := "(I)I" } : Jvm.MethodName) ({ cls := "PegshoreHouseModel", name := "gains", desc := "(I)I" } : Jvm.MethodName) ∈ lw_all := List.mem_filter.mpr ⟨List.mem_append_left _ (List.mem_of_getElem? (i := 51) rfl), rfl⟩
theorem qs52 : Cond.selects "PegshoreHouseModel" ({ cls := "PegshoreHouseModel", name := "colourOf", desc := "(II)I" } : Jvm.MethodName) ({ cls := "PegshoreHouseModel", name := "colourOf", desc := "(II)I" } : Jvm.MethodName) ∈ lw_all := List.mem_filter.mpr ⟨List.mem_append_left _ (List.mem_of_getElem? (i := 52) rfl), rfl⟩
theorem qs53 : Cond.selects "PegshoreHouseModel" ({ cls := "PegshoreHouseModel", name := "fits", desc := "(I)Z" } : Jvm.MethodName) ({ cls := "PegshoreHouseModel", name := "fits", desc := "(I)Z" } : Jvm.MethodName) ∈ lw_all := List.mem_filter.mpr ⟨List.mem_append_left _ (List.mem_of_getElem? (i := 53) rfl), rfl⟩
theorem qs54 : Cond.selects "PegshoreHouseModel" ({ cls := "PegshoreHouseModel", name := "others", desc := "(III)I" } : Jvm.MethodName) ({ cls := "PegshoreHouseModel", name := "others", desc := "(III)I" } : Jvm.MethodName) ∈ lw_all := List.mem_filter.mpr ⟨List.mem_append_left _ (List.mem_of_getElem? (i := 54) rfl), rfl⟩
theorem qs55 : Cond.selects "PegshoreHouseModel" ({ cls := "PegshoreHouseModel", name := "valueAll", desc := "()V" } : Jvm.MethodName) ({ cls := "PegshoreHouseModel", name := "valueAll", desc := "()V" } : Jvm.MethodName) ∈ lw_all := List.mem_filter.mpr ⟨List.mem_append_left _ (List.mem_of_getElem? (i := 55) rfl), rfl⟩
theorem qs56 : Cond.selects "PegshoreHouseModel" ({ cls := "PegshoreHouseModel", name := "value", desc := "(I)V" } : Jvm.MethodName) ({ cls := "PegshoreHouseModel", name := "value", desc := "(I)V" } : Jvm.MethodName) ∈ lw_all := List.mem_filter.mpr ⟨List.mem_append_left _ (List.mem_of_getElem? (i := 56) rfl), rfl⟩
theorem qs57 : Cond.selects "PegshoreHouseModel" ({ cls := "PegshoreHouseModel", name := "faultIn", desc := "()I" } : Jvm.MethodName) ({ cls := "PegshoreHouseModel", name := "faultIn", desc := "()I" } : Jvm.MethodName) ∈ lw_all := List.mem_filter.mpr ⟨List.mem_append_left _ (List.mem_of_getElem? (i := 57) rfl), rfl⟩
