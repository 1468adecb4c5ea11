-- ===== PART A: goes FIRST, ahead of the names: the tables' words, and 'selects' of the private methods out of them =====
/-- a private method of a class that the tables say can be made, by its rows of tables_1 -/
def lw_okq (q : MethodName × Nat) : Prop := (q.1.cls ≠ "java/lang/invoke/MethodHandle" ∧ q.1.cls ≠ "java/lang/invoke/VarHandle") ∧ Cond.instantiable q.1.cls q.2 ∈ tables_1 ∧ Cond.privateMethod q.1 ∈ tables_1 ∧ Cond.instanceMethod q.1 ∈ tables_1
theorem lw_p0 : lw_okq (⟨"java/lang/Throwable", "fillInStackTrace", "(I)Ljava/lang/Throwable;"⟩, 6) := ⟨⟨by decide +kernel, by decide +kernel⟩, List.mem_of_getElem? (i := 537) (by decide +kernel), List.mem_of_getElem? (i := 535) (by decide +kernel), List.mem_of_getElem? (i := 536) (by decide +kernel)⟩
theorem lw_p1 : lw_okq (⟨"Latticefit$Cuts", "offerAll", "(I)V"⟩, 5) := ⟨⟨by decide +kernel, by decide +kernel⟩, List.mem_of_getElem? (i := 139) (by decide +kernel), List.mem_of_getElem? (i := 692) (by decide +kernel), List.mem_of_getElem? (i := 693) (by decide +kernel)⟩
theorem lw_p2 : lw_okq (⟨"Latticefit$Cuts", "offer", "(IJI)V"⟩, 5) := ⟨⟨by decide +kernel, by decide +kernel⟩, List.mem_of_getElem? (i := 139) (by decide +kernel), List.mem_of_getElem? (i := 696) (by decide +kernel), List.mem_of_getElem? (i := 697) (by decide +kernel)⟩
theorem lw_p3 : lw_okq (⟨"Latticefit$Cuts", "isBehind", "(IIJI)Z"⟩, 5) := ⟨⟨by decide +kernel, by decide +kernel⟩, List.mem_of_getElem? (i := 139) (by decide +kernel), List.mem_of_getElem? (i := 706) (by decide +kernel), List.mem_of_getElem? (i := 707) (by decide +kernel)⟩
theorem lw_p4 : lw_okq (⟨"Latticefit$Blocks", "markNeeded", "(LLatticefit$Cuts;)V"⟩, 10) := ⟨⟨by decide +kernel, by decide +kernel⟩, List.mem_of_getElem? (i := 167) (by decide +kernel), List.mem_of_getElem? (i := 717) (by decide +kernel), List.mem_of_getElem? (i := 718) (by decide +kernel)⟩
theorem lw_p5 : lw_okq (⟨"Latticefit$Blocks", "markCut", "(JI)V"⟩, 10) := ⟨⟨by decide +kernel, by decide +kernel⟩, List.mem_of_getElem? (i := 167) (by decide +kernel), List.mem_of_getElem? (i := 726) (by decide +kernel), List.mem_of_getElem? (i := 727) (by decide +kernel)⟩
theorem lw_p6 : lw_okq (⟨"Latticefit$Blocks", "putRegister", "(ILLatticefit$Cuts;)V"⟩, 10) := ⟨⟨by decide +kernel, by decide +kernel⟩, List.mem_of_getElem? (i := 167) (by decide +kernel), List.mem_of_getElem? (i := 736) (by decide +kernel), List.mem_of_getElem? (i := 737) (by decide +kernel)⟩
theorem lw_p7 : lw_okq (⟨"Latticefit$Blocks", "putGate", "(IJ)V"⟩, 10) := ⟨⟨by decide +kernel, by decide +kernel⟩, List.mem_of_getElem? (i := 167) (by decide +kernel), List.mem_of_getElem? (i := 740) (by decide +kernel), List.mem_of_getElem? (i := 741) (by decide +kernel)⟩
theorem lw_p8 : lw_okq (⟨"Latticefit", "needBlock", "(I)V"⟩, 11) := ⟨⟨by decide +kernel, by decide +kernel⟩, List.mem_of_getElem? (i := 32) (by decide +kernel), List.mem_of_getElem? (i := 800) (by decide +kernel), List.mem_of_getElem? (i := 801) (by decide +kernel)⟩
theorem lw_p9 : lw_okq (⟨"Latticefit$Places", "stretchTo", "(II)V"⟩, 10) := ⟨⟨by decide +kernel, by decide +kernel⟩, List.mem_of_getElem? (i := 227) (by decide +kernel), List.mem_of_getElem? (i := 874) (by decide +kernel), List.mem_of_getElem? (i := 875) (by decide +kernel)⟩
theorem lw_p10 : lw_okq (⟨"Latticefit", "needStage", "(I)V"⟩, 11) := ⟨⟨by decide +kernel, by decide +kernel⟩, List.mem_of_getElem? (i := 32) (by decide +kernel), List.mem_of_getElem? (i := 896) (by decide +kernel), List.mem_of_getElem? (i := 897) (by decide +kernel)⟩
theorem lw_p11 : lw_okq (⟨"Latticefit$Places", "maySwap", "(II)Z"⟩, 10) := ⟨⟨by decide +kernel, by decide +kernel⟩, List.mem_of_getElem? (i := 227) (by decide +kernel), List.mem_of_getElem? (i := 915) (by decide +kernel), List.mem_of_getElem? (i := 916) (by decide +kernel)⟩
theorem lw_p12 : lw_okq (⟨"Latticefit$Places", "swapIfGood", "(III)Z"⟩, 10) := ⟨⟨by decide +kernel, by decide +kernel⟩, List.mem_of_getElem? (i := 227) (by decide +kernel), List.mem_of_getElem? (i := 920) (by decide +kernel), List.mem_of_getElem? (i := 921) (by decide +kernel)⟩
theorem lw_p13 : lw_okq (⟨"Latticefit$Routes", "giveUp", "(I)V"⟩, 12) := ⟨⟨by decide +kernel, by decide +kernel⟩, List.mem_of_getElem? (i := 268) (by decide +kernel), List.mem_of_getElem? (i := 977) (by decide +kernel), List.mem_of_getElem? (i := 978) (by decide +kernel)⟩
theorem lw_p14 : lw_okq (⟨"Latticefit$Routes", "layTree", "(I)V"⟩, 12) := ⟨⟨by decide +kernel, by decide +kernel⟩, List.mem_of_getElem? (i := 268) (by decide +kernel), List.mem_of_getElem? (i := 984) (by decide +kernel), List.mem_of_getElem? (i := 985) (by decide +kernel)⟩
theorem lw_p15 : lw_okq (⟨"Latticefit$Routes", "isInTree", "(II)Z"⟩, 12) := ⟨⟨by decide +kernel, by decide +kernel⟩, List.mem_of_getElem? (i := 268) (by decide +kernel), List.mem_of_getElem? (i := 988) (by decide +kernel), List.mem_of_getElem? (i := 989) (by decide +kernel)⟩
def lw_privs_1 : List (MethodName × Nat) := [(⟨"java/lang/Throwable", "fillInStackTrace", "(I)Ljava/lang/Throwable;"⟩, 6), (⟨"Latticefit$Cuts", "offerAll", "(I)V"⟩, 5), (⟨"Latticefit$Cuts", "offer", "(IJI)V"⟩, 5), (⟨"Latticefit$Cuts", "isBehind", "(IIJI)Z"⟩, 5), (⟨"Latticefit$Blocks", "markNeeded", "(LLatticefit$Cuts;)V"⟩, 10), (⟨"Latticefit$Blocks", "markCut", "(JI)V"⟩, 10), (⟨"Latticefit$Blocks", "putRegister", "(ILLatticefit$Cuts;)V"⟩, 10), (⟨"Latticefit$Blocks", "putGate", "(IJ)V"⟩, 10), (⟨"Latticefit", "needBlock", "(I)V"⟩, 11), (⟨"Latticefit$Places", "stretchTo", "(II)V"⟩, 10), (⟨"Latticefit", "needStage", "(I)V"⟩, 11), (⟨"Latticefit$Places", "maySwap", "(II)Z"⟩, 10), (⟨"Latticefit$Places", "swapIfGood", "(III)Z"⟩, 10), (⟨"Latticefit$Routes", "giveUp", "(I)V"⟩, 12), (⟨"Latticefit$Routes", "layTree", "(I)V"⟩, 12), (⟨"Latticefit$Routes", "isInTree", "(II)Z"⟩, 12)]
theorem lw_r1 : ∀ q ∈ lw_privs_1, lw_okq q := List.forall_mem_cons.mpr ⟨lw_p0, List.forall_mem_cons.mpr ⟨lw_p1, List.forall_mem_cons.mpr ⟨lw_p2, List.forall_mem_cons.mpr ⟨lw_p3, List.forall_mem_cons.mpr ⟨lw_p4, List.forall_mem_cons.mpr ⟨lw_p5, List.forall_mem_cons.mpr ⟨lw_p6, List.forall_mem_cons.mpr ⟨lw_p7, List.forall_mem_cons.mpr ⟨lw_p8, List.forall_mem_cons.mpr ⟨lw_p9, List.forall_mem_cons.mpr ⟨lw_p10, List.forall_mem_cons.mpr ⟨lw_p11, List.forall_mem_cons.mpr ⟨lw_p12, List.forall_mem_cons.mpr ⟨lw_p13, List.forall_mem_cons.mpr ⟨lw_p14, List.forall_mem_cons.mpr ⟨lw_p15, fun _ h => absurd h List.not_mem_nil⟩⟩⟩⟩⟩⟩⟩⟩⟩⟩⟩⟩⟩⟩⟩⟩
theorem lw_p16 : lw_okq (⟨"Latticefit$Routes", "addWay", "(II)V"⟩, 12) := ⟨⟨by decide +kernel, by decide +kernel⟩, List.mem_of_getElem? (i := 268) (by decide +kernel), List.mem_of_getElem? (i := 992) (by decide +kernel), List.mem_of_getElem? (i := 993) (by decide +kernel)⟩
theorem lw_p17 : lw_okq (⟨"Latticefit$Routes", "openTree", "(I)V"⟩, 12) := ⟨⟨by decide +kernel, by decide +kernel⟩, List.mem_of_getElem? (i := 268) (by decide +kernel), List.mem_of_getElem? (i := 996) (by decide +kernel), List.mem_of_getElem? (i := 997) (by decide +kernel)⟩
theorem lw_p18 : lw_okq (⟨"Latticefit$Routes", "takeCheapest", "()I"⟩, 12) := ⟨⟨by decide +kernel, by decide +kernel⟩, List.mem_of_getElem? (i := 268) (by decide +kernel), List.mem_of_getElem? (i := 1000) (by decide +kernel), List.mem_of_getElem? (i := 1001) (by decide +kernel)⟩
theorem lw_p19 : lw_okq (⟨"Latticefit$Routes", "openNeighbours", "(I)V"⟩, 12) := ⟨⟨by decide +kernel, by decide +kernel⟩, List.mem_of_getElem? (i := 268) (by decide +kernel), List.mem_of_getElem? (i := 1004) (by decide +kernel), List.mem_of_getElem? (i := 1005) (by decide +kernel)⟩
theorem lw_p20 : lw_okq (⟨"Latticefit$Routes", "offerWay", "(III)V"⟩, 12) := ⟨⟨by decide +kernel, by decide +kernel⟩, List.mem_of_getElem? (i := 268) (by decide +kernel), List.mem_of_getElem? (i := 1008) (by decide +kernel), List.mem_of_getElem? (i := 1009) (by decide +kernel)⟩
theorem lw_p21 : lw_okq (⟨"Latticefit$Routes", "tollOf", "(I)I"⟩, 12) := ⟨⟨by decide +kernel, by decide +kernel⟩, List.mem_of_getElem? (i := 268) (by decide +kernel), List.mem_of_getElem? (i := 1012) (by decide +kernel), List.mem_of_getElem? (i := 1013) (by decide +kernel)⟩
theorem lw_p22 : lw_okq (⟨"Latticefit$Routes", "takeWay", "(II)V"⟩, 12) := ⟨⟨by decide +kernel, by decide +kernel⟩, List.mem_of_getElem? (i := 268) (by decide +kernel), List.mem_of_getElem? (i := 1016) (by decide +kernel), List.mem_of_getElem? (i := 1017) (by decide +kernel)⟩
theorem lw_p23 : lw_okq (⟨"Latticefit$Routes", "raisePrices", "()V"⟩, 12) := ⟨⟨by decide +kernel, by decide +kernel⟩, List.mem_of_getElem? (i := 268) (by decide +kernel), List.mem_of_getElem? (i := 1027) (by decide +kernel), List.mem_of_getElem? (i := 1028) (by decide +kernel)⟩
theorem lw_p24 : lw_okq (⟨"Latticefit$Times", "ofTable", "(I)I"⟩, 5) := ⟨⟨by decide +kernel, by decide +kernel⟩, List.mem_of_getElem? (i := 315) (by decide +kernel), List.mem_of_getElem? (i := 1069) (by decide +kernel), List.mem_of_getElem? (i := 1070) (by decide +kernel)⟩
theorem lw_p25 : lw_okq (⟨"Latticefit$Times", "arrival", "(II)I"⟩, 5) := ⟨⟨by decide +kernel, by decide +kernel⟩, List.mem_of_getElem? (i := 315) (by decide +kernel), List.mem_of_getElem? (i := 1074) (by decide +kernel), List.mem_of_getElem? (i := 1075) (by decide +kernel)⟩
theorem lw_p26 : lw_okq (⟨"Latticefit$Builder", "putBlock", "(I)V"⟩, 5) := ⟨⟨by decide +kernel, by decide +kernel⟩, List.mem_of_getElem? (i := 352) (by decide +kernel), List.mem_of_getElem? (i := 1143) (by decide +kernel), List.mem_of_getElem? (i := 1144) (by decide +kernel)⟩
theorem lw_p27 : lw_okq (⟨"Latticefit$Builder", "codeAt", "(II)I"⟩, 5) := ⟨⟨by decide +kernel, by decide +kernel⟩, List.mem_of_getElem? (i := 352) (by decide +kernel), List.mem_of_getElem? (i := 1152) (by decide +kernel), List.mem_of_getElem? (i := 1153) (by decide +kernel)⟩
theorem lw_p28 : lw_okq (⟨"Latticefit$Builder", "putNet", "(I)V"⟩, 5) := ⟨⟨by decide +kernel, by decide +kernel⟩, List.mem_of_getElem? (i := 352) (by decide +kernel), List.mem_of_getElem? (i := 1162) (by decide +kernel), List.mem_of_getElem? (i := 1163) (by decide +kernel)⟩
theorem lw_p29 : lw_okq (⟨"Latticefit", "needFrame", "(II)V"⟩, 11) := ⟨⟨by decide +kernel, by decide +kernel⟩, List.mem_of_getElem? (i := 32) (by decide +kernel), List.mem_of_getElem? (i := 1190) (by decide +kernel), List.mem_of_getElem? (i := 1191) (by decide +kernel)⟩
theorem lw_p30 : lw_okq (⟨"Latticefit$Chip", "findEnds", "()V"⟩, 7) := ⟨⟨by decide +kernel, by decide +kernel⟩, List.mem_of_getElem? (i := 374) (by decide +kernel), List.mem_of_getElem? (i := 1265) (by decide +kernel), List.mem_of_getElem? (i := 1266) (by decide +kernel)⟩
theorem lw_p31 : lw_okq (⟨"Latticefit$Chip", "renewTables", "()Z"⟩, 7) := ⟨⟨by decide +kernel, by decide +kernel⟩, List.mem_of_getElem? (i := 374) (by decide +kernel), List.mem_of_getElem? (i := 1284) (by decide +kernel), List.mem_of_getElem? (i := 1285) (by decide +kernel)⟩
def lw_privs_2 : List (MethodName × Nat) := [(⟨"Latticefit$Routes", "addWay", "(II)V"⟩, 12), (⟨"Latticefit$Routes", "openTree", "(I)V"⟩, 12), (⟨"Latticefit$Routes", "takeCheapest", "()I"⟩, 12), (⟨"Latticefit$Routes", "openNeighbours", "(I)V"⟩, 12), (⟨"Latticefit$Routes", "offerWay", "(III)V"⟩, 12), (⟨"Latticefit$Routes", "tollOf", "(I)I"⟩, 12), (⟨"Latticefit$Routes", "takeWay", "(II)V"⟩, 12), (⟨"Latticefit$Routes", "raisePrices", "()V"⟩, 12), (⟨"Latticefit$Times", "ofTable", "(I)I"⟩, 5), (⟨"Latticefit$Times", "arrival", "(II)I"⟩, 5), (⟨"Latticefit$Builder", "putBlock", "(I)V"⟩, 5), (⟨"Latticefit$Builder", "codeAt", "(II)I"⟩, 5), (⟨"Latticefit$Builder", "putNet", "(I)V"⟩, 5), (⟨"Latticefit", "needFrame", "(II)V"⟩, 11), (⟨"Latticefit$Chip", "findEnds", "()V"⟩, 7), (⟨"Latticefit$Chip", "renewTables", "()Z"⟩, 7)]
theorem lw_r2 : ∀ q ∈ lw_privs_2, lw_okq q := List.forall_mem_cons.mpr ⟨lw_p16, List.forall_mem_cons.mpr ⟨lw_p17, List.forall_mem_cons.mpr ⟨lw_p18, List.forall_mem_cons.mpr ⟨lw_p19, List.forall_mem_cons.mpr ⟨lw_p20, List.forall_mem_cons.mpr ⟨lw_p21, List.forall_mem_cons.mpr ⟨lw_p22, List.forall_mem_cons.mpr ⟨lw_p23, List.forall_mem_cons.mpr ⟨lw_p24, List.forall_mem_cons.mpr ⟨lw_p25, List.forall_mem_cons.mpr ⟨lw_p26, List.forall_mem_cons.mpr ⟨lw_p27, List.forall_mem_cons.mpr ⟨lw_p28, List.forall_mem_cons.mpr ⟨lw_p29, List.forall_mem_cons.mpr ⟨lw_p30, List.forall_mem_cons.mpr ⟨lw_p31, fun _ h => absurd h List.not_mem_nil⟩⟩⟩⟩⟩⟩⟩⟩⟩⟩⟩⟩⟩⟩⟩⟩
theorem lw_p32 : lw_okq (⟨"Latticefit$Chip", "valueOfEnd", "(I[I)I"⟩, 7) := ⟨⟨by decide +kernel, by decide +kernel⟩, List.mem_of_getElem? (i := 374) (by decide +kernel), List.mem_of_getElem? (i := 1289) (by decide +kernel), List.mem_of_getElem? (i := 1290) (by decide +kernel)⟩
theorem lw_p33 : lw_okq (⟨"Latticefit", "needOutput", "(I)V"⟩, 11) := ⟨⟨by decide +kernel, by decide +kernel⟩, List.mem_of_getElem? (i := 32) (by decide +kernel), List.mem_of_getElem? (i := 1300) (by decide +kernel), List.mem_of_getElem? (i := 1301) (by decide +kernel)⟩
theorem lw_p34 : lw_okq (⟨"LatticefitModel", "isThrown", "(ZI)Z"⟩, 51) := ⟨⟨by decide +kernel, by decide +kernel⟩, List.mem_of_getElem? (i := 1378) (by decide +kernel), List.mem_of_getElem? (i := 1552) (by decide +kernel), List.mem_of_getElem? (i := 1553) (by decide +kernel)⟩
theorem lw_p35 : lw_okq (⟨"LatticefitModel", "newNode", "(C)I"⟩, 51) := ⟨⟨by decide +kernel, by decide +kernel⟩, List.mem_of_getElem? (i := 1378) (by decide +kernel), List.mem_of_getElem? (i := 1556) (by decide +kernel), List.mem_of_getElem? (i := 1557) (by decide +kernel)⟩
theorem lw_p36 : lw_okq (⟨"LatticefitModel", "changes", "()V"⟩, 51) := ⟨⟨by decide +kernel, by decide +kernel⟩, List.mem_of_getElem? (i := 1378) (by decide +kernel), List.mem_of_getElem? (i := 1560) (by decide +kernel), List.mem_of_getElem? (i := 1561) (by decide +kernel)⟩
theorem lw_p37 : lw_okq (⟨"LatticefitModel", "unroutes", "()V"⟩, 51) := ⟨⟨by decide +kernel, by decide +kernel⟩, List.mem_of_getElem? (i := 1378) (by decide +kernel), List.mem_of_getElem? (i := 1564) (by decide +kernel), List.mem_of_getElem? (i := 1565) (by decide +kernel)⟩
theorem lw_p38 : lw_okq (⟨"LatticefitModel", "isNo", "(II)Z"⟩, 51) := ⟨⟨by decide +kernel, by decide +kernel⟩, List.mem_of_getElem? (i := 1378) (by decide +kernel), List.mem_of_getElem? (i := 1587) (by decide +kernel), List.mem_of_getElem? (i := 1588) (by decide +kernel)⟩
theorem lw_p39 : lw_okq (⟨"LatticefitModel", "blocksThen", "()I"⟩, 51) := ⟨⟨by decide +kernel, by decide +kernel⟩, List.mem_of_getElem? (i := 1378) (by decide +kernel), List.mem_of_getElem? (i := 1599) (by decide +kernel), List.mem_of_getElem? (i := 1600) (by decide +kernel)⟩
theorem lw_p40 : lw_okq (⟨"LatticefitModel", "neededGates", "()I"⟩, 51) := ⟨⟨by decide +kernel, by decide +kernel⟩, List.mem_of_getElem? (i := 1378) (by decide +kernel), List.mem_of_getElem? (i := 1603) (by decide +kernel), List.mem_of_getElem? (i := 1604) (by decide +kernel)⟩
theorem lw_p41 : lw_okq (⟨"LatticefitModel", "findsCuts", "(I)V"⟩, 51) := ⟨⟨by decide +kernel, by decide +kernel⟩, List.mem_of_getElem? (i := 1378) (by decide +kernel), List.mem_of_getElem? (i := 1607) (by decide +kernel), List.mem_of_getElem? (i := 1608) (by decide +kernel)⟩
theorem lw_p42 : lw_okq (⟨"LatticefitModel", "isGate", "(I)Z"⟩, 51) := ⟨⟨by decide +kernel, by decide +kernel⟩, List.mem_of_getElem? (i := 1378) (by decide +kernel), List.mem_of_getElem? (i := 1611) (by decide +kernel), List.mem_of_getElem? (i := 1612) (by decide +kernel)⟩
theorem lw_p43 : lw_okq (⟨"LatticefitModel", "offers", "(IJ)V"⟩, 51) := ⟨⟨by decide +kernel, by decide +kernel⟩, List.mem_of_getElem? (i := 1378) (by decide +kernel), List.mem_of_getElem? (i := 1615) (by decide +kernel), List.mem_of_getElem? (i := 1616) (by decide +kernel)⟩
theorem lw_p44 : lw_okq (⟨"LatticefitModel", "isBetter", "(JJ)Z"⟩, 51) := ⟨⟨by decide +kernel, by decide +kernel⟩, List.mem_of_getElem? (i := 1378) (by decide +kernel), List.mem_of_getElem? (i := 1620) (by decide +kernel), List.mem_of_getElem? (i := 1621) (by decide +kernel)⟩
theorem lw_p45 : lw_okq (⟨"LatticefitModel", "depthOf", "(J)I"⟩, 51) := ⟨⟨by decide +kernel, by decide +kernel⟩, List.mem_of_getElem? (i := 1378) (by decide +kernel), List.mem_of_getElem? (i := 1624) (by decide +kernel), List.mem_of_getElem? (i := 1625) (by decide +kernel)⟩
theorem lw_p46 : lw_okq (⟨"LatticefitModel", "needs", "(I)V"⟩, 51) := ⟨⟨by decide +kernel, by decide +kernel⟩, List.mem_of_getElem? (i := 1378) (by decide +kernel), List.mem_of_getElem? (i := 1630) (by decide +kernel), List.mem_of_getElem? (i := 1631) (by decide +kernel)⟩
theorem lw_p47 : lw_okq (⟨"LatticefitModel", "newBlock", "(II)I"⟩, 51) := ⟨⟨by decide +kernel, by decide +kernel⟩, List.mem_of_getElem? (i := 1378) (by decide +kernel), List.mem_of_getElem? (i := 1634) (by decide +kernel), List.mem_of_getElem? (i := 1635) (by decide +kernel)⟩
def lw_privs_3 : List (MethodName × Nat) := [(⟨"Latticefit$Chip", "valueOfEnd", "(I[I)I"⟩, 7), (⟨"Latticefit", "needOutput", "(I)V"⟩, 11), (⟨"LatticefitModel", "isThrown", "(ZI)Z"⟩, 51), (⟨"LatticefitModel", "newNode", "(C)I"⟩, 51), (⟨"LatticefitModel", "changes", "()V"⟩, 51), (⟨"LatticefitModel", "unroutes", "()V"⟩, 51), (⟨"LatticefitModel", "isNo", "(II)Z"⟩, 51), (⟨"LatticefitModel", "blocksThen", "()I"⟩, 51), (⟨"LatticefitModel", "neededGates", "()I"⟩, 51), (⟨"LatticefitModel", "findsCuts", "(I)V"⟩, 51), (⟨"LatticefitModel", "isGate", "(I)Z"⟩, 51), (⟨"LatticefitModel", "offers", "(IJ)V"⟩, 51), (⟨"LatticefitModel", "isBetter", "(JJ)Z"⟩, 51), (⟨"LatticefitModel", "depthOf", "(J)I"⟩, 51), (⟨"LatticefitModel", "needs", "(I)V"⟩, 51), (⟨"LatticefitModel", "newBlock", "(II)I"⟩, 51)]
theorem lw_r3 : ∀ q ∈ lw_privs_3, lw_okq q := List.forall_mem_cons.mpr ⟨lw_p32, List.forall_mem_cons.mpr ⟨lw_p33, List.forall_mem_cons.mpr ⟨lw_p34, List.forall_mem_cons.mpr ⟨lw_p35, List.forall_mem_cons.mpr ⟨lw_p36, List.forall_mem_cons.mpr ⟨lw_p37, List.forall_mem_cons.mpr ⟨lw_p38, List.forall_mem_cons.mpr ⟨lw_p39, List.forall_mem_cons.mpr ⟨lw_p40, List.forall_mem_cons.mpr ⟨lw_p41, List.forall_mem_cons.mpr ⟨lw_p42, List.forall_mem_cons.mpr ⟨lw_p43, List.forall_mem_cons.mpr ⟨lw_p44, List.forall_mem_cons.mpr ⟨lw_p45, List.forall_mem_cons.mpr ⟨lw_p46, List.forall_mem_cons.mpr ⟨lw_p47, fun _ h => absurd h List.not_mem_nil⟩⟩⟩⟩⟩⟩⟩⟩⟩⟩⟩⟩⟩⟩⟩⟩
theorem lw_p48 : lw_okq (⟨"LatticefitModel", "tabled", "(IJI)V"⟩, 51) := ⟨⟨by decide +kernel, by decide +kernel⟩, List.mem_of_getElem? (i := 1378) (by decide +kernel), List.mem_of_getElem? (i := 1638) (by decide +kernel), List.mem_of_getElem? (i := 1639) (by decide +kernel)⟩
theorem lw_p49 : lw_okq (⟨"LatticefitModel", "valueIn", "(IJI)Z"⟩, 51) := ⟨⟨by decide +kernel, by decide +kernel⟩, List.mem_of_getElem? (i := 1378) (by decide +kernel), List.mem_of_getElem? (i := 1643) (by decide +kernel), List.mem_of_getElem? (i := 1644) (by decide +kernel)⟩
theorem lw_p50 : lw_okq (⟨"LatticefitModel", "of", "(IZZ)Z"⟩, 51) := ⟨⟨by decide +kernel, by decide +kernel⟩, List.mem_of_getElem? (i := 1378) (by decide +kernel), List.mem_of_getElem? (i := 1647) (by decide +kernel), List.mem_of_getElem? (i := 1648) (by decide +kernel)⟩
theorem lw_p51 : lw_okq (⟨"LatticefitModel", "isUnmapped", "(II)Z"⟩, 51) := ⟨⟨by decide +kernel, by decide +kernel⟩, List.mem_of_getElem? (i := 1378) (by decide +kernel), List.mem_of_getElem? (i := 1655) (by decide +kernel), List.mem_of_getElem? (i := 1656) (by decide +kernel)⟩
theorem lw_p52 : lw_okq (⟨"LatticefitModel", "isNoBlock", "(I)Z"⟩, 51) := ⟨⟨by decide +kernel, by decide +kernel⟩, List.mem_of_getElem? (i := 1378) (by decide +kernel), List.mem_of_getElem? (i := 1667) (by decide +kernel), List.mem_of_getElem? (i := 1668) (by decide +kernel)⟩
theorem lw_p53 : lw_okq (⟨"LatticefitModel", "exchanges", "(II)V"⟩, 51) := ⟨⟨by decide +kernel, by decide +kernel⟩, List.mem_of_getElem? (i := 1378) (by decide +kernel), List.mem_of_getElem? (i := 1687) (by decide +kernel), List.mem_of_getElem? (i := 1688) (by decide +kernel)⟩
theorem lw_p54 : lw_okq (⟨"LatticefitModel", "costNow", "()I"⟩, 51) := ⟨⟨by decide +kernel, by decide +kernel⟩, List.mem_of_getElem? (i := 1378) (by decide +kernel), List.mem_of_getElem? (i := 1691) (by decide +kernel), List.mem_of_getElem? (i := 1692) (by decide +kernel)⟩
theorem lw_p55 : lw_okq (⟨"LatticefitModel", "findsNets", "()V"⟩, 51) := ⟨⟨by decide +kernel, by decide +kernel⟩, List.mem_of_getElem? (i := 1378) (by decide +kernel), List.mem_of_getElem? (i := 1695) (by decide +kernel), List.mem_of_getElem? (i := 1696) (by decide +kernel)⟩
theorem lw_p56 : lw_okq (⟨"LatticefitModel", "sinks", "(II)V"⟩, 51) := ⟨⟨by decide +kernel, by decide +kernel⟩, List.mem_of_getElem? (i := 1378) (by decide +kernel), List.mem_of_getElem? (i := 1702) (by decide +kernel), List.mem_of_getElem? (i := 1703) (by decide +kernel)⟩
theorem lw_p57 : lw_okq (⟨"LatticefitModel", "length", "(I)I"⟩, 51) := ⟨⟨by decide +kernel, by decide +kernel⟩, List.mem_of_getElem? (i := 1378) (by decide +kernel), List.mem_of_getElem? (i := 1706) (by decide +kernel), List.mem_of_getElem? (i := 1707) (by decide +kernel)⟩
theorem lw_p58 : lw_okq (⟨"LatticefitModel", "sourceAt", "(I)I"⟩, 51) := ⟨⟨by decide +kernel, by decide +kernel⟩, List.mem_of_getElem? (i := 1378) (by decide +kernel), List.mem_of_getElem? (i := 1710) (by decide +kernel), List.mem_of_getElem? (i := 1711) (by decide +kernel)⟩
theorem lw_p59 : lw_okq (⟨"LatticefitModel", "canSwap", "(II)Z"⟩, 51) := ⟨⟨by decide +kernel, by decide +kernel⟩, List.mem_of_getElem? (i := 1378) (by decide +kernel), List.mem_of_getElem? (i := 1723) (by decide +kernel), List.mem_of_getElem? (i := 1724) (by decide +kernel)⟩
theorem lw_p60 : lw_okq (⟨"LatticefitModel", "excessNow", "()I"⟩, 51) := ⟨⟨by decide +kernel, by decide +kernel⟩, List.mem_of_getElem? (i := 1378) (by decide +kernel), List.mem_of_getElem? (i := 1727) (by decide +kernel), List.mem_of_getElem? (i := 1728) (by decide +kernel)⟩
theorem lw_p61 : lw_okq (⟨"LatticefitModel", "gives", "(II)V"⟩, 51) := ⟨⟨by decide +kernel, by decide +kernel⟩, List.mem_of_getElem? (i := 1378) (by decide +kernel), List.mem_of_getElem? (i := 1748) (by decide +kernel), List.mem_of_getElem? (i := 1749) (by decide +kernel)⟩
theorem lw_p62 : lw_okq (⟨"LatticefitModel", "reaches", "(III)V"⟩, 51) := ⟨⟨by decide +kernel, by decide +kernel⟩, List.mem_of_getElem? (i := 1378) (by decide +kernel), List.mem_of_getElem? (i := 1752) (by decide +kernel), List.mem_of_getElem? (i := 1753) (by decide +kernel)⟩
theorem lw_p63 : lw_okq (⟨"LatticefitModel", "nearest", "()I"⟩, 51) := ⟨⟨by decide +kernel, by decide +kernel⟩, List.mem_of_getElem? (i := 1378) (by decide +kernel), List.mem_of_getElem? (i := 1756) (by decide +kernel), List.mem_of_getElem? (i := 1757) (by decide +kernel)⟩
def lw_privs_4 : List (MethodName × Nat) := [(⟨"LatticefitModel", "tabled", "(IJI)V"⟩, 51), (⟨"LatticefitModel", "valueIn", "(IJI)Z"⟩, 51), (⟨"LatticefitModel", "of", "(IZZ)Z"⟩, 51), (⟨"LatticefitModel", "isUnmapped", "(II)Z"⟩, 51), (⟨"LatticefitModel", "isNoBlock", "(I)Z"⟩, 51), (⟨"LatticefitModel", "exchanges", "(II)V"⟩, 51), (⟨"LatticefitModel", "costNow", "()I"⟩, 51), (⟨"LatticefitModel", "findsNets", "()V"⟩, 51), (⟨"LatticefitModel", "sinks", "(II)V"⟩, 51), (⟨"LatticefitModel", "length", "(I)I"⟩, 51), (⟨"LatticefitModel", "sourceAt", "(I)I"⟩, 51), (⟨"LatticefitModel", "canSwap", "(II)Z"⟩, 51), (⟨"LatticefitModel", "excessNow", "()I"⟩, 51), (⟨"LatticefitModel", "gives", "(II)V"⟩, 51), (⟨"LatticefitModel", "reaches", "(III)V"⟩, 51), (⟨"LatticefitModel", "nearest", "()I"⟩, 51)]
theorem lw_r4 : ∀ q ∈ lw_privs_4, lw_okq q := List.forall_mem_cons.mpr ⟨lw_p48, List.forall_mem_cons.mpr ⟨lw_p49, List.forall_mem_cons.mpr ⟨lw_p50, List.forall_mem_cons.mpr ⟨lw_p51, List.forall_mem_cons.mpr ⟨lw_p52, List.forall_mem_cons.mpr ⟨lw_p53, List.forall_mem_cons.mpr ⟨lw_p54, List.forall_mem_cons.mpr ⟨lw_p55, List.forall_mem_cons.mpr ⟨lw_p56, List.forall_mem_cons.mpr ⟨lw_p57, List.forall_mem_cons.mpr ⟨lw_p58, List.forall_mem_cons.mpr ⟨lw_p59, List.forall_mem_cons.mpr ⟨lw_p60, List.forall_mem_cons.mpr ⟨lw_p61, List.forall_mem_cons.mpr ⟨lw_p62, List.forall_mem_cons.mpr ⟨lw_p63, fun _ h => absurd h List.not_mem_nil⟩⟩⟩⟩⟩⟩⟩⟩⟩⟩⟩⟩⟩⟩⟩⟩
theorem lw_p64 : lw_okq (⟨"LatticefitModel", "tollOf", "(II)I"⟩, 51) := ⟨⟨by decide +kernel, by decide +kernel⟩, List.mem_of_getElem? (i := 1378) (by decide +kernel), List.mem_of_getElem? (i := 1763) (by decide +kernel), List.mem_of_getElem? (i := 1764) (by decide +kernel)⟩
theorem lw_p65 : lw_okq (⟨"LatticefitModel", "wire", "(II)I"⟩, 51) := ⟨⟨by decide +kernel, by decide +kernel⟩, List.mem_of_getElem? (i := 1378) (by decide +kernel), List.mem_of_getElem? (i := 1779) (by decide +kernel), List.mem_of_getElem? (i := 1780) (by decide +kernel)⟩
theorem lw_p66 : lw_okq (⟨"LatticefitModel", "time", "(I)I"⟩, 51) := ⟨⟨by decide +kernel, by decide +kernel⟩, List.mem_of_getElem? (i := 1378) (by decide +kernel), List.mem_of_getElem? (i := 1787) (by decide +kernel), List.mem_of_getElem? (i := 1788) (by decide +kernel)⟩
theorem lw_p67 : lw_okq (⟨"LatticefitModel", "tableTime", "(I)I"⟩, 51) := ⟨⟨by decide +kernel, by decide +kernel⟩, List.mem_of_getElem? (i := 1378) (by decide +kernel), List.mem_of_getElem? (i := 1791) (by decide +kernel), List.mem_of_getElem? (i := 1792) (by decide +kernel)⟩
theorem lw_p68 : lw_okq (⟨"LatticefitModel", "arrival", "(II)I"⟩, 51) := ⟨⟨by decide +kernel, by decide +kernel⟩, List.mem_of_getElem? (i := 1378) (by decide +kernel), List.mem_of_getElem? (i := 1795) (by decide +kernel), List.mem_of_getElem? (i := 1796) (by decide +kernel)⟩
theorem lw_p69 : lw_okq (⟨"LatticefitModel", "edgesOf", "(I)I"⟩, 51) := ⟨⟨by decide +kernel, by decide +kernel⟩, List.mem_of_getElem? (i := 1378) (by decide +kernel), List.mem_of_getElem? (i := 1808) (by decide +kernel), List.mem_of_getElem? (i := 1809) (by decide +kernel)⟩
theorem lw_p70 : lw_okq (⟨"LatticefitModel", "codeAt", "(II)I"⟩, 51) := ⟨⟨by decide +kernel, by decide +kernel⟩, List.mem_of_getElem? (i := 1378) (by decide +kernel), List.mem_of_getElem? (i := 1824) (by decide +kernel), List.mem_of_getElem? (i := 1825) (by decide +kernel)⟩
theorem lw_p71 : lw_okq (⟨"LatticefitModel", "sourceCode", "(I)I"⟩, 51) := ⟨⟨by decide +kernel, by decide +kernel⟩, List.mem_of_getElem? (i := 1378) (by decide +kernel), List.mem_of_getElem? (i := 1828) (by decide +kernel), List.mem_of_getElem? (i := 1829) (by decide +kernel)⟩
theorem lw_p72 : lw_okq (⟨"LatticefitModel", "runs", "()V"⟩, 51) := ⟨⟨by decide +kernel, by decide +kernel⟩, List.mem_of_getElem? (i := 1378) (by decide +kernel), List.mem_of_getElem? (i := 1860) (by decide +kernel), List.mem_of_getElem? (i := 1861) (by decide +kernel)⟩
theorem lw_p73 : lw_okq (⟨"LatticefitModel", "settles", "()V"⟩, 51) := ⟨⟨by decide +kernel, by decide +kernel⟩, List.mem_of_getElem? (i := 1378) (by decide +kernel), List.mem_of_getElem? (i := 1864) (by decide +kernel), List.mem_of_getElem? (i := 1865) (by decide +kernel)⟩
theorem lw_p74 : lw_okq (⟨"LatticefitModel", "valueOf", "(I)Z"⟩, 51) := ⟨⟨by decide +kernel, by decide +kernel⟩, List.mem_of_getElem? (i := 1378) (by decide +kernel), List.mem_of_getElem? (i := 1871) (by decide +kernel), List.mem_of_getElem? (i := 1872) (by decide +kernel)⟩
theorem lw_p75 : lw_okq (⟨"LatticefitModel", "behind", "(I)I"⟩, 51) := ⟨⟨by decide +kernel, by decide +kernel⟩, List.mem_of_getElem? (i := 1378) (by decide +kernel), List.mem_of_getElem? (i := 1875) (by decide +kernel), List.mem_of_getElem? (i := 1876) (by decide +kernel)⟩
theorem lw_p76 : lw_okq (⟨"LatticefitModel", "isIdle", "(II)Z"⟩, 51) := ⟨⟨by decide +kernel, by decide +kernel⟩, List.mem_of_getElem? (i := 1378) (by decide +kernel), List.mem_of_getElem? (i := 1883) (by decide +kernel), List.mem_of_getElem? (i := 1884) (by decide +kernel)⟩
theorem lw_p77 : lw_okq (⟨"LatticefitModel", "arrives", "(I)I"⟩, 51) := ⟨⟨by decide +kernel, by decide +kernel⟩, List.mem_of_getElem? (i := 1378) (by decide +kernel), List.mem_of_getElem? (i := 1899) (by decide +kernel), List.mem_of_getElem? (i := 1900) (by decide +kernel)⟩
theorem lw_p78 : lw_okq (⟨"LatticefitModel", "inputAt", "(I)I"⟩, 51) := ⟨⟨by decide +kernel, by decide +kernel⟩, List.mem_of_getElem? (i := 1378) (by decide +kernel), List.mem_of_getElem? (i := 1903) (by decide +kernel), List.mem_of_getElem? (i := 1904) (by decide +kernel)⟩
theorem lw_p79 : lw_okq (⟨"LatticefitModel", "bad", "(I)Z"⟩, 51) := ⟨⟨by decide +kernel, by decide +kernel⟩, List.mem_of_getElem? (i := 1378) (by decide +kernel), List.mem_of_getElem? (i := 1915) (by decide +kernel), List.mem_of_getElem? (i := 1916) (by decide +kernel)⟩
def lw_privs_5 : List (MethodName × Nat) := [(⟨"LatticefitModel", "tollOf", "(II)I"⟩, 51), (⟨"LatticefitModel", "wire", "(II)I"⟩, 51), (⟨"LatticefitModel", "time", "(I)I"⟩, 51), (⟨"LatticefitModel", "tableTime", "(I)I"⟩, 51), (⟨"LatticefitModel", "arrival", "(II)I"⟩, 51), (⟨"LatticefitModel", "edgesOf", "(I)I"⟩, 51), (⟨"LatticefitModel", "codeAt", "(II)I"⟩, 51), (⟨"LatticefitModel", "sourceCode", "(I)I"⟩, 51), (⟨"LatticefitModel", "runs", "()V"⟩, 51), (⟨"LatticefitModel", "settles", "()V"⟩, 51), (⟨"LatticefitModel", "valueOf", "(I)Z"⟩, 51), (⟨"LatticefitModel", "behind", "(I)I"⟩, 51), (⟨"LatticefitModel", "isIdle", "(II)Z"⟩, 51), (⟨"LatticefitModel", "arrives", "(I)I"⟩, 51), (⟨"LatticefitModel", "inputAt", "(I)I"⟩, 51), (⟨"LatticefitModel", "bad", "(I)Z"⟩, 51)]
theorem lw_r5 : ∀ q ∈ lw_privs_5, lw_okq q := List.forall_mem_cons.mpr ⟨lw_p64, List.forall_mem_cons.mpr ⟨lw_p65, List.forall_mem_cons.mpr ⟨lw_p66, List.forall_mem_cons.mpr ⟨lw_p67, List.forall_mem_cons.mpr ⟨lw_p68, List.forall_mem_cons.mpr ⟨lw_p69, List.forall_mem_cons.mpr ⟨lw_p70, List.forall_mem_cons.mpr ⟨lw_p71, List.forall_mem_cons.mpr ⟨lw_p72, List.forall_mem_cons.mpr ⟨lw_p73, List.forall_mem_cons.mpr ⟨lw_p74, List.forall_mem_cons.mpr ⟨lw_p75, List.forall_mem_cons.mpr ⟨lw_p76, List.forall_mem_cons.mpr ⟨lw_p77, List.forall_mem_cons.mpr ⟨lw_p78, List.forall_mem_cons.mpr ⟨lw_p79, fun _ h => absurd h List.not_mem_nil⟩⟩⟩⟩⟩⟩⟩⟩⟩⟩⟩⟩⟩⟩⟩⟩
def lw_privs : List (MethodName × Nat) := lw_privs_1 ++ (lw_privs_2 ++ (lw_privs_3 ++ (lw_privs_4 ++ (lw_privs_5))))
def lw_tbl : List Cond := k2_sels lw_privs ++ tables_1
theorem lw_privs_ok : ∀ q ∈ lw_privs, lw_okq q := by
  show ∀ q ∈ lw_privs_1 ++ (lw_privs_2 ++ (lw_privs_3 ++ (lw_privs_4 ++ (lw_privs_5)))), lw_okq q
  exact List.forall_mem_append.mpr ⟨lw_r1, List.forall_mem_append.mpr ⟨lw_r2, List.forall_mem_append.mpr ⟨lw_r3, List.forall_mem_append.mpr ⟨lw_r4, lw_r5⟩⟩⟩⟩
/-- the streams that the claim lets the run draw from -/
abbrev lw_cs : List Choice := [Jvm.Choice.named "NaN.bits"]
theorem lw_bits : nanBits ∈ lw_cs := by first | decide | exact List.mem_cons_self | simp [lw_cs, nanBits]
/-! numbers for the classes, the cells, the methods; written by a program from the claim's own tables -/
def ma_cls : List (String × List (String × String × String × Bool × FieldType)) := [  ("Latticefit$Blocks", [("Latticefit$Blocks", "gate", "[I", true, (.array .int)), ("Latticefit$Blocks", "register", "[I", true, (.array .int)), ("Latticefit$Blocks", "table", "[I", true, (.array .int)), ("Latticefit$Blocks", "inputs", "[I", true, (.array .int)), ("Latticefit$Blocks", "input", "[[I", true, (.array (.array .int))), ("Latticefit$Blocks", "ofNode", "[I", true, (.array .int)), ("Latticefit$Blocks", "needed", "[Z", true, (.array .boolean)), ("Latticefit$Blocks", "count", "I", false, .int), ("Latticefit$Blocks", "values", "[I", true, (.array .int)), ("Latticefit$Blocks", "circuit", "LLatticefit$Circuit;", true, (.object "Latticefit$Circuit"))]),
  ("Latticefit$Builder", [("Latticefit$Builder", "circuit", "LLatticefit$Circuit;", true, (.object "Latticefit$Circuit")), ("Latticefit$Builder", "blocks", "LLatticefit$Blocks;", true, (.object "Latticefit$Blocks")), ("Latticefit$Builder", "places", "LLatticefit$Places;", true, (.object "Latticefit$Places")), ("Latticefit$Builder", "routes", "LLatticefit$Routes;", true, (.object "Latticefit$Routes")), ("Latticefit$Builder", "frames", "LLatticefit$Frames;", true, (.object "Latticefit$Frames"))]),
  ("Latticefit$Chip", [("Latticefit$Chip", "frames", "LLatticefit$Frames;", true, (.object "Latticefit$Frames")), ("Latticefit$Chip", "input", "[I", true, (.array .int)), ("Latticefit$Chip", "register", "[I", true, (.array .int)), ("Latticefit$Chip", "ticks", "J", false, .long), ("Latticefit$Chip", "table", "[I", true, (.array .int)), ("Latticefit$Chip", "tableBefore", "[I", true, (.array .int)), ("Latticefit$Chip", "ends", "[I", true, (.array .int))]),
  ("Latticefit$Circuit", [("Latticefit$Circuit", "kind", "[C", true, (.array .char)), ("Latticefit$Circuit", "first", "[I", true, (.array .int)), ("Latticefit$Circuit", "second", "[I", true, (.array .int)), ("Latticefit$Circuit", "feeder", "[I", true, (.array .int)), ("Latticefit$Circuit", "initial", "[I", true, (.array .int)), ("Latticefit$Circuit", "clockOf", "[I", true, (.array .int)), ("Latticefit$Circuit", "numberOf", "[I", true, (.array .int)), ("Latticefit$Circuit", "inputNode", "[I", true, (.array .int)), ("Latticefit$Circuit", "registerNode", "[I", true, (.array .int)), ("Latticefit$Circuit", "outputNode", "[I", true, (.array .int)), ("Latticefit$Circuit", "nodes", "I", false, .int), ("Latticefit$Circuit", "inputs", "I", false, .int), ("Latticefit$Circuit", "registers", "I", false, .int), ("Latticefit$Circuit", "outputs", "I", false, .int)]),
  ("Latticefit$Cuts", [("Latticefit$Cuts", "sets", "[[J", true, (.array (.array .long))), ("Latticefit$Cuts", "tops", "[[I", true, (.array (.array .int))), ("Latticefit$Cuts", "count", "[I", true, (.array .int)), ("Latticefit$Cuts", "depthOf", "[I", true, (.array .int)), ("Latticefit$Cuts", "circuit", "LLatticefit$Circuit;", true, (.object "Latticefit$Circuit"))]),
  ("Latticefit$Frames", [("Latticefit$Frames", "words", "[[I", true, (.array (.array .int)))]),
  ("Latticefit$Places", [("Latticefit$Places", "cell", "[I", true, (.array .int)), ("Latticefit$Places", "blockIn", "[I", true, (.array .int)), ("Latticefit$Places", "isFixed", "[Z", true, (.array .boolean)), ("Latticefit$Places", "leftmost", "[I", true, (.array .int)), ("Latticefit$Places", "rightmost", "[I", true, (.array .int)), ("Latticefit$Places", "lowest", "[I", true, (.array .int)), ("Latticefit$Places", "highest", "[I", true, (.array .int)), ("Latticefit$Places", "clocksIn", "[I", true, (.array .int)), ("Latticefit$Places", "circuit", "LLatticefit$Circuit;", true, (.object "Latticefit$Circuit")), ("Latticefit$Places", "blocks", "LLatticefit$Blocks;", true, (.object "Latticefit$Blocks"))]),
  ("Latticefit$Routes", [("Latticefit$Routes", "back", "[[I", true, (.array (.array .int))), ("Latticefit$Routes", "source", "[I", true, (.array .int)), ("Latticefit$Routes", "users", "[I", true, (.array .int)), ("Latticefit$Routes", "sinks", "[J", true, (.array .long)), ("Latticefit$Routes", "price", "[I", true, (.array .int)), ("Latticefit$Routes", "toll", "[I", true, (.array .int)), ("Latticefit$Routes", "wayBack", "[I", true, (.array .int)), ("Latticefit$Routes", "isDone", "[Z", true, (.array .boolean)), ("Latticefit$Routes", "open", "[I", true, (.array .int)), ("Latticefit$Routes", "opened", "I", false, .int), ("Latticefit$Routes", "round", "I", false, .int), ("Latticefit$Routes", "circuit", "LLatticefit$Circuit;", true, (.object "Latticefit$Circuit"))]),
  ("Latticefit$Runner", [("Latticefit$Runner", "held", "[I", true, (.array .int)), ("Latticefit$Runner", "values", "[I", true, (.array .int)), ("Latticefit$Runner", "circuit", "LLatticefit$Circuit;", true, (.object "Latticefit$Circuit"))]),
  ("Latticefit$Times", [("Latticefit$Times", "ofNode", "[I", true, (.array .int)), ("Latticefit$Times", "circuit", "LLatticefit$Circuit;", true, (.object "Latticefit$Circuit")), ("Latticefit$Times", "blocks", "LLatticefit$Blocks;", true, (.object "Latticefit$Blocks")), ("Latticefit$Times", "places", "LLatticefit$Places;", true, (.object "Latticefit$Places")), ("Latticefit$Times", "routes", "LLatticefit$Routes;", true, (.object "Latticefit$Routes"))]),
  ("Latticefit", [("Latticefit", "circuit", "LLatticefit$Circuit;", true, (.object "Latticefit$Circuit")), ("Latticefit", "cuts", "LLatticefit$Cuts;", true, (.object "Latticefit$Cuts")), ("Latticefit", "blocks", "LLatticefit$Blocks;", true, (.object "Latticefit$Blocks")), ("Latticefit", "places", "LLatticefit$Places;", true, (.object "Latticefit$Places")), ("Latticefit", "routes", "LLatticefit$Routes;", true, (.object "Latticefit$Routes")), ("Latticefit", "times", "LLatticefit$Times;", true, (.object "Latticefit$Times")), ("Latticefit", "bits", "LLatticefit$Frames;", true, (.object "Latticefit$Frames")), ("Latticefit", "builder", "LLatticefit$Builder;", true, (.object "Latticefit$Builder")), ("Latticefit", "chip", "LLatticefit$Chip;", true, (.object "Latticefit$Chip")), ("Latticefit", "runner", "LLatticefit$Runner;", true, (.object "Latticefit$Runner")), ("Latticefit", "stage", "I", false, .int)]),
  ("LatticefitModel", [("LatticefitModel", "kind", "[C", true, (.array .char)), ("LatticefitModel", "first", "[I", true, (.array .int)), ("LatticefitModel", "second", "[I", true, (.array .int)), ("LatticefitModel", "clock", "[I", true, (.array .int)), ("LatticefitModel", "feed", "[I", true, (.array .int)), ("LatticefitModel", "inputNo", "[I", true, (.array .int)), ("LatticefitModel", "output", "[I", true, (.array .int)), ("LatticefitModel", "isOne", "[Z", true, (.array .boolean)), ("LatticefitModel", "nodes", "I", false, .int), ("LatticefitModel", "inputs", "I", false, .int), ("LatticefitModel", "registers", "I", false, .int), ("LatticefitModel", "outputs", "I", false, .int), ("LatticefitModel", "cut", "[J", true, (.array .long)), ("LatticefitModel", "cuts", "[I", true, (.array .int)), ("LatticefitModel", "depth", "[I", true, (.array .int)), ("LatticefitModel", "blockOf", "[I", true, (.array .int)), ("LatticefitModel", "isNeeded", "[Z", true, (.array .boolean)), ("LatticefitModel", "gate", "[I", true, (.array .int)), ("LatticefitModel", "register", "[I", true, (.array .int)), ("LatticefitModel", "cell", "[I", true, (.array .int)), ("LatticefitModel", "table", "[I", true, (.array .int)), ("LatticefitModel", "many", "[I", true, (.array .int)), ("LatticefitModel", "tableIn", "[I", true, (.array .int)), ("LatticefitModel", "in", "[I", true, (.array .int)), ("LatticefitModel", "isFixed", "[Z", true, (.array .boolean)), ("LatticefitModel", "blocks", "I", false, .int), ("LatticefitModel", "isMapped", "Z", false, .boolean), ("LatticefitModel", "isRouted", "Z", false, .boolean), ("LatticefitModel", "isBuilt", "Z", false, .boolean), ("LatticefitModel", "isStarted", "Z", false, .boolean), ("LatticefitModel", "has", "[Z", true, (.array .boolean)), ("LatticefitModel", "isNet", "[Z", true, (.array .boolean)), ("LatticefitModel", "isSink", "[Z", true, (.array .boolean)), ("LatticefitModel", "isTree", "[Z", true, (.array .boolean)), ("LatticefitModel", "back", "[I", true, (.array .int)), ("LatticefitModel", "nets", "[I", true, (.array .int)), ("LatticefitModel", "price", "[I", true, (.array .int)), ("LatticefitModel", "toll", "[I", true, (.array .int)), ("LatticefitModel", "way", "[I", true, (.array .int)), ("LatticefitModel", "isDone", "[Z", true, (.array .boolean)), ("LatticefitModel", "stream", "[I", true, (.array .int)), ("LatticefitModel", "chip", "[I", true, (.array .int)), ("LatticefitModel", "state", "[Z", true, (.array .boolean)), ("LatticefitModel", "chipState", "[Z", true, (.array .boolean)), ("LatticefitModel", "given", "[Z", true, (.array .boolean)), ("LatticefitModel", "value", "[Z", true, (.array .boolean)), ("LatticefitModel", "now", "[Z", false, (.array .boolean)), ("LatticefitModel", "next", "[Z", false, (.array .boolean)), ("LatticefitModel", "wireWord", "[I", true, (.array .int)), ("LatticefitModel", "ticks", "J", false, .long), ("LatticefitModel", "thrown", "I", false, .int)])]
def ma_C (ci : Nat) : String := (ma_cls.getD ci ("", [])).1
def ma_fd (ci k : Nat) : String × String × String × Bool × FieldType := (ma_cls.getD ci ("", [])).2.getD k ("", "", "", false, .int)
def ma_T (ci : Nat) : u_T := fun k => ((ma_fd ci k).1, (ma_fd ci k).2.1, (ma_fd ci k).2.2.1, (ma_fd ci k).2.2.2.1)
def ma_fty (ci k : Nat) : FieldType := (ma_fd ci k).2.2.2.2
def ma_N (ci : Nat) : Nat := (ma_cls.getD ci ("", [])).2.length
/-- what kind of field: 0 int, 1 long, 2 boolean, 3 a cell that stays, 4 a cell that changes -/
def ma_fks : List (List Nat) := [[3, 3, 3, 3, 3, 3, 3, 0, 3, 3], [3, 3, 3, 3, 3], [3, 3, 3, 1, 3, 3, 3], [3, 3, 3, 3, 3, 3, 3, 3, 3, 3, 0, 0, 0, 0], [3, 3, 3, 3, 3], [3], [3, 3, 3, 3, 3, 3, 3, 3, 3, 3], [3, 3, 3, 3, 3, 3, 3, 3, 3, 0, 0, 3], [3, 3, 3], [3, 3, 3, 3, 3], [3, 3, 3, 3, 3, 3, 3, 3, 3, 3, 0], [3, 3, 3, 3, 3, 3, 3, 3, 0, 0, 0, 0, 3, 3, 3, 3, 3, 3, 3, 3, 3, 3, 3, 3, 3, 0, 2, 2, 2, 2, 3, 3, 3, 3, 3, 3, 3, 3, 3, 3, 3, 3, 3, 3, 3, 3, 4, 4, 3, 1, 0]]
def ma_fk (ci k : Nat) : Nat := (ma_fks.getD ci []).getD k 99
/-- the cells: kind (0 int[], 1 long[], 2 boolean[], 3 char[], 4 double[], 5 int[][], 6 long[][], 7 a static int[], 8 the script, 10 + class), length, rows -/
def ma_cells : List (Nat × Nat × Nat) := [(8, 0, 1), (7, 4, 1), (20, 11, 1), (13, 14, 1), (3, 48, 1), (0, 48, 1), (0, 48, 1), (0, 48, 1), (0, 48, 1), (0, 48, 1), (0, 48, 1), (0, 6, 1), (0, 8, 1), (0, 6, 1), (14, 5, 1), (6, 48, 1), (1, 7, 48), (5, 48, 1), (0, 7, 48), (0, 48, 1), (0, 48, 1), (10, 10, 1), (0, 48, 1), (0, 48, 1), (0, 48, 1), (0, 48, 1), (5, 48, 1), (0, 4, 48), (0, 48, 1), (2, 48, 1), (0, 48, 1), (16, 10, 1), (0, 48, 1), (0, 36, 1), (2, 48, 1), (0, 48, 1), (0, 48, 1), (0, 48, 1), (0, 48, 1), (0, 3, 1), (17, 12, 1), (5, 48, 1), (0, 49, 48), (0, 48, 1), (0, 84, 1), (1, 48, 1), (0, 84, 1), (0, 49, 1), (0, 49, 1), (2, 49, 1), (0, 49, 1), (19, 5, 1), (0, 48, 1), (15, 1, 1), (5, 14, 1), (0, 36, 14), (11, 5, 1), (12, 7, 1), (15, 1, 1), (5, 14, 1), (0, 36, 14), (0, 6, 1), (0, 36, 1), (0, 36, 1), (0, 36, 1), (0, 144, 1), (18, 3, 1), (0, 48, 1), (0, 48, 1), (21, 51, 1), (3, 48, 1), (0, 48, 1), (0, 48, 1), (0, 48, 1), (0, 48, 1), (0, 48, 1), (0, 6, 1), (2, 48, 1), (1, 336, 1), (0, 48, 1), (0, 48, 1), (0, 48, 1), (2, 48, 1), (0, 48, 1), (0, 48, 1), (0, 48, 1), (0, 48, 1), (0, 48, 1), (0, 192, 1), (0, 36, 1), (2, 48, 1), (2, 4032, 1), (2, 48, 1), (2, 2352, 1), (2, 2352, 1), (0, 2352, 1), (0, 84, 1), (0, 84, 1), (0, 49, 1), (0, 49, 1), (2, 49, 1), (0, 504, 1), (0, 504, 1), (2, 48, 1), (2, 36, 1), (2, 6, 1), (2, 48, 1), (2, 36, 1), (2, 36, 1), (0, 168, 1), (0, 7, 1), (1, 1, 1), (4, 1, 1)]
def ma_ck (k : Nat) : Nat × Nat × Nat := ma_cells.getD k (99, 0, 0)
def ma_offs : List Nat := [0, 0, 0, 1, 2, 3, 4, 5, 6, 7, 8, 9, 10, 11, 12, 13, 14, 62, 63, 111, 112, 113, 114, 115, 116, 117, 118, 119, 167, 168, 169, 170, 171, 172, 173, 174, 175, 176, 177, 178, 179, 180, 181, 229, 230, 231, 232, 233, 234, 235, 236, 237, 238, 239, 240, 241, 255, 256, 257, 258, 259, 273, 274, 275, 276, 277, 278, 279, 280, 281, 282, 283, 284, 285, 286, 287, 288, 289, 290, 291, 292, 293, 294, 295, 296, 297, 298, 299, 300, 301, 302, 303, 304, 305, 306, 307, 308, 309, 310, 311, 312, 313, 314, 315, 316, 317, 318, 319, 320, 321, 322, 323, 324]
/-- which cell a field of a cell holds -/
def ma_rfs : List (List Nat) := [[], [], [3, 14, 21, 31, 40, 51, 53, 56, 57, 66, 0], [4, 5, 6, 7, 8, 9, 10, 11, 12, 13, 0, 0, 0, 0], [], [], [], [], [], [], [], [], [], [], [15, 17, 19, 20, 3], [], [], [], [], [], [], [22, 23, 24, 25, 26, 28, 29, 0, 30, 3], [], [], [], [], [], [], [], [], [], [32, 33, 34, 35, 36, 37, 38, 39, 3, 21], [], [], [], [], [], [], [], [], [41, 43, 44, 45, 46, 47, 48, 49, 50, 0, 0, 3], [], [], [], [], [], [], [], [], [], [], [52, 3, 21, 31, 40], [], [54], [], [], [3, 21, 31, 40, 53], [58, 61, 62, 0, 63, 64, 65], [59], [], [], [], [], [], [], [], [67, 68, 3], [], [], [70, 71, 72, 73, 74, 75, 76, 77, 0, 0, 0, 0, 78, 79, 80, 81, 82, 83, 84, 85, 86, 87, 88, 89, 90, 0, 0, 0, 0, 0, 91, 92, 93, 94, 95, 96, 97, 98, 99, 100, 101, 102, 103, 104, 105, 106, 107, 108, 109, 0, 0], [], [], [], [], [], [], [], [], [], [], [], [], [], [], [], [], [], [], [], [], [], [], [], [], [], [], [], [], [], [], [], [], [], [], [], [], [], [], [], [], [], [], []]
def ma_rf (k i : Nat) : Nat := (ma_rfs.getD k []).getD i 0
theorem ma_ck_0 : ma_ck 0 = (8, 0, 1) := rfl
theorem ma_ck_1 : ma_ck 1 = (7, 4, 1) := rfl
theorem ma_ck_2 : ma_ck 2 = (20, 11, 1) := rfl
theorem ma_ck_3 : ma_ck 3 = (13, 14, 1) := rfl
theorem ma_ck_4 : ma_ck 4 = (3, 48, 1) := rfl
theorem ma_ck_5 : ma_ck 5 = (0, 48, 1) := rfl
theorem ma_ck_6 : ma_ck 6 = (0, 48, 1) := rfl
theorem ma_ck_7 : ma_ck 7 = (0, 48, 1) := rfl
theorem ma_ck_8 : ma_ck 8 = (0, 48, 1) := rfl
theorem ma_ck_9 : ma_ck 9 = (0, 48, 1) := rfl
theorem ma_ck_10 : ma_ck 10 = (0, 48, 1) := rfl
theorem ma_ck_11 : ma_ck 11 = (0, 6, 1) := rfl
theorem ma_ck_12 : ma_ck 12 = (0, 8, 1) := rfl
theorem ma_ck_13 : ma_ck 13 = (0, 6, 1) := rfl
theorem ma_ck_14 : ma_ck 14 = (14, 5, 1) := rfl
theorem ma_ck_15 : ma_ck 15 = (6, 48, 1) := rfl
theorem ma_ck_16 : ma_ck 16 = (1, 7, 48) := rfl
theorem ma_ck_17 : ma_ck 17 = (5, 48, 1) := rfl
theorem ma_ck_18 : ma_ck 18 = (0, 7, 48) := rfl
theorem ma_ck_19 : ma_ck 19 = (0, 48, 1) := rfl
theorem ma_ck_20 : ma_ck 20 = (0, 48, 1) := rfl
theorem ma_ck_21 : ma_ck 21 = (10, 10, 1) := rfl
theorem ma_ck_22 : ma_ck 22 = (0, 48, 1) := rfl
theorem ma_ck_23 : ma_ck 23 = (0, 48, 1) := rfl
theorem ma_ck_24 : ma_ck 24 = (0, 48, 1) := rfl
theorem ma_ck_25 : ma_ck 25 = (0, 48, 1) := rfl
theorem ma_ck_26 : ma_ck 26 = (5, 48, 1) := rfl
theorem ma_ck_27 : ma_ck 27 = (0, 4, 48) := rfl
theorem ma_ck_28 : ma_ck 28 = (0, 48, 1) := rfl
theorem ma_ck_29 : ma_ck 29 = (2, 48, 1) := rfl
theorem ma_ck_30 : ma_ck 30 = (0, 48, 1) := rfl
theorem ma_ck_31 : ma_ck 31 = (16, 10, 1) := rfl
theorem ma_ck_32 : ma_ck 32 = (0, 48, 1) := rfl
theorem ma_ck_33 : ma_ck 33 = (0, 36, 1) := rfl
theorem ma_ck_34 : ma_ck 34 = (2, 48, 1) := rfl
theorem ma_ck_35 : ma_ck 35 = (0, 48, 1) := rfl
theorem ma_ck_36 : ma_ck 36 = (0, 48, 1) := rfl
theorem ma_ck_37 : ma_ck 37 = (0, 48, 1) := rfl
theorem ma_ck_38 : ma_ck 38 = (0, 48, 1) := rfl
theorem ma_ck_39 : ma_ck 39 = (0, 3, 1) := rfl
theorem ma_ck_40 : ma_ck 40 = (17, 12, 1) := rfl
theorem ma_ck_41 : ma_ck 41 = (5, 48, 1) := rfl
theorem ma_ck_42 : ma_ck 42 = (0, 49, 48) := rfl
theorem ma_ck_43 : ma_ck 43 = (0, 48, 1) := rfl
theorem ma_ck_44 : ma_ck 44 = (0, 84, 1) := rfl
theorem ma_ck_45 : ma_ck 45 = (1, 48, 1) := rfl
theorem ma_ck_46 : ma_ck 46 = (0, 84, 1) := rfl
theorem ma_ck_47 : ma_ck 47 = (0, 49, 1) := rfl
theorem ma_ck_48 : ma_ck 48 = (0, 49, 1) := rfl
theorem ma_ck_49 : ma_ck 49 = (2, 49, 1) := rfl
theorem ma_ck_50 : ma_ck 50 = (0, 49, 1) := rfl
theorem ma_ck_51 : ma_ck 51 = (19, 5, 1) := rfl
theorem ma_ck_52 : ma_ck 52 = (0, 48, 1) := rfl
theorem ma_ck_53 : ma_ck 53 = (15, 1, 1) := rfl
theorem ma_ck_54 : ma_ck 54 = (5, 14, 1) := rfl
theorem ma_ck_55 : ma_ck 55 = (0, 36, 14) := rfl
theorem ma_ck_56 : ma_ck 56 = (11, 5, 1) := rfl
theorem ma_ck_57 : ma_ck 57 = (12, 7, 1) := rfl
theorem ma_ck_58 : ma_ck 58 = (15, 1, 1) := rfl
theorem ma_ck_59 : ma_ck 59 = (5, 14, 1) := rfl
theorem ma_ck_60 : ma_ck 60 = (0, 36, 14) := rfl
theorem ma_ck_61 : ma_ck 61 = (0, 6, 1) := rfl
theorem ma_ck_62 : ma_ck 62 = (0, 36, 1) := rfl
theorem ma_ck_63 : ma_ck 63 = (0, 36, 1) := rfl
theorem ma_ck_64 : ma_ck 64 = (0, 36, 1) := rfl
theorem ma_ck_65 : ma_ck 65 = (0, 144, 1) := rfl
theorem ma_ck_66 : ma_ck 66 = (18, 3, 1) := rfl
theorem ma_ck_67 : ma_ck 67 = (0, 48, 1) := rfl
theorem ma_ck_68 : ma_ck 68 = (0, 48, 1) := rfl
theorem ma_ck_69 : ma_ck 69 = (21, 51, 1) := rfl
theorem ma_ck_70 : ma_ck 70 = (3, 48, 1) := rfl
theorem ma_ck_71 : ma_ck 71 = (0, 48, 1) := rfl
theorem ma_ck_72 : ma_ck 72 = (0, 48, 1) := rfl
theorem ma_ck_73 : ma_ck 73 = (0, 48, 1) := rfl
theorem ma_ck_74 : ma_ck 74 = (0, 48, 1) := rfl
theorem ma_ck_75 : ma_ck 75 = (0, 48, 1) := rfl
theorem ma_ck_76 : ma_ck 76 = (0, 6, 1) := rfl
theorem ma_ck_77 : ma_ck 77 = (2, 48, 1) := rfl
theorem ma_ck_78 : ma_ck 78 = (1, 336, 1) := rfl
theorem ma_ck_79 : ma_ck 79 = (0, 48, 1) := rfl
theorem ma_ck_80 : ma_ck 80 = (0, 48, 1) := rfl
theorem ma_ck_81 : ma_ck 81 = (0, 48, 1) := rfl
theorem ma_ck_82 : ma_ck 82 = (2, 48, 1) := rfl
theorem ma_ck_83 : ma_ck 83 = (0, 48, 1) := rfl
theorem ma_ck_84 : ma_ck 84 = (0, 48, 1) := rfl
theorem ma_ck_85 : ma_ck 85 = (0, 48, 1) := rfl
theorem ma_ck_86 : ma_ck 86 = (0, 48, 1) := rfl
theorem ma_ck_87 : ma_ck 87 = (0, 48, 1) := rfl
theorem ma_ck_88 : ma_ck 88 = (0, 192, 1) := rfl
theorem ma_ck_89 : ma_ck 89 = (0, 36, 1) := rfl
theorem ma_ck_90 : ma_ck 90 = (2, 48, 1) := rfl
theorem ma_ck_91 : ma_ck 91 = (2, 4032, 1) := rfl
theorem ma_ck_92 : ma_ck 92 = (2, 48, 1) := rfl
theorem ma_ck_93 : ma_ck 93 = (2, 2352, 1) := rfl
theorem ma_ck_94 : ma_ck 94 = (2, 2352, 1) := rfl
theorem ma_ck_95 : ma_ck 95 = (0, 2352, 1) := rfl
theorem ma_ck_96 : ma_ck 96 = (0, 84, 1) := rfl
theorem ma_ck_97 : ma_ck 97 = (0, 84, 1) := rfl
theorem ma_ck_98 : ma_ck 98 = (0, 49, 1) := rfl
theorem ma_ck_99 : ma_ck 99 = (0, 49, 1) := rfl
theorem ma_ck_100 : ma_ck 100 = (2, 49, 1) := rfl
theorem ma_ck_101 : ma_ck 101 = (0, 504, 1) := rfl
theorem ma_ck_102 : ma_ck 102 = (0, 504, 1) := rfl
theorem ma_ck_103 : ma_ck 103 = (2, 48, 1) := rfl
theorem ma_ck_104 : ma_ck 104 = (2, 36, 1) := rfl
theorem ma_ck_105 : ma_ck 105 = (2, 6, 1) := rfl
theorem ma_ck_106 : ma_ck 106 = (2, 48, 1) := rfl
theorem ma_ck_107 : ma_ck 107 = (2, 36, 1) := rfl
theorem ma_ck_108 : ma_ck 108 = (2, 36, 1) := rfl
theorem ma_ck_109 : ma_ck 109 = (0, 168, 1) := rfl
theorem ma_ck_110 : ma_ck 110 = (0, 7, 1) := rfl
theorem ma_ck_111 : ma_ck 111 = (1, 1, 1) := rfl
theorem ma_ck_112 : ma_ck 112 = (4, 1, 1) := rfl
/-- the methods: class, name, descriptor; bytes, locals, answer; how many arguments beside the object; is it static; handlers; cells that it may make where it returns -/
abbrev ma_MT : Type := MethodName × ByteArray × Nat × Option FieldType × Nat × Bool × Nat
def ma_mt_0 : List ma_MT := [(⟨"Latticefit", "isRouted", "()Z"⟩, prog_1_method_21_code, 1, (Option.some FieldType.boolean), 0, false, 2),
  (⟨"Latticefit", "isConsistent", "()Z"⟩, prog_1_method_42_code, 1, (Option.some FieldType.boolean), 0, false, 2),
  (⟨"Latticefit$Circuit", "isSound", "()Z"⟩, prog_5_method_9_code, 2, (Option.some FieldType.boolean), 0, false, 2),
  (⟨"Latticefit$Circuit", "isGate", "(I)Z"⟩, prog_5_method_3_code, 2, (Option.some FieldType.boolean), 1, false, 2),
  (⟨"Latticefit$Circuit", "isNode", "(I)Z"⟩, prog_5_method_2_code, 2, (Option.some FieldType.boolean), 1, false, 2),
  (⟨"Latticefit$Places", "isSound", "()Z"⟩, prog_8_method_21_code, 4, (Option.some FieldType.boolean), 0, false, 2),
  (⟨"Latticefit$Routes", "isCrowded", "()Z"⟩, prog_9_method_5_code, 2, (Option.some FieldType.boolean), 0, false, 2),
  (⟨"LatticefitLaw", "addInput", "(LLatticefit;[J)I"⟩, method_3_code, 3, (Option.some FieldType.int), 2, true, 1),
  (⟨"Latticefit", "addInput", "()I"⟩, prog_1_method_2_code, 1, (Option.some FieldType.int), 0, false, 1),
  (⟨"Latticefit$Circuit", "putInput", "()I"⟩, prog_5_method_4_code, 1, (Option.some FieldType.int), 0, false, 1),
  (⟨"LatticefitLaw", "addRegister", "(LLatticefit;ZI[J)I"⟩, method_4_code, 5, (Option.some FieldType.int), 4, true, 1),
  (⟨"Latticefit", "addRegister", "(ZI)I"⟩, prog_1_method_3_code, 3, (Option.some FieldType.int), 2, false, 1),
  (⟨"Latticefit$Circuit", "putRegister", "(ZI)I"⟩, prog_5_method_5_code, 3, (Option.some FieldType.int), 2, false, 1),
  (⟨"LatticefitLaw", "addGate", "(LLatticefit;CII[J)I"⟩, method_5_code, 6, (Option.some FieldType.int), 5, true, 1),
  (⟨"Latticefit", "addGate", "(CII)I"⟩, prog_1_method_4_code, 4, (Option.some FieldType.int), 3, false, 1),
  (⟨"Latticefit$Circuit", "putGate", "(CII)I"⟩, prog_5_method_6_code, 4, (Option.some FieldType.int), 3, false, 1),
  (⟨"LatticefitLaw", "feed", "(LLatticefit;II[J)I"⟩, method_6_code, 5, (Option.some FieldType.int), 4, true, 1),
  (⟨"Latticefit", "feed", "(II)I"⟩, prog_1_method_5_code, 4, (Option.some FieldType.int), 2, false, 1),
  (⟨"LatticefitLaw", "addOutput", "(LLatticefit;I[J)I"⟩, method_7_code, 4, (Option.some FieldType.int), 3, true, 1),
  (⟨"Latticefit", "addOutput", "(I)I"⟩, prog_1_method_6_code, 2, (Option.some FieldType.int), 1, false, 1),
  (⟨"Latticefit$Circuit", "putOutput", "(I)I"⟩, prog_5_method_7_code, 2, (Option.some FieldType.int), 1, false, 1),
  (⟨"LatticefitLaw", "kindOf", "(LLatticefit;I[J)I"⟩, method_8_code, 4, (Option.some FieldType.int), 3, true, 1),
  (⟨"Latticefit", "kindOf", "(I)C"⟩, prog_1_method_7_code, 2, (Option.some FieldType.char), 1, false, 3),
  (⟨"LatticefitLaw", "map", "(LLatticefit;[J)I"⟩, method_9_code, 3, (Option.some FieldType.int), 2, true, 1),
  (⟨"Latticefit", "map", "()I"⟩, prog_1_method_8_code, 1, (Option.some FieldType.int), 0, false, 1),
  (⟨"Latticefit$Cuts", "findAll", "()V"⟩, prog_6_method_2_code, 2, (Option.none : Option FieldType), 0, false, 0),
  (⟨"Latticefit$Cuts", "offerAll", "(I)V"⟩, prog_6_method_4_code, 7, (Option.none : Option FieldType), 1, false, 0),
  (⟨"Latticefit$Cuts", "offer", "(IJI)V"⟩, prog_6_method_5_code, 8, (Option.none : Option FieldType), 3, false, 0),
  (⟨"java/lang/Long", "bitCount", "(J)I"⟩, prog_24_method_50_code, 2, (Option.some FieldType.int), 1, true, 1),
  (⟨"Latticefit$Cuts", "isBehind", "(IIJI)Z"⟩, prog_6_method_6_code, 8, (Option.some FieldType.boolean), 4, false, 2),
  (⟨"Latticefit$Blocks", "pack", "(LLatticefit$Cuts;)V"⟩, prog_2_method_2_code, 3, (Option.none : Option FieldType), 1, false, 0),
  (⟨"Latticefit$Blocks", "markNeeded", "(LLatticefit$Cuts;)V"⟩, prog_2_method_3_code, 4, (Option.none : Option FieldType), 1, false, 0),
  (⟨"Latticefit$Cuts", "own", "(I)J"⟩, prog_6_method_3_code, 2, (Option.some FieldType.long), 1, false, 4),
  (⟨"Latticefit$Blocks", "markCut", "(JI)V"⟩, prog_2_method_4_code, 5, (Option.none : Option FieldType), 2, false, 0),
  (⟨"Latticefit$Blocks", "isIn", "(JI)Z"⟩, prog_2_method_7_code, 3, (Option.some FieldType.boolean), 2, true, 2),
  (⟨"java/util/Arrays", "fill", "([II)V"⟩, prog_34_method_103_code, 4, (Option.none : Option FieldType), 2, true, 0),
  (⟨"Latticefit$Blocks", "putRegister", "(ILLatticefit$Cuts;)V"⟩, prog_2_method_5_code, 4, (Option.none : Option FieldType), 2, false, 0),
  (⟨"Latticefit$Blocks", "putGate", "(IJ)V"⟩, prog_2_method_6_code, 6, (Option.none : Option FieldType), 2, false, 0),
  (⟨"Latticefit$Circuit", "joined", "(I[I)I"⟩, prog_5_method_8_code, 6, (Option.some FieldType.int), 2, false, 1),
  (⟨"Latticefit$Places", "putAnew", "()V"⟩, prog_8_method_2_code, 2, (Option.none : Option FieldType), 0, false, 0)]
def ma_mt_1 : List ma_MT := [(⟨"Latticefit$Routes", "clear", "()V"⟩, prog_9_method_2_code, 2, (Option.none : Option FieldType), 0, false, 0),
  (⟨"java/util/Arrays", "fill", "([JJ)V"⟩, prog_34_method_101_code, 5, (Option.none : Option FieldType), 2, true, 0),
  (⟨"LatticefitLaw", "depth", "(LLatticefit;I[J)I"⟩, method_10_code, 4, (Option.some FieldType.int), 3, true, 1),
  (⟨"Latticefit", "depth", "(I)I"⟩, prog_1_method_9_code, 2, (Option.some FieldType.int), 1, false, 1),
  (⟨"LatticefitLaw", "isNeeded", "(LLatticefit;I[J)I"⟩, method_11_code, 4, (Option.some FieldType.int), 3, true, 1),
  (⟨"Latticefit", "isNeeded", "(I)Z"⟩, prog_1_method_10_code, 2, (Option.some FieldType.boolean), 1, false, 2),
  (⟨"LatticefitLaw", "word", "(LLatticefit;I[J)I"⟩, method_12_code, 4, (Option.some FieldType.int), 3, true, 1),
  (⟨"Latticefit", "word", "(I)I"⟩, prog_1_method_11_code, 2, (Option.some FieldType.int), 1, false, 1),
  (⟨"Latticefit", "needBlock", "(I)V"⟩, prog_1_method_44_code, 2, (Option.none : Option FieldType), 1, false, 0),
  (⟨"LatticefitLaw", "inputOf", "(LLatticefit;II[J)I"⟩, method_13_code, 5, (Option.some FieldType.int), 4, true, 1),
  (⟨"Latticefit", "inputOf", "(II)I"⟩, prog_1_method_12_code, 3, (Option.some FieldType.int), 2, false, 1),
  (⟨"LatticefitLaw", "gateOf", "(LLatticefit;I[J)I"⟩, method_14_code, 4, (Option.some FieldType.int), 3, true, 1),
  (⟨"Latticefit", "gateOf", "(I)I"⟩, prog_1_method_13_code, 2, (Option.some FieldType.int), 1, false, 1),
  (⟨"LatticefitLaw", "registerOf", "(LLatticefit;I[J)I"⟩, method_15_code, 4, (Option.some FieldType.int), 3, true, 1),
  (⟨"Latticefit", "registerOf", "(I)I"⟩, prog_1_method_14_code, 2, (Option.some FieldType.int), 1, false, 1),
  (⟨"LatticefitLaw", "fix", "(LLatticefit;II[J)I"⟩, method_16_code, 5, (Option.some FieldType.int), 4, true, 1),
  (⟨"Latticefit", "fix", "(II)I"⟩, prog_1_method_15_code, 3, (Option.some FieldType.int), 2, false, 1),
  (⟨"Latticefit", "isCell", "(I)Z"⟩, prog_1_method_47_code, 1, (Option.some FieldType.boolean), 1, true, 2),
  (⟨"Latticefit$Places", "holdsFixed", "(I)Z"⟩, prog_8_method_3_code, 2, (Option.some FieldType.boolean), 1, false, 2),
  (⟨"Latticefit$Places", "exchange", "(II)V"⟩, prog_8_method_4_code, 4, (Option.none : Option FieldType), 2, false, 0),
  (⟨"Latticefit$Places", "findLengths", "()I"⟩, prog_8_method_12_code, 3, (Option.some FieldType.int), 0, false, 1),
  (⟨"Latticefit$Places", "sourceCrossing", "(I)I"⟩, prog_8_method_8_code, 2, (Option.some FieldType.int), 1, false, 1),
  (⟨"Latticefit$Places", "cellOfNode", "(I)I"⟩, prog_8_method_5_code, 3, (Option.some FieldType.int), 1, false, 1),
  (⟨"Latticefit$Places", "crossingAt", "(I)I"⟩, prog_8_method_6_code, 1, (Option.some FieldType.int), 1, true, 1),
  (⟨"Latticefit$Places", "stretchTo", "(II)V"⟩, prog_8_method_13_code, 5, (Option.none : Option FieldType), 2, false, 0),
  (⟨"Latticefit$Places", "crossingOfOutput", "(I)I"⟩, prog_8_method_7_code, 1, (Option.some FieldType.int), 1, true, 1),
  (⟨"Latticefit$Places", "lengthOf", "(I)I"⟩, prog_8_method_14_code, 2, (Option.some FieldType.int), 1, false, 1),
  (⟨"LatticefitLaw", "anneal", "(LLatticefit;III[J)I"⟩, method_17_code, 6, (Option.some FieldType.int), 5, true, 1),
  (⟨"Latticefit", "anneal", "(III)I"⟩, prog_1_method_16_code, 5, (Option.some FieldType.int), 3, false, 1),
  (⟨"Latticefit", "needStage", "(I)V"⟩, prog_1_method_43_code, 2, (Option.none : Option FieldType), 1, false, 0),
  (⟨"Latticefit$Places", "swapByChance", "(III)I"⟩, prog_8_method_16_code, 11, (Option.some FieldType.int), 3, false, 1),
  (⟨"Latticefit$Places", "nextChance", "(J)J"⟩, prog_8_method_17_code, 2, (Option.some FieldType.long), 1, true, 4),
  (⟨"Latticefit$Places", "cellTold", "(J)I"⟩, prog_8_method_18_code, 2, (Option.some FieldType.int), 1, true, 1),
  (⟨"Latticefit$Places", "maySwap", "(II)Z"⟩, prog_8_method_19_code, 3, (Option.some FieldType.boolean), 2, false, 2),
  (⟨"Latticefit$Places", "swapIfGood", "(III)Z"⟩, prog_8_method_20_code, 6, (Option.some FieldType.boolean), 3, false, 2),
  (⟨"Latticefit$Places", "clockExcess", "()I"⟩, prog_8_method_15_code, 3, (Option.some FieldType.int), 0, false, 1),
  (⟨"java/lang/Integer", "bitCount", "(I)I"⟩, prog_23_method_49_code, 1, (Option.some FieldType.int), 1, true, 1),
  (⟨"LatticefitLaw", "cellOf", "(LLatticefit;I[J)I"⟩, method_18_code, 4, (Option.some FieldType.int), 3, true, 1),
  (⟨"Latticefit", "cellOf", "(I)I"⟩, prog_1_method_17_code, 2, (Option.some FieldType.int), 1, false, 1),
  (⟨"LatticefitLaw", "cost", "(LLatticefit;[J)I"⟩, method_19_code, 3, (Option.some FieldType.int), 2, true, 1)]
def ma_mt_2 : List ma_MT := [(⟨"Latticefit", "cost", "()I"⟩, prog_1_method_18_code, 1, (Option.some FieldType.int), 0, false, 1),
  (⟨"LatticefitLaw", "excess", "(LLatticefit;[J)I"⟩, method_20_code, 3, (Option.some FieldType.int), 2, true, 1),
  (⟨"Latticefit", "excess", "()I"⟩, prog_1_method_19_code, 1, (Option.some FieldType.int), 0, false, 1),
  (⟨"LatticefitLaw", "route", "(LLatticefit;I[J)I"⟩, method_21_code, 4, (Option.some FieldType.int), 3, true, 1),
  (⟨"Latticefit", "route", "(I)I"⟩, prog_1_method_20_code, 3, (Option.some FieldType.int), 1, false, 1),
  (⟨"Latticefit$Places", "putPins", "(LLatticefit$Routes;)V"⟩, prog_8_method_11_code, 4, (Option.none : Option FieldType), 1, false, 0),
  (⟨"Latticefit$Routes", "addSink", "(II)V"⟩, prog_9_method_3_code, 3, (Option.none : Option FieldType), 2, false, 0),
  (⟨"Latticefit$Routes", "makeRounds", "(I)I"⟩, prog_9_method_4_code, 4, (Option.some FieldType.int), 1, false, 1),
  (⟨"Latticefit$Routes", "giveUp", "(I)V"⟩, prog_9_method_7_code, 4, (Option.none : Option FieldType), 1, false, 0),
  (⟨"Latticefit", "isEdge", "(I)Z"⟩, prog_1_method_48_code, 1, (Option.some FieldType.boolean), 1, true, 2),
  (⟨"Latticefit$Routes", "layTree", "(I)V"⟩, prog_9_method_8_code, 3, (Option.none : Option FieldType), 1, false, 0),
  (⟨"Latticefit$Routes", "isInTree", "(II)Z"⟩, prog_9_method_9_code, 3, (Option.some FieldType.boolean), 2, false, 2),
  (⟨"Latticefit$Routes", "addWay", "(II)V"⟩, prog_9_method_10_code, 5, (Option.none : Option FieldType), 2, false, 0),
  (⟨"Latticefit$Routes", "openTree", "(I)V"⟩, prog_9_method_11_code, 3, (Option.none : Option FieldType), 1, false, 0),
  (⟨"Latticefit$Routes", "takeCheapest", "()I"⟩, prog_9_method_12_code, 4, (Option.some FieldType.int), 0, false, 1),
  (⟨"Latticefit$Routes", "openNeighbours", "(I)V"⟩, prog_9_method_13_code, 5, (Option.none : Option FieldType), 1, false, 0),
  (⟨"Latticefit$Routes", "offerWay", "(III)V"⟩, prog_9_method_14_code, 5, (Option.none : Option FieldType), 3, false, 0),
  (⟨"Latticefit$Routes", "tollOf", "(I)I"⟩, prog_9_method_15_code, 3, (Option.some FieldType.int), 1, false, 1),
  (⟨"Latticefit$Routes", "takeWay", "(II)V"⟩, prog_9_method_16_code, 6, (Option.none : Option FieldType), 2, false, 0),
  (⟨"Latticefit$Routes", "otherEnd", "(II)I"⟩, prog_9_method_18_code, 4, (Option.some FieldType.int), 2, true, 1),
  (⟨"Latticefit$Routes", "lowEnd", "(I)I"⟩, prog_9_method_17_code, 2, (Option.some FieldType.int), 1, true, 1),
  (⟨"Latticefit$Routes", "raisePrices", "()V"⟩, prog_9_method_6_code, 2, (Option.none : Option FieldType), 0, false, 0),
  (⟨"LatticefitLaw", "netsOn", "(LLatticefit;I[J)I"⟩, method_22_code, 4, (Option.some FieldType.int), 3, true, 1),
  (⟨"Latticefit", "netsOn", "(I)I"⟩, prog_1_method_22_code, 2, (Option.some FieldType.int), 1, false, 1),
  (⟨"LatticefitLaw", "wireOf", "(LLatticefit;II[J)I"⟩, method_23_code, 5, (Option.some FieldType.int), 4, true, 1),
  (⟨"Latticefit", "wireOf", "(II)I"⟩, prog_1_method_23_code, 3, (Option.some FieldType.int), 2, false, 1),
  (⟨"Latticefit$Routes", "has", "(II)Z"⟩, prog_9_method_19_code, 4, (Option.some FieldType.boolean), 2, false, 2),
  (⟨"Latticefit$Routes", "wire", "(II)I"⟩, prog_9_method_21_code, 5, (Option.some FieldType.int), 2, false, 1),
  (⟨"LatticefitLaw", "timeOf", "(LLatticefit;I[J)I"⟩, method_24_code, 4, (Option.some FieldType.int), 3, true, 1),
  (⟨"Latticefit", "timeOf", "(I)I"⟩, prog_1_method_24_code, 2, (Option.some FieldType.int), 1, false, 1),
  (⟨"Latticefit$Times", "findAll", "()V"⟩, prog_11_method_2_code, 4, (Option.none : Option FieldType), 0, false, 0),
  (⟨"Latticefit$Times", "ofTable", "(I)I"⟩, prog_11_method_3_code, 5, (Option.some FieldType.int), 1, false, 1),
  (⟨"Latticefit$Times", "arrival", "(II)I"⟩, prog_11_method_4_code, 3, (Option.some FieldType.int), 2, false, 1),
  (⟨"Latticefit$Routes", "wayTo", "(II)I"⟩, prog_9_method_22_code, 5, (Option.some FieldType.int), 2, false, 1),
  (⟨"LatticefitLaw", "slowest", "(LLatticefit;[J)I"⟩, method_25_code, 3, (Option.some FieldType.int), 2, true, 1),
  (⟨"Latticefit", "slowest", "()I"⟩, prog_1_method_25_code, 1, (Option.some FieldType.int), 0, false, 1),
  (⟨"Latticefit$Times", "latest", "()I"⟩, prog_11_method_5_code, 4, (Option.some FieldType.int), 0, false, 1),
  (⟨"LatticefitLaw", "worstStretch", "(LLatticefit;[D)I"⟩, method_26_code, 3, (Option.some FieldType.int), 2, true, 1),
  (⟨"Latticefit", "worstStretch", "()D"⟩, prog_1_method_26_code, 7, (Option.some FieldType.double), 0, false, 6),
  (⟨"Latticefit$Routes", "edgesOf", "(I)I"⟩, prog_9_method_20_code, 4, (Option.some FieldType.int), 1, false, 1)]
def ma_mt_3 : List ma_MT := [(⟨"LatticefitLaw", "build", "(LLatticefit;[J)I"⟩, method_27_code, 3, (Option.some FieldType.int), 2, true, 1),
  (⟨"Latticefit", "build", "()I"⟩, prog_1_method_27_code, 1, (Option.some FieldType.int), 0, false, 1),
  (⟨"Latticefit$Builder", "fillFrames", "()V"⟩, prog_3_method_2_code, 3, (Option.none : Option FieldType), 0, false, 0),
  (⟨"Latticefit$Frames", "clear", "()V"⟩, prog_7_method_3_code, 2, (Option.none : Option FieldType), 0, false, 0),
  (⟨"Latticefit$Builder", "putBlock", "(I)V"⟩, prog_3_method_3_code, 5, (Option.none : Option FieldType), 1, false, 0),
  (⟨"Latticefit$Frames", "putCellWord", "(III)V"⟩, prog_7_method_8_code, 4, (Option.none : Option FieldType), 3, false, 0),
  (⟨"Latticefit$Builder", "codeAt", "(II)I"⟩, prog_3_method_5_code, 4, (Option.some FieldType.int), 2, false, 1),
  (⟨"Latticefit$Places", "sourceCode", "(I)I"⟩, prog_8_method_9_code, 3, (Option.some FieldType.int), 1, false, 1),
  (⟨"Latticefit$Builder", "putNet", "(I)V"⟩, prog_3_method_4_code, 5, (Option.none : Option FieldType), 1, false, 0),
  (⟨"Latticefit$Frames", "putWireWord", "(II)V"⟩, prog_7_method_10_code, 4, (Option.none : Option FieldType), 2, false, 0),
  (⟨"Latticefit$Frames", "frameOfEdge", "(I)I"⟩, prog_7_method_12_code, 1, (Option.some FieldType.int), 1, true, 1),
  (⟨"Latticefit$Frames", "indexOfEdge", "(I)I"⟩, prog_7_method_13_code, 4, (Option.some FieldType.int), 1, true, 1),
  (⟨"Latticefit$Frames", "wordsInUse", "()I"⟩, prog_7_method_5_code, 4, (Option.some FieldType.int), 0, false, 1),
  (⟨"LatticefitLaw", "wordAt", "(LLatticefit;II[J)I"⟩, method_28_code, 5, (Option.some FieldType.int), 4, true, 1),
  (⟨"Latticefit", "wordAt", "(II)I"⟩, prog_1_method_28_code, 3, (Option.some FieldType.int), 2, false, 1),
  (⟨"Latticefit", "needFrame", "(II)V"⟩, prog_1_method_45_code, 3, (Option.none : Option FieldType), 2, false, 0),
  (⟨"Latticefit$Frames", "lengthOf", "(I)I"⟩, prog_7_method_2_code, 2, (Option.some FieldType.int), 1, true, 1),
  (⟨"LatticefitLaw", "check", "(LLatticefit;I[J)I"⟩, method_29_code, 4, (Option.some FieldType.int), 3, true, 1),
  (⟨"Latticefit", "check", "(I)I"⟩, prog_1_method_29_code, 2, (Option.some FieldType.int), 1, false, 1),
  (⟨"Latticefit$Frames", "sumOf", "(I)I"⟩, prog_7_method_6_code, 5, (Option.some FieldType.int), 1, false, 1),
  (⟨"LatticefitLaw", "start", "(LLatticefit;[J)I"⟩, method_30_code, 3, (Option.some FieldType.int), 2, true, 1),
  (⟨"Latticefit", "start", "()I"⟩, prog_1_method_30_code, 3, (Option.some FieldType.int), 0, false, 1),
  (⟨"Latticefit$Chip", "reset", "(LLatticefit$Frames;)V"⟩, prog_4_method_2_code, 3, (Option.none : Option FieldType), 1, false, 0),
  (⟨"Latticefit$Frames", "copyFrame", "(LLatticefit$Frames;I)V"⟩, prog_7_method_4_code, 3, (Option.none : Option FieldType), 2, false, 0),
  (⟨"Latticefit$Runner", "reset", "()V"⟩, prog_10_method_2_code, 2, (Option.none : Option FieldType), 0, false, 0),
  (⟨"LatticefitLaw", "setInput", "(LLatticefit;IZ[J)I"⟩, method_31_code, 5, (Option.some FieldType.int), 4, true, 1),
  (⟨"Latticefit", "setInput", "(IZ)Z"⟩, prog_1_method_31_code, 4, (Option.some FieldType.boolean), 2, false, 2),
  (⟨"LatticefitLaw", "tick", "(LLatticefit;I[J)I"⟩, method_32_code, 4, (Option.some FieldType.int), 3, true, 1),
  (⟨"Latticefit", "tick", "(I)J"⟩, prog_1_method_32_code, 2, (Option.some FieldType.long), 1, false, 4),
  (⟨"Latticefit$Runner", "takeTick", "(I[I)V"⟩, prog_10_method_5_code, 5, (Option.none : Option FieldType), 2, false, 0),
  (⟨"Latticefit$Runner", "findValues", "([I)V"⟩, prog_10_method_3_code, 3, (Option.none : Option FieldType), 1, false, 0),
  (⟨"Latticefit$Chip", "takeTick", "(I)V"⟩, prog_4_method_8_code, 4, (Option.none : Option FieldType), 1, false, 0),
  (⟨"Latticefit$Chip", "findTables", "()V"⟩, prog_4_method_3_code, 3, (Option.none : Option FieldType), 0, false, 0),
  (⟨"Latticefit$Chip", "findEnds", "()V"⟩, prog_4_method_4_code, 3, (Option.none : Option FieldType), 0, false, 0),
  (⟨"Latticefit$Frames", "cellWord", "(II)I"⟩, prog_7_method_7_code, 3, (Option.some FieldType.int), 2, false, 1),
  (⟨"Latticefit$Frames", "endOf", "(I)I"⟩, prog_7_method_14_code, 4, (Option.some FieldType.int), 1, false, 1),
  (⟨"Latticefit$Frames", "isWire", "(I)Z"⟩, prog_7_method_11_code, 1, (Option.some FieldType.boolean), 1, true, 2),
  (⟨"Latticefit$Frames", "wireWord", "(I)I"⟩, prog_7_method_9_code, 3, (Option.some FieldType.int), 1, false, 1),
  (⟨"Latticefit$Chip", "renewTables", "()Z"⟩, prog_4_method_5_code, 5, (Option.some FieldType.boolean), 0, false, 2),
  (⟨"Latticefit$Chip", "valueOfEnd", "(I[I)I"⟩, prog_4_method_6_code, 4, (Option.some FieldType.int), 2, false, 1)]
def ma_mt_4 : List ma_MT := [(⟨"LatticefitLaw", "circuitOutput", "(LLatticefit;I[J)I"⟩, method_33_code, 4, (Option.some FieldType.int), 3, true, 1),
  (⟨"Latticefit", "circuitOutput", "(I)Z"⟩, prog_1_method_33_code, 2, (Option.some FieldType.boolean), 1, false, 2),
  (⟨"Latticefit", "needOutput", "(I)V"⟩, prog_1_method_46_code, 2, (Option.none : Option FieldType), 1, false, 0),
  (⟨"Latticefit$Runner", "outputValue", "(I)I"⟩, prog_10_method_4_code, 2, (Option.some FieldType.int), 1, false, 1),
  (⟨"LatticefitLaw", "chipOutput", "(LLatticefit;I[J)I"⟩, method_34_code, 4, (Option.some FieldType.int), 3, true, 1),
  (⟨"Latticefit", "chipOutput", "(I)Z"⟩, prog_1_method_34_code, 2, (Option.some FieldType.boolean), 1, false, 2),
  (⟨"Latticefit$Chip", "outputValue", "(I)I"⟩, prog_4_method_7_code, 2, (Option.some FieldType.int), 1, false, 1),
  (⟨"LatticefitLaw", "chipRegister", "(LLatticefit;I[J)I"⟩, method_35_code, 4, (Option.some FieldType.int), 3, true, 1),
  (⟨"Latticefit", "chipRegister", "(I)Z"⟩, prog_1_method_35_code, 2, (Option.some FieldType.boolean), 1, false, 2),
  (⟨"LatticefitLaw", "sourceOf", "(LLatticefit;II[J)I"⟩, method_36_code, 5, (Option.some FieldType.int), 4, true, 1),
  (⟨"Latticefit", "sourceOf", "(II)I"⟩, prog_1_method_36_code, 4, (Option.some FieldType.int), 2, false, 1),
  (⟨"Latticefit$Places", "nodeOfCode", "(I)I"⟩, prog_8_method_10_code, 3, (Option.some FieldType.int), 1, false, 1),
  (⟨"LatticefitLaw", "flip", "(LLatticefit;III[J)I"⟩, method_37_code, 6, (Option.some FieldType.int), 5, true, 1),
  (⟨"Latticefit", "flip", "(III)I"⟩, prog_1_method_37_code, 4, (Option.some FieldType.int), 3, false, 1),
  (⟨"LatticefitLaw", "isBad", "(LLatticefit;I[J)I"⟩, method_38_code, 4, (Option.some FieldType.int), 3, true, 1),
  (⟨"Latticefit", "isBad", "(I)Z"⟩, prog_1_method_38_code, 2, (Option.some FieldType.boolean), 1, false, 2),
  (⟨"LatticefitLaw", "scrub", "(LLatticefit;[J)I"⟩, method_39_code, 3, (Option.some FieldType.int), 2, true, 1),
  (⟨"Latticefit", "scrub", "()I"⟩, prog_1_method_39_code, 3, (Option.some FieldType.int), 0, false, 1),
  (⟨"LatticefitLaw", "agrees", "(LLatticefit;[J)I"⟩, method_40_code, 3, (Option.some FieldType.int), 2, true, 1),
  (⟨"Latticefit", "agrees", "()Z"⟩, prog_1_method_40_code, 3, (Option.some FieldType.boolean), 0, false, 2),
  (⟨"LatticefitLaw", "fill", "(LLatticefit;[D)I"⟩, method_41_code, 3, (Option.some FieldType.int), 2, true, 1),
  (⟨"Latticefit", "fill", "()F"⟩, prog_1_method_41_code, 3, (Option.some FieldType.float), 0, false, 5),
  (⟨"LatticefitModel", "column", "(I)I"⟩, prog_13_method_69_code, 1, (Option.some FieldType.int), 1, true, 1),
  (⟨"LatticefitModel", "low", "(I)I"⟩, prog_13_method_50_code, 1, (Option.some FieldType.int), 1, true, 1),
  (⟨"LatticefitModel", "thrown", "()I"⟩, prog_13_method_2_code, 1, (Option.some FieldType.int), 0, false, 1),
  (⟨"LatticefitModel", "addInput", "()I"⟩, prog_13_method_9_code, 1, (Option.some FieldType.int), 0, false, 1),
  (⟨"LatticefitModel", "isThrown", "(ZI)Z"⟩, prog_13_method_4_code, 3, (Option.some FieldType.boolean), 2, false, 2),
  (⟨"LatticefitModel", "newNode", "(C)I"⟩, prog_13_method_6_code, 2, (Option.some FieldType.int), 1, false, 1),
  (⟨"LatticefitModel", "changes", "()V"⟩, prog_13_method_7_code, 2, (Option.none : Option FieldType), 0, false, 0),
  (⟨"LatticefitModel", "unroutes", "()V"⟩, prog_13_method_8_code, 1, (Option.none : Option FieldType), 0, false, 0),
  (⟨"LatticefitModel", "addRegister", "(ZI)I"⟩, prog_13_method_10_code, 3, (Option.some FieldType.int), 2, false, 1),
  (⟨"LatticefitModel", "isIn", "(III)Z"⟩, prog_13_method_3_code, 3, (Option.some FieldType.boolean), 3, true, 2),
  (⟨"LatticefitModel", "addGate", "(CII)I"⟩, prog_13_method_11_code, 5, (Option.some FieldType.int), 3, false, 1),
  (⟨"LatticefitModel", "feed", "(II)I"⟩, prog_13_method_12_code, 4, (Option.some FieldType.int), 2, false, 1),
  (⟨"LatticefitModel", "addOutput", "(I)I"⟩, prog_13_method_13_code, 2, (Option.some FieldType.int), 1, false, 1),
  (⟨"LatticefitModel", "isNo", "(II)Z"⟩, prog_13_method_5_code, 3, (Option.some FieldType.boolean), 2, false, 2),
  (⟨"LatticefitModel", "kindOf", "(I)C"⟩, prog_13_method_14_code, 2, (Option.some FieldType.char), 1, false, 3),
  (⟨"LatticefitModel", "map", "()I"⟩, prog_13_method_27_code, 3, (Option.some FieldType.int), 0, false, 1),
  (⟨"LatticefitModel", "blocksThen", "()I"⟩, prog_13_method_26_code, 5, (Option.some FieldType.int), 0, false, 1),
  (⟨"LatticefitModel", "neededGates", "()I"⟩, prog_13_method_25_code, 3, (Option.some FieldType.int), 0, false, 1)]
def ma_mt_5 : List ma_MT := [(⟨"LatticefitModel", "findsCuts", "(I)V"⟩, prog_13_method_19_code, 4, (Option.none : Option FieldType), 1, false, 0),
  (⟨"LatticefitModel", "isGate", "(I)Z"⟩, prog_13_method_15_code, 2, (Option.some FieldType.boolean), 1, false, 2),
  (⟨"LatticefitModel", "offers", "(IJ)V"⟩, prog_13_method_18_code, 8, (Option.none : Option FieldType), 2, false, 0),
  (⟨"LatticefitModel", "isBetter", "(JJ)Z"⟩, prog_13_method_17_code, 7, (Option.some FieldType.boolean), 2, false, 2),
  (⟨"LatticefitModel", "depthOf", "(J)I"⟩, prog_13_method_16_code, 5, (Option.some FieldType.int), 1, false, 1),
  (⟨"LatticefitModel", "needs", "(I)V"⟩, prog_13_method_20_code, 3, (Option.none : Option FieldType), 1, false, 0),
  (⟨"LatticefitModel", "newBlock", "(II)I"⟩, prog_13_method_24_code, 3, (Option.some FieldType.int), 2, false, 1),
  (⟨"LatticefitModel", "tabled", "(IJI)V"⟩, prog_13_method_23_code, 8, (Option.none : Option FieldType), 3, false, 0),
  (⟨"LatticefitModel", "valueIn", "(IJI)Z"⟩, prog_13_method_22_code, 5, (Option.some FieldType.boolean), 3, false, 2),
  (⟨"LatticefitModel", "of", "(IZZ)Z"⟩, prog_13_method_21_code, 4, (Option.some FieldType.boolean), 3, false, 2),
  (⟨"LatticefitModel", "depth", "(I)I"⟩, prog_13_method_29_code, 2, (Option.some FieldType.int), 1, false, 1),
  (⟨"LatticefitModel", "isUnmapped", "(II)Z"⟩, prog_13_method_28_code, 3, (Option.some FieldType.boolean), 2, false, 2),
  (⟨"LatticefitModel", "isNeeded", "(I)Z"⟩, prog_13_method_30_code, 2, (Option.some FieldType.boolean), 1, false, 2),
  (⟨"LatticefitModel", "word", "(I)I"⟩, prog_13_method_32_code, 2, (Option.some FieldType.int), 1, false, 1),
  (⟨"LatticefitModel", "isNoBlock", "(I)Z"⟩, prog_13_method_31_code, 2, (Option.some FieldType.boolean), 1, false, 2),
  (⟨"LatticefitModel", "inputOf", "(II)I"⟩, prog_13_method_33_code, 3, (Option.some FieldType.int), 2, false, 1),
  (⟨"LatticefitModel", "gateOf", "(I)I"⟩, prog_13_method_34_code, 2, (Option.some FieldType.int), 1, false, 1),
  (⟨"LatticefitModel", "registerOf", "(I)I"⟩, prog_13_method_35_code, 2, (Option.some FieldType.int), 1, false, 1),
  (⟨"LatticefitModel", "fix", "(II)I"⟩, prog_13_method_44_code, 3, (Option.some FieldType.int), 2, false, 1),
  (⟨"LatticefitModel", "exchanges", "(II)V"⟩, prog_13_method_43_code, 4, (Option.none : Option FieldType), 2, false, 0),
  (⟨"LatticefitModel", "costNow", "()I"⟩, prog_13_method_41_code, 3, (Option.some FieldType.int), 0, false, 1),
  (⟨"LatticefitModel", "findsNets", "()V"⟩, prog_13_method_38_code, 3, (Option.none : Option FieldType), 0, false, 0),
  (⟨"LatticefitModel", "crossing", "(I)I"⟩, prog_13_method_36_code, 1, (Option.some FieldType.int), 1, true, 1),
  (⟨"LatticefitModel", "sinks", "(II)V"⟩, prog_13_method_39_code, 3, (Option.none : Option FieldType), 2, false, 0),
  (⟨"LatticefitModel", "length", "(I)I"⟩, prog_13_method_40_code, 7, (Option.some FieldType.int), 1, false, 1),
  (⟨"LatticefitModel", "sourceAt", "(I)I"⟩, prog_13_method_37_code, 2, (Option.some FieldType.int), 1, false, 1),
  (⟨"LatticefitModel", "anneal", "(III)I"⟩, prog_13_method_46_code, 14, (Option.some FieldType.int), 3, false, 1),
  (⟨"LatticefitModel", "canSwap", "(II)Z"⟩, prog_13_method_45_code, 4, (Option.some FieldType.boolean), 2, false, 2),
  (⟨"LatticefitModel", "excessNow", "()I"⟩, prog_13_method_42_code, 6, (Option.some FieldType.int), 0, false, 1),
  (⟨"LatticefitModel", "cellOf", "(I)I"⟩, prog_13_method_47_code, 2, (Option.some FieldType.int), 1, false, 1),
  (⟨"LatticefitModel", "cost", "()I"⟩, prog_13_method_48_code, 1, (Option.some FieldType.int), 0, false, 1),
  (⟨"LatticefitModel", "excess", "()I"⟩, prog_13_method_49_code, 1, (Option.some FieldType.int), 0, false, 1),
  (⟨"LatticefitModel", "route", "(I)I"⟩, prog_13_method_56_code, 4, (Option.some FieldType.int), 1, false, 1),
  (⟨"LatticefitModel", "gives", "(II)V"⟩, prog_13_method_55_code, 4, (Option.none : Option FieldType), 2, false, 0),
  (⟨"LatticefitModel", "reaches", "(III)V"⟩, prog_13_method_54_code, 8, (Option.none : Option FieldType), 3, false, 0),
  (⟨"LatticefitModel", "nearest", "()I"⟩, prog_13_method_53_code, 3, (Option.some FieldType.int), 0, false, 1),
  (⟨"LatticefitModel", "high", "(I)I"⟩, prog_13_method_51_code, 1, (Option.some FieldType.int), 1, true, 1),
  (⟨"LatticefitModel", "tollOf", "(II)I"⟩, prog_13_method_52_code, 3, (Option.some FieldType.int), 2, false, 1),
  (⟨"LatticefitModel", "isRouted", "()Z"⟩, prog_13_method_57_code, 1, (Option.some FieldType.boolean), 0, false, 2),
  (⟨"LatticefitModel", "netsOn", "(I)I"⟩, prog_13_method_58_code, 2, (Option.some FieldType.int), 1, false, 1)]
def ma_mt_6 : List ma_MT := [(⟨"LatticefitModel", "wireOf", "(II)I"⟩, prog_13_method_60_code, 3, (Option.some FieldType.int), 2, false, 1),
  (⟨"LatticefitModel", "wire", "(II)I"⟩, prog_13_method_59_code, 5, (Option.some FieldType.int), 2, false, 1),
  (⟨"LatticefitModel", "timeOf", "(I)I"⟩, prog_13_method_64_code, 2, (Option.some FieldType.int), 1, false, 1),
  (⟨"LatticefitModel", "time", "(I)I"⟩, prog_13_method_63_code, 2, (Option.some FieldType.int), 1, false, 1),
  (⟨"LatticefitModel", "tableTime", "(I)I"⟩, prog_13_method_62_code, 4, (Option.some FieldType.int), 1, false, 1),
  (⟨"LatticefitModel", "arrival", "(II)I"⟩, prog_13_method_61_code, 6, (Option.some FieldType.int), 2, false, 1),
  (⟨"LatticefitModel", "slowest", "()I"⟩, prog_13_method_65_code, 3, (Option.some FieldType.int), 0, false, 1),
  (⟨"LatticefitModel", "worstStretch", "()D"⟩, prog_13_method_67_code, 4, (Option.some FieldType.double), 0, false, 6),
  (⟨"LatticefitModel", "edgesOf", "(I)I"⟩, prog_13_method_66_code, 4, (Option.some FieldType.int), 1, false, 1),
  (⟨"LatticefitModel", "build", "()I"⟩, prog_13_method_72_code, 4, (Option.some FieldType.int), 0, false, 1),
  (⟨"LatticefitModel", "codeAt", "(II)I"⟩, prog_13_method_71_code, 4, (Option.some FieldType.int), 2, false, 1),
  (⟨"LatticefitModel", "sourceCode", "(I)I"⟩, prog_13_method_70_code, 2, (Option.some FieldType.int), 1, false, 1),
  (⟨"LatticefitModel", "wordAt", "(II)I"⟩, prog_13_method_73_code, 3, (Option.some FieldType.int), 2, false, 1),
  (⟨"LatticefitModel", "words", "(I)I"⟩, prog_13_method_68_code, 1, (Option.some FieldType.int), 1, true, 1),
  (⟨"LatticefitModel", "check", "(I)I"⟩, prog_13_method_75_code, 2, (Option.some FieldType.int), 1, false, 1),
  (⟨"LatticefitModel", "checkOf", "([II)I"⟩, prog_13_method_74_code, 5, (Option.some FieldType.int), 2, true, 1),
  (⟨"LatticefitModel", "start", "()I"⟩, prog_13_method_76_code, 2, (Option.some FieldType.int), 0, false, 1),
  (⟨"LatticefitModel", "setInput", "(IZ)Z"⟩, prog_13_method_82_code, 4, (Option.some FieldType.boolean), 2, false, 2),
  (⟨"LatticefitModel", "tick", "(I)J"⟩, prog_13_method_83_code, 4, (Option.some FieldType.long), 1, false, 4),
  (⟨"LatticefitModel", "runs", "()V"⟩, prog_13_method_81_code, 2, (Option.none : Option FieldType), 0, false, 0),
  (⟨"LatticefitModel", "settles", "()V"⟩, prog_13_method_80_code, 5, (Option.none : Option FieldType), 0, false, 0),
  (⟨"LatticefitModel", "cellAt", "(I)I"⟩, prog_13_method_79_code, 1, (Option.some FieldType.int), 1, true, 1),
  (⟨"LatticefitModel", "valueOf", "(I)Z"⟩, prog_13_method_78_code, 3, (Option.some FieldType.boolean), 1, false, 2),
  (⟨"LatticefitModel", "behind", "(I)I"⟩, prog_13_method_77_code, 4, (Option.some FieldType.int), 1, false, 1),
  (⟨"LatticefitModel", "circuitOutput", "(I)Z"⟩, prog_13_method_85_code, 2, (Option.some FieldType.boolean), 1, false, 2),
  (⟨"LatticefitModel", "isIdle", "(II)Z"⟩, prog_13_method_84_code, 3, (Option.some FieldType.boolean), 2, false, 2),
  (⟨"LatticefitModel", "chipOutput", "(I)Z"⟩, prog_13_method_86_code, 2, (Option.some FieldType.boolean), 1, false, 2),
  (⟨"LatticefitModel", "chipRegister", "(I)Z"⟩, prog_13_method_87_code, 2, (Option.some FieldType.boolean), 1, false, 2),
  (⟨"LatticefitModel", "sourceOf", "(II)I"⟩, prog_13_method_90_code, 4, (Option.some FieldType.int), 2, false, 1),
  (⟨"LatticefitModel", "arrives", "(I)I"⟩, prog_13_method_89_code, 4, (Option.some FieldType.int), 1, false, 1),
  (⟨"LatticefitModel", "inputAt", "(I)I"⟩, prog_13_method_88_code, 4, (Option.some FieldType.int), 1, false, 1),
  (⟨"LatticefitModel", "flip", "(III)I"⟩, prog_13_method_91_code, 4, (Option.some FieldType.int), 3, false, 1),
  (⟨"LatticefitModel", "isBad", "(I)Z"⟩, prog_13_method_93_code, 2, (Option.some FieldType.boolean), 1, false, 2),
  (⟨"LatticefitModel", "bad", "(I)Z"⟩, prog_13_method_92_code, 2, (Option.some FieldType.boolean), 1, false, 2),
  (⟨"LatticefitModel", "scrub", "()I"⟩, prog_13_method_94_code, 5, (Option.some FieldType.int), 0, false, 1),
  (⟨"LatticefitModel", "agrees", "()Z"⟩, prog_13_method_95_code, 3, (Option.some FieldType.boolean), 0, false, 2),
  (⟨"LatticefitModel", "fill", "()F"⟩, prog_13_method_96_code, 3, (Option.some FieldType.float), 0, false, 5),
  (⟨"LatticefitModel", "isConsistent", "()Z"⟩, prog_13_method_97_code, 1, (Option.some FieldType.boolean), 0, false, 2)]
def ma_mt (y : Nat) : ma_MT := if y < 40 then ma_mt_0.getD (y - 0) (⟨"", "", ""⟩, ⟨#[]⟩, 0, none, 0, false, 0) else if y < 80 then ma_mt_1.getD (y - 40) (⟨"", "", ""⟩, ⟨#[]⟩, 0, none, 0, false, 0) else if y < 120 then ma_mt_2.getD (y - 80) (⟨"", "", ""⟩, ⟨#[]⟩, 0, none, 0, false, 0) else if y < 160 then ma_mt_3.getD (y - 120) (⟨"", "", ""⟩, ⟨#[]⟩, 0, none, 0, false, 0) else if y < 200 then ma_mt_4.getD (y - 160) (⟨"", "", ""⟩, ⟨#[]⟩, 0, none, 0, false, 0) else if y < 240 then ma_mt_5.getD (y - 200) (⟨"", "", ""⟩, ⟨#[]⟩, 0, none, 0, false, 0) else if y < 278 then ma_mt_6.getD (y - 240) (⟨"", "", ""⟩, ⟨#[]⟩, 0, none, 0, false, 0) else (⟨"", "", ""⟩, ⟨#[]⟩, 0, none, 0, false, 0)
def ma_nM : Nat := 278
abbrev ma_y (y : Nat) : MethodName := (ma_mt y).1
abbrev ma_b (y : Nat) : ByteArray := (ma_mt y).2.1
abbrev ma_nL (y : Nat) : Nat := (ma_mt y).2.2.1
abbrev ma_ret (y : Nat) : Option FieldType := (ma_mt y).2.2.2.1
abbrev ma_stat (y : Nat) : Bool := (ma_mt y).2.2.2.2.2.1
abbrev ma_rk (y : Nat) : Nat := (ma_mt y).2.2.2.2.2.2
def ma_nas : List Nat := [0, 0, 0, 1, 1, 0, 0, 2, 0, 0, 4, 2, 2, 5, 3, 3, 4, 2, 3, 1, 1, 3, 1, 2, 0, 0, 1, 3, 1, 4, 1, 1, 1, 2, 2, 2, 2, 2, 2, 0, 0, 2, 3, 1, 3, 1, 3, 1, 1, 4, 2, 3, 1, 3, 1, 4, 2, 1, 1, 2, 0, 1, 1, 1, 2, 1, 1, 5, 3, 1, 3, 1, 1, 2, 3, 0, 1, 3, 1, 2, 0, 2, 0, 3, 1, 1, 2, 1, 1, 1, 1, 2, 2, 1, 0, 1, 3, 1, 2, 2, 1, 0, 3, 1, 4, 2, 2, 2, 3, 1, 0, 1, 2, 2, 2, 0, 0, 2, 0, 1, 2, 0, 0, 0, 1, 3, 2, 1, 1, 2, 1, 1, 0, 4, 2, 2, 1, 3, 1, 1, 2, 0, 1, 2, 0, 4, 2, 3, 1, 2, 1, 1, 0, 0, 2, 1, 1, 1, 0, 2, 3, 1, 1, 1, 3, 1, 1, 3, 1, 4, 2, 1, 5, 3, 3, 1, 2, 0, 2, 0, 2, 0, 1, 1, 0, 0, 2, 1, 0, 0, 2, 3, 3, 2, 1, 2, 1, 0, 0, 0, 1, 1, 2, 2, 1, 1, 2, 3, 3, 3, 1, 2, 1, 1, 1, 2, 1, 1, 2, 2, 0, 0, 1, 2, 1, 1, 3, 2, 0, 1, 0, 0, 1, 2, 3, 0, 1, 2, 0, 1, 2, 2, 1, 1, 1, 2, 0, 0, 1, 0, 2, 1, 2, 1, 1, 2, 0, 2, 1, 0, 0, 1, 1, 1, 1, 2, 1, 1, 2, 1, 1, 3, 1, 1, 0, 0, 0, 0]
def ma_na (y : Nat) : Nat := ma_nas.getD y 0
/-- how many cells a call may cost, whatever its end -/
def ma_ws : List Nat := [0, 0, 0, 0, 0, 0, 0, 1, 1, 0, 1, 1, 0, 1, 1, 0, 1, 1, 1, 1, 0, 1, 1, 1, 1, 0, 0, 0, 0, 0, 0, 0, 0, 0, 0, 0, 0, 0, 0, 0, 0, 0, 1, 1, 1, 1, 1, 1, 1, 2, 2, 2, 2, 2, 2, 2, 2, 0, 0, 0, 0, 0, 0, 0, 0, 0, 0, 2, 2, 1, 0, 0, 0, 0, 0, 0, 0, 1, 1, 1, 1, 1, 1, 2, 2, 0, 0, 0, 0, 0, 0, 0, 0, 0, 0, 0, 0, 0, 0, 0, 0, 0, 1, 1, 2, 2, 0, 0, 2, 2, 0, 0, 0, 0, 1, 1, 0, 2, 2, 0, 1, 1, 0, 0, 0, 0, 0, 0, 0, 0, 0, 0, 0, 3, 3, 2, 0, 2, 2, 0, 1, 1, 0, 0, 0, 2, 2, 2, 2, 0, 0, 0, 0, 0, 0, 0, 0, 0, 0, 0, 2, 2, 2, 0, 2, 2, 0, 2, 2, 2, 2, 0, 3, 3, 2, 2, 1, 1, 1, 1, 1, 1, 0, 0, 0, 0, 0, 0, 0, 0, 0, 0, 0, 0, 0, 0, 0, 0, 0, 0, 0, 0, 0, 0, 0, 0, 0, 0, 0, 0, 0, 0, 0, 0, 0, 0, 0, 0, 0, 0, 0, 0, 0, 0, 0, 0, 0, 0, 0, 0, 0, 0, 0, 0, 0, 0, 0, 0, 0, 0, 0, 0, 0, 0, 0, 0, 0, 0, 0, 0, 0, 0, 0, 0, 0, 0, 0, 0, 0, 0, 0, 0, 0, 0, 0, 0, 0, 0, 0, 0, 0, 0, 0, 0, 0, 0, 0, 0]
def ma_wc (y : Nat) : Nat := ma_ws.getD y 0
def ma_hs : List (Nat × List (Nat × Nat × Nat × Nat)) := [(7, [(0, 8, 11, 0)]), (10, [(0, 10, 13, 1), (0, 10, 17, 0)]), (13, [(0, 12, 15, 1), (0, 12, 19, 2), (0, 12, 23, 0)]), (16, [(0, 10, 13, 2), (0, 10, 17, 0)]), (18, [(0, 9, 12, 2), (0, 9, 15, 0)]), (21, [(0, 9, 12, 2)]), (23, [(0, 8, 11, 0), (0, 8, 14, 3)]), (42, [(0, 9, 12, 2), (0, 9, 15, 0)]), (44, [(0, 16, 19, 2), (0, 16, 22, 0)]), (46, [(0, 9, 12, 2), (0, 9, 15, 0)]), (49, [(0, 10, 13, 2), (0, 10, 17, 0), (0, 10, 21, 4)]), (51, [(0, 9, 12, 2), (0, 9, 15, 0), (0, 9, 18, 4)]), (53, [(0, 9, 12, 2), (0, 9, 15, 0), (0, 9, 18, 4)]), (55, [(0, 10, 13, 2), (0, 10, 17, 0), (0, 10, 21, 3)]), (67, [(0, 12, 15, 1), (0, 12, 19, 0)]), (77, [(0, 9, 12, 2), (0, 9, 15, 0)]), (79, [(0, 8, 11, 0)]), (81, [(0, 8, 11, 0)]), (83, [(0, 9, 12, 1), (0, 9, 15, 0)]), (102, [(0, 9, 12, 2)]), (104, [(0, 10, 13, 2), (0, 10, 17, 0), (0, 10, 21, 4)]), (108, [(0, 9, 12, 2), (0, 9, 15, 0), (0, 9, 18, 4)]), (114, [(0, 8, 11, 0)]), (117, [(0, 7, 10, 0), (0, 7, 13, 5)]), (120, [(0, 8, 11, 0)]), (133, [(0, 10, 13, 2), (0, 10, 17, 0), (0, 10, 21, 4)]), (137, [(0, 9, 12, 2), (0, 9, 15, 0)]), (140, [(0, 8, 11, 0)]), (145, [(0, 17, 20, 2), (0, 17, 24, 0)]), (147, [(0, 8, 11, 1), (0, 8, 14, 0)]), (160, [(0, 16, 19, 2), (0, 16, 22, 0)]), (164, [(0, 16, 19, 2), (0, 16, 22, 0)]), (167, [(0, 16, 19, 2), (0, 16, 22, 0)]), (169, [(0, 10, 13, 2), (0, 10, 17, 0), (0, 10, 21, 4)]), (172, [(0, 12, 15, 2), (0, 12, 19, 0), (0, 12, 23, 4)]), (174, [(0, 16, 19, 2), (0, 16, 22, 0)]), (176, [(0, 8, 11, 0)]), (178, [(0, 15, 18, 0)]), (180, [(0, 8, 11, 0)])]
def ma_hh (y : Nat) : List (Nat × Nat × Nat × Nat) := ((ma_hs.find? (fun q => q.1 == y)).getD (0, [])).2
/-- the same with the class entries -/
def ma_hcs : List (Nat × List (Nat × Nat × Nat × Nat)) := [(7, [(0, 8, 11, 13)]), (10, [(0, 10, 13, 19), (0, 10, 17, 13)]), (13, [(0, 12, 15, 19), (0, 12, 19, 25), (0, 12, 23, 13)]), (16, [(0, 10, 13, 25), (0, 10, 17, 13)]), (18, [(0, 9, 12, 25), (0, 9, 15, 13)]), (21, [(0, 9, 12, 25)]), (23, [(0, 8, 11, 13), (0, 8, 14, 42)]), (42, [(0, 9, 12, 25), (0, 9, 15, 13)]), (44, [(0, 16, 19, 25), (0, 16, 22, 13)]), (46, [(0, 9, 12, 25), (0, 9, 15, 13)]), (49, [(0, 10, 13, 25), (0, 10, 17, 13), (0, 10, 21, 57)]), (51, [(0, 9, 12, 25), (0, 9, 15, 13), (0, 9, 18, 57)]), (53, [(0, 9, 12, 25), (0, 9, 15, 13), (0, 9, 18, 57)]), (55, [(0, 10, 13, 25), (0, 10, 17, 13), (0, 10, 21, 42)]), (67, [(0, 12, 15, 19), (0, 12, 19, 13)]), (77, [(0, 9, 12, 25), (0, 9, 15, 13)]), (79, [(0, 8, 11, 13)]), (81, [(0, 8, 11, 13)]), (83, [(0, 9, 12, 19), (0, 9, 15, 13)]), (102, [(0, 9, 12, 25)]), (104, [(0, 10, 13, 25), (0, 10, 17, 13), (0, 10, 21, 57)]), (108, [(0, 9, 12, 25), (0, 9, 15, 13), (0, 9, 18, 57)]), (114, [(0, 8, 11, 13)]), (117, [(0, 7, 10, 13), (0, 7, 13, 100)]), (120, [(0, 8, 11, 13)]), (133, [(0, 10, 13, 25), (0, 10, 17, 13), (0, 10, 21, 57)]), (137, [(0, 9, 12, 25), (0, 9, 15, 13)]), (140, [(0, 8, 11, 13)]), (145, [(0, 17, 20, 25), (0, 17, 24, 13)]), (147, [(0, 8, 11, 19), (0, 8, 14, 13)]), (160, [(0, 16, 19, 25), (0, 16, 22, 13)]), (164, [(0, 16, 19, 25), (0, 16, 22, 13)]), (167, [(0, 16, 19, 25), (0, 16, 22, 13)]), (169, [(0, 10, 13, 25), (0, 10, 17, 13), (0, 10, 21, 57)]), (172, [(0, 12, 15, 25), (0, 12, 19, 13), (0, 12, 23, 57)]), (174, [(0, 16, 19, 25), (0, 16, 22, 13)]), (176, [(0, 8, 11, 13)]), (178, [(0, 15, 18, 13)]), (180, [(0, 8, 11, 13)])]
def ma_hc (y : Nat) : List (Nat × Nat × Nat × Nat) := ((ma_hcs.find? (fun q => q.1 == y)).getD (0, [])).2
abbrev mi_Latticefit_isRouted : Nat := 0
abbrev mi_Latticefit_isConsistent : Nat := 1
abbrev mi_Circuit_isSound : Nat := 2
abbrev mi_Circuit_isGate : Nat := 3
abbrev mi_Circuit_isNode : Nat := 4
abbrev mi_Places_isSound : Nat := 5
abbrev mi_Routes_isCrowded : Nat := 6
abbrev mi_LatticefitLaw_addInput : Nat := 7
abbrev mi_Latticefit_addInput : Nat := 8
abbrev mi_Circuit_putInput : Nat := 9
abbrev mi_LatticefitLaw_addRegister : Nat := 10
abbrev mi_Latticefit_addRegister : Nat := 11
abbrev mi_Circuit_putRegister : Nat := 12
abbrev mi_LatticefitLaw_addGate : Nat := 13
abbrev mi_Latticefit_addGate : Nat := 14
abbrev mi_Circuit_putGate : Nat := 15
abbrev mi_LatticefitLaw_feed : Nat := 16
abbrev mi_Latticefit_feed : Nat := 17
abbrev mi_LatticefitLaw_addOutput : Nat := 18
abbrev mi_Latticefit_addOutput : Nat := 19
abbrev mi_Circuit_putOutput : Nat := 20
abbrev mi_LatticefitLaw_kindOf : Nat := 21
abbrev mi_Latticefit_kindOf : Nat := 22
abbrev mi_LatticefitLaw_map : Nat := 23
abbrev mi_Latticefit_map : Nat := 24
abbrev mi_Cuts_findAll : Nat := 25
abbrev mi_Cuts_offerAll : Nat := 26
abbrev mi_Cuts_offer : Nat := 27
abbrev mi_Long_bitCount : Nat := 28
abbrev mi_Cuts_isBehind : Nat := 29
abbrev mi_Blocks_pack : Nat := 30
abbrev mi_Blocks_markNeeded : Nat := 31
abbrev mi_Cuts_own : Nat := 32
abbrev mi_Blocks_markCut : Nat := 33
abbrev mi_Blocks_isIn : Nat := 34
abbrev mi_Arrays_fill_AIIV : Nat := 35
abbrev mi_Blocks_putRegister : Nat := 36
abbrev mi_Blocks_putGate : Nat := 37
abbrev mi_Circuit_joined : Nat := 38
abbrev mi_Places_putAnew : Nat := 39
abbrev mi_Routes_clear : Nat := 40
abbrev mi_Arrays_fill_AJJV : Nat := 41
abbrev mi_LatticefitLaw_depth : Nat := 42
abbrev mi_Latticefit_depth : Nat := 43
abbrev mi_LatticefitLaw_isNeeded : Nat := 44
abbrev mi_Latticefit_isNeeded : Nat := 45
abbrev mi_LatticefitLaw_word : Nat := 46
abbrev mi_Latticefit_word : Nat := 47
abbrev mi_Latticefit_needBlock : Nat := 48
abbrev mi_LatticefitLaw_inputOf : Nat := 49
abbrev mi_Latticefit_inputOf : Nat := 50
abbrev mi_LatticefitLaw_gateOf : Nat := 51
abbrev mi_Latticefit_gateOf : Nat := 52
abbrev mi_LatticefitLaw_registerOf : Nat := 53
abbrev mi_Latticefit_registerOf : Nat := 54
abbrev mi_LatticefitLaw_fix : Nat := 55
abbrev mi_Latticefit_fix : Nat := 56
abbrev mi_Latticefit_isCell : Nat := 57
abbrev mi_Places_holdsFixed : Nat := 58
abbrev mi_Places_exchange : Nat := 59
abbrev mi_Places_findLengths : Nat := 60
abbrev mi_Places_sourceCrossing : Nat := 61
abbrev mi_Places_cellOfNode : Nat := 62
abbrev mi_Places_crossingAt : Nat := 63
abbrev mi_Places_stretchTo : Nat := 64
abbrev mi_Places_crossingOfOutput : Nat := 65
abbrev mi_Places_lengthOf : Nat := 66
abbrev mi_LatticefitLaw_anneal : Nat := 67
abbrev mi_Latticefit_anneal : Nat := 68
abbrev mi_Latticefit_needStage : Nat := 69
abbrev mi_Places_swapByChance : Nat := 70
abbrev mi_Places_nextChance : Nat := 71
abbrev mi_Places_cellTold : Nat := 72
abbrev mi_Places_maySwap : Nat := 73
abbrev mi_Places_swapIfGood : Nat := 74
abbrev mi_Places_clockExcess : Nat := 75
abbrev mi_Integer_bitCount : Nat := 76
abbrev mi_LatticefitLaw_cellOf : Nat := 77
abbrev mi_Latticefit_cellOf : Nat := 78
abbrev mi_LatticefitLaw_cost : Nat := 79
abbrev mi_Latticefit_cost : Nat := 80
abbrev mi_LatticefitLaw_excess : Nat := 81
abbrev mi_Latticefit_excess : Nat := 82
abbrev mi_LatticefitLaw_route : Nat := 83
abbrev mi_Latticefit_route : Nat := 84
abbrev mi_Places_putPins : Nat := 85
abbrev mi_Routes_addSink : Nat := 86
abbrev mi_Routes_makeRounds : Nat := 87
abbrev mi_Routes_giveUp : Nat := 88
abbrev mi_Latticefit_isEdge : Nat := 89
abbrev mi_Routes_layTree : Nat := 90
abbrev mi_Routes_isInTree : Nat := 91
abbrev mi_Routes_addWay : Nat := 92
abbrev mi_Routes_openTree : Nat := 93
abbrev mi_Routes_takeCheapest : Nat := 94
abbrev mi_Routes_openNeighbours : Nat := 95
abbrev mi_Routes_offerWay : Nat := 96
abbrev mi_Routes_tollOf : Nat := 97
abbrev mi_Routes_takeWay : Nat := 98
abbrev mi_Routes_otherEnd : Nat := 99
abbrev mi_Routes_lowEnd : Nat := 100
abbrev mi_Routes_raisePrices : Nat := 101
abbrev mi_LatticefitLaw_netsOn : Nat := 102
abbrev mi_Latticefit_netsOn : Nat := 103
abbrev mi_LatticefitLaw_wireOf : Nat := 104
abbrev mi_Latticefit_wireOf : Nat := 105
abbrev mi_Routes_has : Nat := 106
abbrev mi_Routes_wire : Nat := 107
abbrev mi_LatticefitLaw_timeOf : Nat := 108
abbrev mi_Latticefit_timeOf : Nat := 109
abbrev mi_Times_findAll : Nat := 110
abbrev mi_Times_ofTable : Nat := 111
abbrev mi_Times_arrival : Nat := 112
abbrev mi_Routes_wayTo : Nat := 113
abbrev mi_LatticefitLaw_slowest : Nat := 114
abbrev mi_Latticefit_slowest : Nat := 115
abbrev mi_Times_latest : Nat := 116
abbrev mi_LatticefitLaw_worstStretch : Nat := 117
abbrev mi_Latticefit_worstStretch : Nat := 118
abbrev mi_Routes_edgesOf : Nat := 119
abbrev mi_LatticefitLaw_build : Nat := 120
abbrev mi_Latticefit_build : Nat := 121
abbrev mi_Builder_fillFrames : Nat := 122
abbrev mi_Frames_clear : Nat := 123
abbrev mi_Builder_putBlock : Nat := 124
abbrev mi_Frames_putCellWord : Nat := 125
abbrev mi_Builder_codeAt : Nat := 126
abbrev mi_Places_sourceCode : Nat := 127
abbrev mi_Builder_putNet : Nat := 128
abbrev mi_Frames_putWireWord : Nat := 129
abbrev mi_Frames_frameOfEdge : Nat := 130
abbrev mi_Frames_indexOfEdge : Nat := 131
abbrev mi_Frames_wordsInUse : Nat := 132
abbrev mi_LatticefitLaw_wordAt : Nat := 133
abbrev mi_Latticefit_wordAt : Nat := 134
abbrev mi_Latticefit_needFrame : Nat := 135
abbrev mi_Frames_lengthOf : Nat := 136
abbrev mi_LatticefitLaw_check : Nat := 137
abbrev mi_Latticefit_check : Nat := 138
abbrev mi_Frames_sumOf : Nat := 139
abbrev mi_LatticefitLaw_start : Nat := 140
abbrev mi_Latticefit_start : Nat := 141
abbrev mi_Chip_reset : Nat := 142
abbrev mi_Frames_copyFrame : Nat := 143
abbrev mi_Runner_reset : Nat := 144
abbrev mi_LatticefitLaw_setInput : Nat := 145
abbrev mi_Latticefit_setInput : Nat := 146
abbrev mi_LatticefitLaw_tick : Nat := 147
abbrev mi_Latticefit_tick : Nat := 148
abbrev mi_Runner_takeTick : Nat := 149
abbrev mi_Runner_findValues : Nat := 150
abbrev mi_Chip_takeTick : Nat := 151
abbrev mi_Chip_findTables : Nat := 152
abbrev mi_Chip_findEnds : Nat := 153
abbrev mi_Frames_cellWord : Nat := 154
abbrev mi_Frames_endOf : Nat := 155
abbrev mi_Frames_isWire : Nat := 156
abbrev mi_Frames_wireWord : Nat := 157
abbrev mi_Chip_renewTables : Nat := 158
abbrev mi_Chip_valueOfEnd : Nat := 159
abbrev mi_LatticefitLaw_circuitOutput : Nat := 160
abbrev mi_Latticefit_circuitOutput : Nat := 161
abbrev mi_Latticefit_needOutput : Nat := 162
abbrev mi_Runner_outputValue : Nat := 163
abbrev mi_LatticefitLaw_chipOutput : Nat := 164
abbrev mi_Latticefit_chipOutput : Nat := 165
abbrev mi_Chip_outputValue : Nat := 166
abbrev mi_LatticefitLaw_chipRegister : Nat := 167
abbrev mi_Latticefit_chipRegister : Nat := 168
abbrev mi_LatticefitLaw_sourceOf : Nat := 169
abbrev mi_Latticefit_sourceOf : Nat := 170
abbrev mi_Places_nodeOfCode : Nat := 171
abbrev mi_LatticefitLaw_flip : Nat := 172
abbrev mi_Latticefit_flip : Nat := 173
abbrev mi_LatticefitLaw_isBad : Nat := 174
abbrev mi_Latticefit_isBad : Nat := 175
abbrev mi_LatticefitLaw_scrub : Nat := 176
abbrev mi_Latticefit_scrub : Nat := 177
abbrev mi_LatticefitLaw_agrees : Nat := 178
abbrev mi_Latticefit_agrees : Nat := 179
abbrev mi_LatticefitLaw_fill : Nat := 180
abbrev mi_Latticefit_fill : Nat := 181
abbrev mi_LatticefitModel_column : Nat := 182
abbrev mi_LatticefitModel_low : Nat := 183
abbrev mi_LatticefitModel_thrown : Nat := 184
abbrev mi_LatticefitModel_addInput : Nat := 185
abbrev mi_LatticefitModel_isThrown : Nat := 186
abbrev mi_LatticefitModel_newNode : Nat := 187
abbrev mi_LatticefitModel_changes : Nat := 188
abbrev mi_LatticefitModel_unroutes : Nat := 189
abbrev mi_LatticefitModel_addRegister : Nat := 190
abbrev mi_LatticefitModel_isIn : Nat := 191
abbrev mi_LatticefitModel_addGate : Nat := 192
abbrev mi_LatticefitModel_feed : Nat := 193
abbrev mi_LatticefitModel_addOutput : Nat := 194
abbrev mi_LatticefitModel_isNo : Nat := 195
abbrev mi_LatticefitModel_kindOf : Nat := 196
abbrev mi_LatticefitModel_map : Nat := 197
abbrev mi_LatticefitModel_blocksThen : Nat := 198
abbrev mi_LatticefitModel_neededGates : Nat := 199
abbrev mi_LatticefitModel_findsCuts : Nat := 200
abbrev mi_LatticefitModel_isGate : Nat := 201
abbrev mi_LatticefitModel_offers : Nat := 202
abbrev mi_LatticefitModel_isBetter : Nat := 203
abbrev mi_LatticefitModel_depthOf : Nat := 204
abbrev mi_LatticefitModel_needs : Nat := 205
abbrev mi_LatticefitModel_newBlock : Nat := 206
abbrev mi_LatticefitModel_tabled : Nat := 207
abbrev mi_LatticefitModel_valueIn : Nat := 208
abbrev mi_LatticefitModel_of : Nat := 209
abbrev mi_LatticefitModel_depth : Nat := 210
abbrev mi_LatticefitModel_isUnmapped : Nat := 211
abbrev mi_LatticefitModel_isNeeded : Nat := 212
abbrev mi_LatticefitModel_word : Nat := 213
abbrev mi_LatticefitModel_isNoBlock : Nat := 214
abbrev mi_LatticefitModel_inputOf : Nat := 215
abbrev mi_LatticefitModel_gateOf : Nat := 216
abbrev mi_LatticefitModel_registerOf : Nat := 217
abbrev mi_LatticefitModel_fix : Nat := 218
abbrev mi_LatticefitModel_exchanges : Nat := 219
abbrev mi_LatticefitModel_costNow : Nat := 220
abbrev mi_LatticefitModel_findsNets : Nat := 221
abbrev mi_LatticefitModel_crossing : Nat := 222
abbrev mi_LatticefitModel_sinks : Nat := 223
abbrev mi_LatticefitModel_length : Nat := 224
abbrev mi_LatticefitModel_sourceAt : Nat := 225
abbrev mi_LatticefitModel_anneal : Nat := 226
abbrev mi_LatticefitModel_canSwap : Nat := 227
abbrev mi_LatticefitModel_excessNow : Nat := 228
abbrev mi_LatticefitModel_cellOf : Nat := 229
abbrev mi_LatticefitModel_cost : Nat := 230
abbrev mi_LatticefitModel_excess : Nat := 231
abbrev mi_LatticefitModel_route : Nat := 232
abbrev mi_LatticefitModel_gives : Nat := 233
abbrev mi_LatticefitModel_reaches : Nat := 234
abbrev mi_LatticefitModel_nearest : Nat := 235
abbrev mi_LatticefitModel_high : Nat := 236
abbrev mi_LatticefitModel_tollOf : Nat := 237
abbrev mi_LatticefitModel_isRouted : Nat := 238
abbrev mi_LatticefitModel_netsOn : Nat := 239
abbrev mi_LatticefitModel_wireOf : Nat := 240
abbrev mi_LatticefitModel_wire : Nat := 241
abbrev mi_LatticefitModel_timeOf : Nat := 242
abbrev mi_LatticefitModel_time : Nat := 243
abbrev mi_LatticefitModel_tableTime : Nat := 244
abbrev mi_LatticefitModel_arrival : Nat := 245
abbrev mi_LatticefitModel_slowest : Nat := 246
abbrev mi_LatticefitModel_worstStretch : Nat := 247
abbrev mi_LatticefitModel_edgesOf : Nat := 248
abbrev mi_LatticefitModel_build : Nat := 249
abbrev mi_LatticefitModel_codeAt : Nat := 250
abbrev mi_LatticefitModel_sourceCode : Nat := 251
abbrev mi_LatticefitModel_wordAt : Nat := 252
abbrev mi_LatticefitModel_words : Nat := 253
abbrev mi_LatticefitModel_check : Nat := 254
abbrev mi_LatticefitModel_checkOf : Nat := 255
abbrev mi_LatticefitModel_start : Nat := 256
abbrev mi_LatticefitModel_setInput : Nat := 257
abbrev mi_LatticefitModel_tick : Nat := 258
abbrev mi_LatticefitModel_runs : Nat := 259
abbrev mi_LatticefitModel_settles : Nat := 260
abbrev mi_LatticefitModel_cellAt : Nat := 261
abbrev mi_LatticefitModel_valueOf : Nat := 262
abbrev mi_LatticefitModel_behind : Nat := 263
abbrev mi_LatticefitModel_circuitOutput : Nat := 264
abbrev mi_LatticefitModel_isIdle : Nat := 265
abbrev mi_LatticefitModel_chipOutput : Nat := 266
abbrev mi_LatticefitModel_chipRegister : Nat := 267
abbrev mi_LatticefitModel_sourceOf : Nat := 268
abbrev mi_LatticefitModel_arrives : Nat := 269
abbrev mi_LatticefitModel_inputAt : Nat := 270
abbrev mi_LatticefitModel_flip : Nat := 271
abbrev mi_LatticefitModel_isBad : Nat := 272
abbrev mi_LatticefitModel_bad : Nat := 273
abbrev mi_LatticefitModel_scrub : Nat := 274
abbrev mi_LatticefitModel_agrees : Nat := 275
abbrev mi_LatticefitModel_fill : Nat := 276
abbrev mi_LatticefitModel_isConsistent : Nat := 277
/-- the thrown classes -/
def ma_exs : List String := ["java/lang/IllegalStateException", "java/lang/IllegalArgumentException", "java/lang/IndexOutOfBoundsException", "java/lang/UnsupportedOperationException", "java/util/NoSuchElementException", "java/lang/ArithmeticException"]
def ma_ex (e : Nat) : String := ma_exs.getD e ""
def ma_owns : List String := ["Latticefit$Blocks", "Latticefit$Builder", "Latticefit$Chip", "Latticefit$Circuit", "Latticefit$Cuts", "Latticefit$Frames", "Latticefit$Places", "Latticefit$Routes", "Latticefit$Runner", "Latticefit$Times", "Latticefit", "LatticefitModel", "LatticefitLaw", "java/lang/Integer", "java/lang/Long", "java/util/Arrays"]
def ma_own (i : Nat) : String := ma_owns.getD i ""
