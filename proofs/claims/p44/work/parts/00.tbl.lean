-- ===== PART A: goes FIRST, ahead of the names: the tables' words, and 'selects' of the private methods out of them =====
/-- a private method of a class that the tables say can be made, by its rows of tables_1 -/
def lw_okq (q : MethodName × Nat) : Prop := (q.1.cls ≠ "java/lang/invoke/MethodHandle" ∧ q.1.cls ≠ "java/lang/invoke/VarHandle") ∧ Cond.instantiable q.1.cls q.2 ∈ tables_1 ∧ Cond.privateMethod q.1 ∈ tables_1 ∧ Cond.instanceMethod q.1 ∈ tables_1
theorem lw_p0 : lw_okq (⟨"java/lang/Throwable", "fillInStackTrace", "(I)Ljava/lang/Throwable;"⟩, 6) := ⟨⟨by decide +kernel, by decide +kernel⟩, List.mem_of_getElem? (i := 516) (by decide +kernel), List.mem_of_getElem? (i := 514) (by decide +kernel), List.mem_of_getElem? (i := 515) (by decide +kernel)⟩
theorem lw_p1 : lw_okq (⟨"Latticefit$Cuts", "offerAll", "(I)V"⟩, 5) := ⟨⟨by decide +kernel, by decide +kernel⟩, List.mem_of_getElem? (i := 130) (by decide +kernel), List.mem_of_getElem? (i := 547) (by decide +kernel), List.mem_of_getElem? (i := 548) (by decide +kernel)⟩
theorem lw_p2 : lw_okq (⟨"Latticefit$Cuts", "offer", "(IJI)V"⟩, 5) := ⟨⟨by decide +kernel, by decide +kernel⟩, List.mem_of_getElem? (i := 130) (by decide +kernel), List.mem_of_getElem? (i := 551) (by decide +kernel), List.mem_of_getElem? (i := 552) (by decide +kernel)⟩
theorem lw_p3 : lw_okq (⟨"Latticefit$Cuts", "isBehind", "(IIJI)Z"⟩, 5) := ⟨⟨by decide +kernel, by decide +kernel⟩, List.mem_of_getElem? (i := 130) (by decide +kernel), List.mem_of_getElem? (i := 561) (by decide +kernel), List.mem_of_getElem? (i := 562) (by decide +kernel)⟩
theorem lw_p4 : lw_okq (⟨"Latticefit$Blocks", "markNeeded", "(LLatticefit$Cuts;)V"⟩, 10) := ⟨⟨by decide +kernel, by decide +kernel⟩, List.mem_of_getElem? (i := 157) (by decide +kernel), List.mem_of_getElem? (i := 572) (by decide +kernel), List.mem_of_getElem? (i := 573) (by decide +kernel)⟩
theorem lw_p5 : lw_okq (⟨"Latticefit$Blocks", "markCut", "(JI)V"⟩, 10) := ⟨⟨by decide +kernel, by decide +kernel⟩, List.mem_of_getElem? (i := 157) (by decide +kernel), List.mem_of_getElem? (i := 581) (by decide +kernel), List.mem_of_getElem? (i := 582) (by decide +kernel)⟩
theorem lw_p6 : lw_okq (⟨"Latticefit$Blocks", "putRegister", "(ILLatticefit$Cuts;)V"⟩, 10) := ⟨⟨by decide +kernel, by decide +kernel⟩, List.mem_of_getElem? (i := 157) (by decide +kernel), List.mem_of_getElem? (i := 591) (by decide +kernel), List.mem_of_getElem? (i := 592) (by decide +kernel)⟩
theorem lw_p7 : lw_okq (⟨"Latticefit$Blocks", "putGate", "(IJ)V"⟩, 10) := ⟨⟨by decide +kernel, by decide +kernel⟩, List.mem_of_getElem? (i := 157) (by decide +kernel), List.mem_of_getElem? (i := 595) (by decide +kernel), List.mem_of_getElem? (i := 596) (by decide +kernel)⟩
theorem lw_p8 : lw_okq (⟨"Latticefit", "needStage", "(I)V"⟩, 11) := ⟨⟨by decide +kernel, by decide +kernel⟩, List.mem_of_getElem? (i := 28) (by decide +kernel), List.mem_of_getElem? (i := 659) (by decide +kernel), List.mem_of_getElem? (i := 660) (by decide +kernel)⟩
theorem lw_p9 : lw_okq (⟨"Latticefit$Places", "maySwap", "(II)Z"⟩, 10) := ⟨⟨by decide +kernel, by decide +kernel⟩, List.mem_of_getElem? (i := 210) (by decide +kernel), List.mem_of_getElem? (i := 678) (by decide +kernel), List.mem_of_getElem? (i := 679) (by decide +kernel)⟩
theorem lw_p10 : lw_okq (⟨"Latticefit$Places", "swapIfGood", "(III)Z"⟩, 10) := ⟨⟨by decide +kernel, by decide +kernel⟩, List.mem_of_getElem? (i := 210) (by decide +kernel), List.mem_of_getElem? (i := 686) (by decide +kernel), List.mem_of_getElem? (i := 687) (by decide +kernel)⟩
theorem lw_p11 : lw_okq (⟨"Latticefit$Places", "stretchTo", "(II)V"⟩, 10) := ⟨⟨by decide +kernel, by decide +kernel⟩, List.mem_of_getElem? (i := 210) (by decide +kernel), List.mem_of_getElem? (i := 716) (by decide +kernel), List.mem_of_getElem? (i := 717) (by decide +kernel)⟩
theorem lw_p12 : lw_okq (⟨"Latticefit$Routes", "giveUp", "(I)V"⟩, 12) := ⟨⟨by decide +kernel, by decide +kernel⟩, List.mem_of_getElem? (i := 249) (by decide +kernel), List.mem_of_getElem? (i := 753) (by decide +kernel), List.mem_of_getElem? (i := 754) (by decide +kernel)⟩
theorem lw_p13 : lw_okq (⟨"Latticefit$Routes", "layTree", "(I)V"⟩, 12) := ⟨⟨by decide +kernel, by decide +kernel⟩, List.mem_of_getElem? (i := 249) (by decide +kernel), List.mem_of_getElem? (i := 760) (by decide +kernel), List.mem_of_getElem? (i := 761) (by decide +kernel)⟩
theorem lw_p14 : lw_okq (⟨"Latticefit$Routes", "isInTree", "(II)Z"⟩, 12) := ⟨⟨by decide +kernel, by decide +kernel⟩, List.mem_of_getElem? (i := 249) (by decide +kernel), List.mem_of_getElem? (i := 764) (by decide +kernel), List.mem_of_getElem? (i := 765) (by decide +kernel)⟩
theorem lw_p15 : lw_okq (⟨"Latticefit$Routes", "addWay", "(II)V"⟩, 12) := ⟨⟨by decide +kernel, by decide +kernel⟩, List.mem_of_getElem? (i := 249) (by decide +kernel), List.mem_of_getElem? (i := 768) (by decide +kernel), List.mem_of_getElem? (i := 769) (by decide +kernel)⟩
def lw_privs_1 : List (MethodName × Nat) := [(⟨"java/lang/Throwable", "fillInStackTrace", "(I)Ljava/lang/Throwable;"⟩, 6), (⟨"Latticefit$Cuts", "offerAll", "(I)V"⟩, 5), (⟨"Latticefit$Cuts", "offer", "(IJI)V"⟩, 5), (⟨"Latticefit$Cuts", "isBehind", "(IIJI)Z"⟩, 5), (⟨"Latticefit$Blocks", "markNeeded", "(LLatticefit$Cuts;)V"⟩, 10), (⟨"Latticefit$Blocks", "markCut", "(JI)V"⟩, 10), (⟨"Latticefit$Blocks", "putRegister", "(ILLatticefit$Cuts;)V"⟩, 10), (⟨"Latticefit$Blocks", "putGate", "(IJ)V"⟩, 10), (⟨"Latticefit", "needStage", "(I)V"⟩, 11), (⟨"Latticefit$Places", "maySwap", "(II)Z"⟩, 10), (⟨"Latticefit$Places", "swapIfGood", "(III)Z"⟩, 10), (⟨"Latticefit$Places", "stretchTo", "(II)V"⟩, 10), (⟨"Latticefit$Routes", "giveUp", "(I)V"⟩, 12), (⟨"Latticefit$Routes", "layTree", "(I)V"⟩, 12), (⟨"Latticefit$Routes", "isInTree", "(II)Z"⟩, 12), (⟨"Latticefit$Routes", "addWay", "(II)V"⟩, 12)]
theorem lw_r1 : ∀ q ∈ lw_privs_1, lw_okq q := List.forall_mem_cons.mpr ⟨lw_p0, List.forall_mem_cons.mpr ⟨lw_p1, List.forall_mem_cons.mpr ⟨lw_p2, List.forall_mem_cons.mpr ⟨lw_p3, List.forall_mem_cons.mpr ⟨lw_p4, List.forall_mem_cons.mpr ⟨lw_p5, List.forall_mem_cons.mpr ⟨lw_p6, List.forall_mem_cons.mpr ⟨lw_p7, List.forall_mem_cons.mpr ⟨lw_p8, List.forall_mem_cons.mpr ⟨lw_p9, List.forall_mem_cons.mpr ⟨lw_p10, List.forall_mem_cons.mpr ⟨lw_p11, List.forall_mem_cons.mpr ⟨lw_p12, List.forall_mem_cons.mpr ⟨lw_p13, List.forall_mem_cons.mpr ⟨lw_p14, List.forall_mem_cons.mpr ⟨lw_p15, fun _ h => absurd h List.not_mem_nil⟩⟩⟩⟩⟩⟩⟩⟩⟩⟩⟩⟩⟩⟩⟩⟩
theorem lw_p16 : lw_okq (⟨"Latticefit$Routes", "openTree", "(I)V"⟩, 12) := ⟨⟨by decide +kernel, by decide +kernel⟩, List.mem_of_getElem? (i := 249) (by decide +kernel), List.mem_of_getElem? (i := 772) (by decide +kernel), List.mem_of_getElem? (i := 773) (by decide +kernel)⟩
theorem lw_p17 : lw_okq (⟨"Latticefit$Routes", "takeCheapest", "()I"⟩, 12) := ⟨⟨by decide +kernel, by decide +kernel⟩, List.mem_of_getElem? (i := 249) (by decide +kernel), List.mem_of_getElem? (i := 776) (by decide +kernel), List.mem_of_getElem? (i := 777) (by decide +kernel)⟩
theorem lw_p18 : lw_okq (⟨"Latticefit$Routes", "openNeighbours", "(I)V"⟩, 12) := ⟨⟨by decide +kernel, by decide +kernel⟩, List.mem_of_getElem? (i := 249) (by decide +kernel), List.mem_of_getElem? (i := 780) (by decide +kernel), List.mem_of_getElem? (i := 781) (by decide +kernel)⟩
theorem lw_p19 : lw_okq (⟨"Latticefit$Routes", "offerWay", "(III)V"⟩, 12) := ⟨⟨by decide +kernel, by decide +kernel⟩, List.mem_of_getElem? (i := 249) (by decide +kernel), List.mem_of_getElem? (i := 784) (by decide +kernel), List.mem_of_getElem? (i := 785) (by decide +kernel)⟩
theorem lw_p20 : lw_okq (⟨"Latticefit$Routes", "tollOf", "(I)I"⟩, 12) := ⟨⟨by decide +kernel, by decide +kernel⟩, List.mem_of_getElem? (i := 249) (by decide +kernel), List.mem_of_getElem? (i := 788) (by decide +kernel), List.mem_of_getElem? (i := 789) (by decide +kernel)⟩
theorem lw_p21 : lw_okq (⟨"Latticefit$Routes", "takeWay", "(II)V"⟩, 12) := ⟨⟨by decide +kernel, by decide +kernel⟩, List.mem_of_getElem? (i := 249) (by decide +kernel), List.mem_of_getElem? (i := 792) (by decide +kernel), List.mem_of_getElem? (i := 793) (by decide +kernel)⟩
theorem lw_p22 : lw_okq (⟨"Latticefit$Routes", "raisePrices", "()V"⟩, 12) := ⟨⟨by decide +kernel, by decide +kernel⟩, List.mem_of_getElem? (i := 249) (by decide +kernel), List.mem_of_getElem? (i := 803) (by decide +kernel), List.mem_of_getElem? (i := 804) (by decide +kernel)⟩
theorem lw_p23 : lw_okq (⟨"Latticefit$Builder", "putBlock", "(I)V"⟩, 5) := ⟨⟨by decide +kernel, by decide +kernel⟩, List.mem_of_getElem? (i := 331) (by decide +kernel), List.mem_of_getElem? (i := 824) (by decide +kernel), List.mem_of_getElem? (i := 825) (by decide +kernel)⟩
theorem lw_p24 : lw_okq (⟨"Latticefit$Builder", "codeAt", "(II)I"⟩, 5) := ⟨⟨by decide +kernel, by decide +kernel⟩, List.mem_of_getElem? (i := 331) (by decide +kernel), List.mem_of_getElem? (i := 833) (by decide +kernel), List.mem_of_getElem? (i := 834) (by decide +kernel)⟩
theorem lw_p25 : lw_okq (⟨"Latticefit$Builder", "putNet", "(I)V"⟩, 5) := ⟨⟨by decide +kernel, by decide +kernel⟩, List.mem_of_getElem? (i := 331) (by decide +kernel), List.mem_of_getElem? (i := 850) (by decide +kernel), List.mem_of_getElem? (i := 851) (by decide +kernel)⟩
theorem lw_p26 : lw_okq (⟨"Latticefit", "needFrame", "(II)V"⟩, 11) := ⟨⟨by decide +kernel, by decide +kernel⟩, List.mem_of_getElem? (i := 28) (by decide +kernel), List.mem_of_getElem? (i := 912) (by decide +kernel), List.mem_of_getElem? (i := 913) (by decide +kernel)⟩
theorem lw_p27 : lw_okq (⟨"Latticefit$Chip", "findEnds", "()V"⟩, 7) := ⟨⟨by decide +kernel, by decide +kernel⟩, List.mem_of_getElem? (i := 353) (by decide +kernel), List.mem_of_getElem? (i := 998) (by decide +kernel), List.mem_of_getElem? (i := 999) (by decide +kernel)⟩
theorem lw_p28 : lw_okq (⟨"Latticefit$Chip", "renewTables", "()Z"⟩, 7) := ⟨⟨by decide +kernel, by decide +kernel⟩, List.mem_of_getElem? (i := 353) (by decide +kernel), List.mem_of_getElem? (i := 1017) (by decide +kernel), List.mem_of_getElem? (i := 1018) (by decide +kernel)⟩
theorem lw_p29 : lw_okq (⟨"Latticefit$Chip", "valueOfEnd", "(I[I)I"⟩, 7) := ⟨⟨by decide +kernel, by decide +kernel⟩, List.mem_of_getElem? (i := 353) (by decide +kernel), List.mem_of_getElem? (i := 1022) (by decide +kernel), List.mem_of_getElem? (i := 1023) (by decide +kernel)⟩
theorem lw_p30 : lw_okq (⟨"Latticefit", "needOutput", "(I)V"⟩, 11) := ⟨⟨by decide +kernel, by decide +kernel⟩, List.mem_of_getElem? (i := 28) (by decide +kernel), List.mem_of_getElem? (i := 1079) (by decide +kernel), List.mem_of_getElem? (i := 1080) (by decide +kernel)⟩
theorem lw_p31 : lw_okq (⟨"Latticefit", "needBlock", "(I)V"⟩, 11) := ⟨⟨by decide +kernel, by decide +kernel⟩, List.mem_of_getElem? (i := 28) (by decide +kernel), List.mem_of_getElem? (i := 1216) (by decide +kernel), List.mem_of_getElem? (i := 1217) (by decide +kernel)⟩
def lw_privs_2 : List (MethodName × Nat) := [(⟨"Latticefit$Routes", "openTree", "(I)V"⟩, 12), (⟨"Latticefit$Routes", "takeCheapest", "()I"⟩, 12), (⟨"Latticefit$Routes", "openNeighbours", "(I)V"⟩, 12), (⟨"Latticefit$Routes", "offerWay", "(III)V"⟩, 12), (⟨"Latticefit$Routes", "tollOf", "(I)I"⟩, 12), (⟨"Latticefit$Routes", "takeWay", "(II)V"⟩, 12), (⟨"Latticefit$Routes", "raisePrices", "()V"⟩, 12), (⟨"Latticefit$Builder", "putBlock", "(I)V"⟩, 5), (⟨"Latticefit$Builder", "codeAt", "(II)I"⟩, 5), (⟨"Latticefit$Builder", "putNet", "(I)V"⟩, 5), (⟨"Latticefit", "needFrame", "(II)V"⟩, 11), (⟨"Latticefit$Chip", "findEnds", "()V"⟩, 7), (⟨"Latticefit$Chip", "renewTables", "()Z"⟩, 7), (⟨"Latticefit$Chip", "valueOfEnd", "(I[I)I"⟩, 7), (⟨"Latticefit", "needOutput", "(I)V"⟩, 11), (⟨"Latticefit", "needBlock", "(I)V"⟩, 11)]
theorem lw_r2 : ∀ q ∈ lw_privs_2, lw_okq q := List.forall_mem_cons.mpr ⟨lw_p16, List.forall_mem_cons.mpr ⟨lw_p17, List.forall_mem_cons.mpr ⟨lw_p18, List.forall_mem_cons.mpr ⟨lw_p19, List.forall_mem_cons.mpr ⟨lw_p20, List.forall_mem_cons.mpr ⟨lw_p21, List.forall_mem_cons.mpr ⟨lw_p22, List.forall_mem_cons.mpr ⟨lw_p23, List.forall_mem_cons.mpr ⟨lw_p24, List.forall_mem_cons.mpr ⟨lw_p25, List.forall_mem_cons.mpr ⟨lw_p26, List.forall_mem_cons.mpr ⟨lw_p27, List.forall_mem_cons.mpr ⟨lw_p28, List.forall_mem_cons.mpr ⟨lw_p29, List.forall_mem_cons.mpr ⟨lw_p30, List.forall_mem_cons.mpr ⟨lw_p31, fun _ h => absurd h List.not_mem_nil⟩⟩⟩⟩⟩⟩⟩⟩⟩⟩⟩⟩⟩⟩⟩⟩
def lw_privs : List (MethodName × Nat) := lw_privs_1 ++ (lw_privs_2)
def lw_tbl : List Cond := k2_sels lw_privs ++ tables_1
theorem lw_privs_ok : ∀ q ∈ lw_privs, lw_okq q := by
  show ∀ q ∈ lw_privs_1 ++ (lw_privs_2), lw_okq q
  exact List.forall_mem_append.mpr ⟨lw_r1, lw_r2⟩
/-! numbers for the classes, the cells, the methods; written by a program from the claim's own tables -/
def ma_cls : List (String × List (String × String × String × Bool × FieldType)) := [  ("Latticefit$Blocks", [("Latticefit$Blocks", "gate", "[I", true, (.array .int)), ("Latticefit$Blocks", "register", "[I", true, (.array .int)), ("Latticefit$Blocks", "table", "[I", true, (.array .int)), ("Latticefit$Blocks", "inputs", "[I", true, (.array .int)), ("Latticefit$Blocks", "input", "[[I", true, (.array (.array .int))), ("Latticefit$Blocks", "ofNode", "[I", true, (.array .int)), ("Latticefit$Blocks", "needed", "[Z", true, (.array .boolean)), ("Latticefit$Blocks", "count", "I", false, .int), ("Latticefit$Blocks", "values", "[I", true, (.array .int)), ("Latticefit$Blocks", "circuit", "LLatticefit$Circuit;", true, (.object "Latticefit$Circuit"))]),
  ("Latticefit$Builder", [("Latticefit$Builder", "circuit", "LLatticefit$Circuit;", true, (.object "Latticefit$Circuit")), ("Latticefit$Builder", "blocks", "LLatticefit$Blocks;", true, (.object "Latticefit$Blocks")), ("Latticefit$Builder", "places", "LLatticefit$Places;", true, (.object "Latticefit$Places")), ("Latticefit$Builder", "routes", "LLatticefit$Routes;", true, (.object "Latticefit$Routes")), ("Latticefit$Builder", "frames", "LLatticefit$Frames;", true, (.object "Latticefit$Frames"))]),
  ("Latticefit$Chip", [("Latticefit$Chip", "frames", "LLatticefit$Frames;", true, (.object "Latticefit$Frames")), ("Latticefit$Chip", "input", "[I", true, (.array .int)), ("Latticefit$Chip", "register", "[I", true, (.array .int)), ("Latticefit$Chip", "ticks", "J", false, .long), ("Latticefit$Chip", "table", "[I", true, (.array .int)), ("Latticefit$Chip", "tableBefore", "[I", true, (.array .int)), ("Latticefit$Chip", "ends", "[I", true, (.array .int))]),
  ("Latticefit$Circuit", [("Latticefit$Circuit", "kind", "[C", true, (.array .char)), ("Latticefit$Circuit", "first", "[I", true, (.array .int)), ("Latticefit$Circuit", "second", "[I", true, (.array .int)), ("Latticefit$Circuit", "feeder", "[I", true, (.array .int)), ("Latticefit$Circuit", "initial", "[I", true, (.array .int)), ("Latticefit$Circuit", "clockOf", "[I", true, (.array .int)), ("Latticefit$Circuit", "numberOf", "[I", true, (.array .int)), ("Latticefit$Circuit", "inputNode", "[I", true, (.array .int)), ("Latticefit$Circuit", "registerNode", "[I", true, (.array .int)), ("Latticefit$Circuit", "outputNode", "[I", true, (.array .int)), ("Latticefit$Circuit", "nodes", "I", false, .int), ("Latticefit$Circuit", "inputs", "I", false, .int), ("Latticefit$Circuit", "registers", "I", false, .int), ("Latticefit$Circuit", "outputs", "I", false, .int)]),
  ("Latticefit$Cuts", [("Latticefit$Cuts", "sets", "[[J", true, (.array (.array .long))), ("Latticefit$Cuts", "tops", "[[I", true, (.array (.array .int))), ("Latticefit$Cuts", "count", "[I", true, (.array .int)), ("Latticefit$Cuts", "depthOf", "[I", true, (.array .int)), ("Latticefit$Cuts", "circuit", "LLatticefit$Circuit;", true, (.object "Latticefit$Circuit"))]),
  ("Latticefit$Frames", [("Latticefit$Frames", "words", "[[I", true, (.array (.array .int)))]),
  ("Latticefit$Places", [("Latticefit$Places", "cell", "[I", true, (.array .int)), ("Latticefit$Places", "blockIn", "[I", true, (.array .int)), ("Latticefit$Places", "isFixed", "[Z", true, (.array .boolean)), ("Latticefit$Places", "leftmost", "[I", true, (.array .int)), ("Latticefit$Places", "rightmost", "[I", true, (.array .int)), ("Latticefit$Places", "lowest", "[I", true, (.array .int)), ("Latticefit$Places", "highest", "[I", true, (.array .int)), ("Latticefit$Places", "clocksIn", "[I", true, (.array .int)), ("Latticefit$Places", "circuit", "LLatticefit$Circuit;", true, (.object "Latticefit$Circuit")), ("Latticefit$Places", "blocks", "LLatticefit$Blocks;", true, (.object "Latticefit$Blocks"))]),
  ("Latticefit$Routes", [("Latticefit$Routes", "back", "[[I", true, (.array (.array .int))), ("Latticefit$Routes", "source", "[I", true, (.array .int)), ("Latticefit$Routes", "users", "[I", true, (.array .int)), ("Latticefit$Routes", "sinks", "[J", true, (.array .long)), ("Latticefit$Routes", "price", "[I", true, (.array .int)), ("Latticefit$Routes", "toll", "[I", true, (.array .int)), ("Latticefit$Routes", "wayBack", "[I", true, (.array .int)), ("Latticefit$Routes", "isDone", "[Z", true, (.array .boolean)), ("Latticefit$Routes", "open", "[I", true, (.array .int)), ("Latticefit$Routes", "opened", "I", false, .int), ("Latticefit$Routes", "round", "I", false, .int), ("Latticefit$Routes", "circuit", "LLatticefit$Circuit;", true, (.object "Latticefit$Circuit"))]),
  ("Latticefit$Runner", [("Latticefit$Runner", "held", "[I", true, (.array .int)), ("Latticefit$Runner", "values", "[I", true, (.array .int)), ("Latticefit$Runner", "circuit", "LLatticefit$Circuit;", true, (.object "Latticefit$Circuit"))]),
  ("Latticefit$Times", [("Latticefit$Times", "ofNode", "[I", true, (.array .int)), ("Latticefit$Times", "circuit", "LLatticefit$Circuit;", true, (.object "Latticefit$Circuit")), ("Latticefit$Times", "blocks", "LLatticefit$Blocks;", true, (.object "Latticefit$Blocks")), ("Latticefit$Times", "places", "LLatticefit$Places;", true, (.object "Latticefit$Places")), ("Latticefit$Times", "routes", "LLatticefit$Routes;", true, (.object "Latticefit$Routes"))]),
  ("Latticefit", [("Latticefit", "circuit", "LLatticefit$Circuit;", true, (.object "Latticefit$Circuit")), ("Latticefit", "cuts", "LLatticefit$Cuts;", true, (.object "Latticefit$Cuts")), ("Latticefit", "blocks", "LLatticefit$Blocks;", true, (.object "Latticefit$Blocks")), ("Latticefit", "places", "LLatticefit$Places;", true, (.object "Latticefit$Places")), ("Latticefit", "routes", "LLatticefit$Routes;", true, (.object "Latticefit$Routes")), ("Latticefit", "times", "LLatticefit$Times;", true, (.object "Latticefit$Times")), ("Latticefit", "bits", "LLatticefit$Frames;", true, (.object "Latticefit$Frames")), ("Latticefit", "builder", "LLatticefit$Builder;", true, (.object "Latticefit$Builder")), ("Latticefit", "chip", "LLatticefit$Chip;", true, (.object "Latticefit$Chip")), ("Latticefit", "runner", "LLatticefit$Runner;", true, (.object "Latticefit$Runner")), ("Latticefit", "stage", "I", false, .int)])]
def ma_C (ci : Nat) : String := (ma_cls.getD ci ("", [])).1
def ma_fd (ci k : Nat) : String × String × String × Bool × FieldType := (ma_cls.getD ci ("", [])).2.getD k ("", "", "", false, .int)
def ma_T (ci : Nat) : u_T := fun k => ((ma_fd ci k).1, (ma_fd ci k).2.1, (ma_fd ci k).2.2.1, (ma_fd ci k).2.2.2.1)
def ma_fty (ci k : Nat) : FieldType := (ma_fd ci k).2.2.2.2
def ma_N (ci : Nat) : Nat := (ma_cls.getD ci ("", [])).2.length
/-- what kind of field: 0 int, 1 long, 2 boolean, 3 a cell that stays, 4 a cell that changes -/
def ma_fks : List (List Nat) := [[3, 3, 3, 3, 3, 3, 3, 0, 3, 3], [3, 3, 3, 3, 3], [3, 3, 3, 1, 3, 3, 3], [3, 3, 3, 3, 3, 3, 3, 3, 3, 3, 0, 0, 0, 0], [3, 3, 3, 3, 3], [3], [3, 3, 3, 3, 3, 3, 3, 3, 3, 3], [3, 3, 3, 3, 3, 3, 3, 3, 3, 0, 0, 3], [3, 3, 3], [3, 3, 3, 3, 3], [3, 3, 3, 3, 3, 3, 3, 3, 3, 3, 0]]
def ma_fk (ci k : Nat) : Nat := (ma_fks.getD ci []).getD k 99
/-- the cells: kind (0 int[], 1 long[], 2 boolean[], 3 char[], 4 double[], 5 int[][], 6 long[][], 7 a static int[], 8 the script, 10 + class), length, rows -/
def ma_cells : List (Nat × Nat × Nat) := [(8, 0, 1), (7, 4, 1), (20, 11, 1), (13, 14, 1), (3, 48, 1), (0, 48, 1), (0, 48, 1), (0, 48, 1), (0, 48, 1), (0, 48, 1), (0, 48, 1), (0, 6, 1), (0, 8, 1), (0, 6, 1), (14, 5, 1), (6, 48, 1), (1, 7, 48), (5, 48, 1), (0, 7, 48), (0, 48, 1), (0, 48, 1), (10, 10, 1), (0, 48, 1), (0, 48, 1), (0, 48, 1), (0, 48, 1), (5, 48, 1), (0, 4, 48), (0, 48, 1), (2, 48, 1), (0, 48, 1), (16, 10, 1), (0, 48, 1), (0, 36, 1), (2, 48, 1), (0, 48, 1), (0, 48, 1), (0, 48, 1), (0, 48, 1), (0, 3, 1), (17, 12, 1), (5, 48, 1), (0, 49, 48), (0, 48, 1), (0, 84, 1), (1, 48, 1), (0, 84, 1), (0, 49, 1), (0, 49, 1), (2, 49, 1), (0, 49, 1), (19, 5, 1), (0, 48, 1), (15, 1, 1), (5, 14, 1), (0, 36, 14), (11, 5, 1), (12, 7, 1), (15, 1, 1), (5, 14, 1), (0, 36, 14), (0, 6, 1), (0, 36, 1), (0, 36, 1), (0, 36, 1), (0, 144, 1), (18, 3, 1), (0, 48, 1), (0, 48, 1), (0, 430, 1), (0, 48, 1)]
def ma_ck (k : Nat) : Nat × Nat × Nat := ma_cells.getD k (99, 0, 0)
def ma_offs : List Nat := [0, 0, 0, 1, 2, 3, 4, 5, 6, 7, 8, 9, 10, 11, 12, 13, 14, 62, 63, 111, 112, 113, 114, 115, 116, 117, 118, 119, 167, 168, 169, 170, 171, 172, 173, 174, 175, 176, 177, 178, 179, 180, 181, 229, 230, 231, 232, 233, 234, 235, 236, 237, 238, 239, 240, 241, 255, 256, 257, 258, 259, 273, 274, 275, 276, 277, 278, 279, 280, 0, 0]
/-- which cell a field of a cell holds -/
def ma_rfs : List (List Nat) := [[], [], [3, 14, 21, 31, 40, 51, 53, 56, 57, 66, 0], [4, 5, 6, 7, 8, 9, 10, 11, 12, 13, 0, 0, 0, 0], [], [], [], [], [], [], [], [], [], [], [15, 17, 19, 20, 3], [], [], [], [], [], [], [22, 23, 24, 25, 26, 28, 29, 0, 30, 3], [], [], [], [], [], [], [], [], [], [32, 33, 34, 35, 36, 37, 38, 39, 3, 21], [], [], [], [], [], [], [], [], [41, 43, 44, 45, 46, 47, 48, 49, 50, 0, 0, 3], [], [], [], [], [], [], [], [], [], [], [52, 3, 21, 31, 40], [], [54], [], [], [3, 21, 31, 40, 53], [58, 61, 62, 0, 63, 64, 65], [59], [], [], [], [], [], [], [], [67, 68, 3], [], [], [], []]
def ma_rf (k i : Nat) : Nat := (ma_rfs.getD k []).getD i 0
theorem ma_ck_0 : ma_ck 0 = (8, 0, 1) := rfl
theorem ma_ck_1 : ma_ck 1 = (7, 4, 1) := rfl
theorem ma_ck_2 : ma_ck 2 = (20, 11, 1) := rfl
theorem ma_ck_3 : ma_ck 3 = (13, 14, 1) := rfl
theorem ma_ck_4 : ma_ck 4 = (3, 48, 1) := rfl
theorem ma_ck_5 : ma_ck 5 = (0, 48, 1) := rfl
theorem ma_ck_6 : ma_ck 6 = (0, 48, 1) := rfl
theorem ma_ck_7 : ma_ck 7 = (0, 48, 1) := rfl
theorem ma_ck_8 : ma_ck 8 = (0, 48, 1) := rfl
theorem ma_ck_9 : ma_ck 9 = (0, 48, 1) := rfl
theorem ma_ck_10 : ma_ck 10 = (0, 48, 1) := rfl
theorem ma_ck_11 : ma_ck 11 = (0, 6, 1) := rfl
theorem ma_ck_12 : ma_ck 12 = (0, 8, 1) := rfl
theorem ma_ck_13 : ma_ck 13 = (0, 6, 1) := rfl
theorem ma_ck_14 : ma_ck 14 = (14, 5, 1) := rfl
theorem ma_ck_15 : ma_ck 15 = (6, 48, 1) := rfl
theorem ma_ck_16 : ma_ck 16 = (1, 7, 48) := rfl
theorem ma_ck_17 : ma_ck 17 = (5, 48, 1) := rfl
theorem ma_ck_18 : ma_ck 18 = (0, 7, 48) := rfl
theorem ma_ck_19 : ma_ck 19 = (0, 48, 1) := rfl
theorem ma_ck_20 : ma_ck 20 = (0, 48, 1) := rfl
theorem ma_ck_21 : ma_ck 21 = (10, 10, 1) := rfl
theorem ma_ck_22 : ma_ck 22 = (0, 48, 1) := rfl
theorem ma_ck_23 : ma_ck 23 = (0, 48, 1) := rfl
theorem ma_ck_24 : ma_ck 24 = (0, 48, 1) := rfl
theorem ma_ck_25 : ma_ck 25 = (0, 48, 1) := rfl
theorem ma_ck_26 : ma_ck 26 = (5, 48, 1) := rfl
theorem ma_ck_27 : ma_ck 27 = (0, 4, 48) := rfl
theorem ma_ck_28 : ma_ck 28 = (0, 48, 1) := rfl
theorem ma_ck_29 : ma_ck 29 = (2, 48, 1) := rfl
theorem ma_ck_30 : ma_ck 30 = (0, 48, 1) := rfl
theorem ma_ck_31 : ma_ck 31 = (16, 10, 1) := rfl
theorem ma_ck_32 : ma_ck 32 = (0, 48, 1) := rfl
theorem ma_ck_33 : ma_ck 33 = (0, 36, 1) := rfl
theorem ma_ck_34 : ma_ck 34 = (2, 48, 1) := rfl
theorem ma_ck_35 : ma_ck 35 = (0, 48, 1) := rfl
theorem ma_ck_36 : ma_ck 36 = (0, 48, 1) := rfl
theorem ma_ck_37 : ma_ck 37 = (0, 48, 1) := rfl
theorem ma_ck_38 : ma_ck 38 = (0, 48, 1) := rfl
theorem ma_ck_39 : ma_ck 39 = (0, 3, 1) := rfl
theorem ma_ck_40 : ma_ck 40 = (17, 12, 1) := rfl
theorem ma_ck_41 : ma_ck 41 = (5, 48, 1) := rfl
theorem ma_ck_42 : ma_ck 42 = (0, 49, 48) := rfl
theorem ma_ck_43 : ma_ck 43 = (0, 48, 1) := rfl
theorem ma_ck_44 : ma_ck 44 = (0, 84, 1) := rfl
theorem ma_ck_45 : ma_ck 45 = (1, 48, 1) := rfl
theorem ma_ck_46 : ma_ck 46 = (0, 84, 1) := rfl
theorem ma_ck_47 : ma_ck 47 = (0, 49, 1) := rfl
theorem ma_ck_48 : ma_ck 48 = (0, 49, 1) := rfl
theorem ma_ck_49 : ma_ck 49 = (2, 49, 1) := rfl
theorem ma_ck_50 : ma_ck 50 = (0, 49, 1) := rfl
theorem ma_ck_51 : ma_ck 51 = (19, 5, 1) := rfl
theorem ma_ck_52 : ma_ck 52 = (0, 48, 1) := rfl
theorem ma_ck_53 : ma_ck 53 = (15, 1, 1) := rfl
theorem ma_ck_54 : ma_ck 54 = (5, 14, 1) := rfl
theorem ma_ck_55 : ma_ck 55 = (0, 36, 14) := rfl
theorem ma_ck_56 : ma_ck 56 = (11, 5, 1) := rfl
theorem ma_ck_57 : ma_ck 57 = (12, 7, 1) := rfl
theorem ma_ck_58 : ma_ck 58 = (15, 1, 1) := rfl
theorem ma_ck_59 : ma_ck 59 = (5, 14, 1) := rfl
theorem ma_ck_60 : ma_ck 60 = (0, 36, 14) := rfl
theorem ma_ck_61 : ma_ck 61 = (0, 6, 1) := rfl
theorem ma_ck_62 : ma_ck 62 = (0, 36, 1) := rfl
theorem ma_ck_63 : ma_ck 63 = (0, 36, 1) := rfl
theorem ma_ck_64 : ma_ck 64 = (0, 36, 1) := rfl
theorem ma_ck_65 : ma_ck 65 = (0, 144, 1) := rfl
theorem ma_ck_66 : ma_ck 66 = (18, 3, 1) := rfl
theorem ma_ck_67 : ma_ck 67 = (0, 48, 1) := rfl
theorem ma_ck_68 : ma_ck 68 = (0, 48, 1) := rfl
theorem ma_ck_69 : ma_ck 69 = (0, 430, 1) := rfl
theorem ma_ck_70 : ma_ck 70 = (0, 48, 1) := rfl
/-- the methods: class, name, descriptor; bytes, locals, answer; how many arguments beside the object; is it static; handlers; cells that it may make where it returns -/
abbrev ma_MT : Type := MethodName × ByteArray × Nat × Option FieldType × Nat × Bool × Nat
def ma_mt_0 : List ma_MT := [(⟨"Latticefit", "isRouted", "()Z"⟩, prog_1_method_21_code, 1, (Option.some FieldType.boolean), 0, false, 2),
  (⟨"Latticefit", "isConsistent", "()Z"⟩, prog_1_method_42_code, 1, (Option.some FieldType.boolean), 0, false, 2),
  (⟨"Latticefit$Circuit", "isSound", "()Z"⟩, prog_5_method_9_code, 2, (Option.some FieldType.boolean), 0, false, 2),
  (⟨"Latticefit$Circuit", "isGate", "(I)Z"⟩, prog_5_method_3_code, 2, (Option.some FieldType.boolean), 1, false, 2),
  (⟨"Latticefit$Circuit", "isNode", "(I)Z"⟩, prog_5_method_2_code, 2, (Option.some FieldType.boolean), 1, false, 2),
  (⟨"Latticefit$Places", "isSound", "()Z"⟩, prog_8_method_21_code, 4, (Option.some FieldType.boolean), 0, false, 2),
  (⟨"Latticefit$Routes", "isCrowded", "()Z"⟩, prog_9_method_5_code, 2, (Option.some FieldType.boolean), 0, false, 2),
  (⟨"LatticefitLaw", "map", "(LLatticefit;)I"⟩, method_8_code, 2, (Option.some FieldType.int), 1, true, 1),
  (⟨"Latticefit", "map", "()I"⟩, prog_1_method_8_code, 1, (Option.some FieldType.int), 0, false, 1),
  (⟨"Latticefit$Cuts", "findAll", "()V"⟩, prog_6_method_2_code, 2, (Option.none : Option FieldType), 0, false, 0),
  (⟨"Latticefit$Cuts", "offerAll", "(I)V"⟩, prog_6_method_4_code, 7, (Option.none : Option FieldType), 1, false, 0),
  (⟨"Latticefit$Cuts", "offer", "(IJI)V"⟩, prog_6_method_5_code, 8, (Option.none : Option FieldType), 3, false, 0),
  (⟨"java/lang/Long", "bitCount", "(J)I"⟩, prog_21_method_50_code, 2, (Option.some FieldType.int), 1, true, 1),
  (⟨"Latticefit$Cuts", "isBehind", "(IIJI)Z"⟩, prog_6_method_6_code, 8, (Option.some FieldType.boolean), 4, false, 2),
  (⟨"Latticefit$Blocks", "pack", "(LLatticefit$Cuts;)V"⟩, prog_2_method_2_code, 3, (Option.none : Option FieldType), 1, false, 0),
  (⟨"Latticefit$Blocks", "markNeeded", "(LLatticefit$Cuts;)V"⟩, prog_2_method_3_code, 4, (Option.none : Option FieldType), 1, false, 0),
  (⟨"Latticefit$Cuts", "own", "(I)J"⟩, prog_6_method_3_code, 2, (Option.some FieldType.long), 1, false, 4),
  (⟨"Latticefit$Blocks", "markCut", "(JI)V"⟩, prog_2_method_4_code, 5, (Option.none : Option FieldType), 2, false, 0),
  (⟨"Latticefit$Blocks", "isIn", "(JI)Z"⟩, prog_2_method_7_code, 3, (Option.some FieldType.boolean), 2, true, 2),
  (⟨"java/util/Arrays", "fill", "([II)V"⟩, prog_28_method_103_code, 4, (Option.none : Option FieldType), 2, true, 0),
  (⟨"Latticefit$Blocks", "putRegister", "(ILLatticefit$Cuts;)V"⟩, prog_2_method_5_code, 4, (Option.none : Option FieldType), 2, false, 0),
  (⟨"Latticefit$Blocks", "putGate", "(IJ)V"⟩, prog_2_method_6_code, 6, (Option.none : Option FieldType), 2, false, 0),
  (⟨"Latticefit$Circuit", "joined", "(I[I)I"⟩, prog_5_method_8_code, 6, (Option.some FieldType.int), 2, false, 1),
  (⟨"Latticefit$Places", "putAnew", "()V"⟩, prog_8_method_2_code, 2, (Option.none : Option FieldType), 0, false, 0),
  (⟨"Latticefit$Routes", "clear", "()V"⟩, prog_9_method_2_code, 2, (Option.none : Option FieldType), 0, false, 0),
  (⟨"java/util/Arrays", "fill", "([JJ)V"⟩, prog_28_method_101_code, 5, (Option.none : Option FieldType), 2, true, 0),
  (⟨"LatticefitLaw", "anneal", "(LLatticefit;III)I"⟩, method_10_code, 5, (Option.some FieldType.int), 4, true, 1),
  (⟨"Latticefit", "anneal", "(III)I"⟩, prog_1_method_16_code, 5, (Option.some FieldType.int), 3, false, 1),
  (⟨"Latticefit", "needStage", "(I)V"⟩, prog_1_method_43_code, 2, (Option.none : Option FieldType), 1, false, 0),
  (⟨"Latticefit$Places", "swapByChance", "(III)I"⟩, prog_8_method_16_code, 11, (Option.some FieldType.int), 3, false, 1),
  (⟨"Latticefit$Places", "nextChance", "(J)J"⟩, prog_8_method_17_code, 2, (Option.some FieldType.long), 1, true, 4),
  (⟨"Latticefit$Places", "cellTold", "(J)I"⟩, prog_8_method_18_code, 2, (Option.some FieldType.int), 1, true, 1),
  (⟨"Latticefit$Places", "maySwap", "(II)Z"⟩, prog_8_method_19_code, 3, (Option.some FieldType.boolean), 2, false, 2),
  (⟨"Latticefit$Places", "holdsFixed", "(I)Z"⟩, prog_8_method_3_code, 2, (Option.some FieldType.boolean), 1, false, 2),
  (⟨"Latticefit$Places", "swapIfGood", "(III)Z"⟩, prog_8_method_20_code, 6, (Option.some FieldType.boolean), 3, false, 2),
  (⟨"Latticefit$Places", "clockExcess", "()I"⟩, prog_8_method_15_code, 3, (Option.some FieldType.int), 0, false, 1),
  (⟨"Latticefit$Places", "cellOfNode", "(I)I"⟩, prog_8_method_5_code, 3, (Option.some FieldType.int), 1, false, 1),
  (⟨"java/lang/Integer", "bitCount", "(I)I"⟩, prog_20_method_49_code, 1, (Option.some FieldType.int), 1, true, 1),
  (⟨"Latticefit$Places", "findLengths", "()I"⟩, prog_8_method_12_code, 3, (Option.some FieldType.int), 0, false, 1),
  (⟨"Latticefit$Places", "sourceCrossing", "(I)I"⟩, prog_8_method_8_code, 2, (Option.some FieldType.int), 1, false, 1)]
def ma_mt_1 : List ma_MT := [(⟨"Latticefit$Places", "crossingAt", "(I)I"⟩, prog_8_method_6_code, 1, (Option.some FieldType.int), 1, true, 1),
  (⟨"Latticefit$Places", "stretchTo", "(II)V"⟩, prog_8_method_13_code, 5, (Option.none : Option FieldType), 2, false, 0),
  (⟨"Latticefit$Places", "crossingOfOutput", "(I)I"⟩, prog_8_method_7_code, 1, (Option.some FieldType.int), 1, true, 1),
  (⟨"Latticefit$Places", "lengthOf", "(I)I"⟩, prog_8_method_14_code, 2, (Option.some FieldType.int), 1, false, 1),
  (⟨"Latticefit$Places", "exchange", "(II)V"⟩, prog_8_method_4_code, 4, (Option.none : Option FieldType), 2, false, 0),
  (⟨"LatticefitLaw", "route", "(LLatticefit;I)I"⟩, method_12_code, 3, (Option.some FieldType.int), 2, true, 1),
  (⟨"Latticefit", "route", "(I)I"⟩, prog_1_method_20_code, 3, (Option.some FieldType.int), 1, false, 1),
  (⟨"Latticefit$Places", "putPins", "(LLatticefit$Routes;)V"⟩, prog_8_method_11_code, 4, (Option.none : Option FieldType), 1, false, 0),
  (⟨"Latticefit$Routes", "addSink", "(II)V"⟩, prog_9_method_3_code, 3, (Option.none : Option FieldType), 2, false, 0),
  (⟨"Latticefit$Routes", "makeRounds", "(I)I"⟩, prog_9_method_4_code, 4, (Option.some FieldType.int), 1, false, 1),
  (⟨"Latticefit$Routes", "giveUp", "(I)V"⟩, prog_9_method_7_code, 4, (Option.none : Option FieldType), 1, false, 0),
  (⟨"Latticefit", "isEdge", "(I)Z"⟩, prog_1_method_48_code, 1, (Option.some FieldType.boolean), 1, true, 2),
  (⟨"Latticefit$Routes", "layTree", "(I)V"⟩, prog_9_method_8_code, 3, (Option.none : Option FieldType), 1, false, 0),
  (⟨"Latticefit$Routes", "isInTree", "(II)Z"⟩, prog_9_method_9_code, 3, (Option.some FieldType.boolean), 2, false, 2),
  (⟨"Latticefit$Routes", "addWay", "(II)V"⟩, prog_9_method_10_code, 5, (Option.none : Option FieldType), 2, false, 0),
  (⟨"Latticefit$Routes", "openTree", "(I)V"⟩, prog_9_method_11_code, 3, (Option.none : Option FieldType), 1, false, 0),
  (⟨"Latticefit$Routes", "takeCheapest", "()I"⟩, prog_9_method_12_code, 4, (Option.some FieldType.int), 0, false, 1),
  (⟨"Latticefit$Routes", "openNeighbours", "(I)V"⟩, prog_9_method_13_code, 5, (Option.none : Option FieldType), 1, false, 0),
  (⟨"Latticefit$Routes", "offerWay", "(III)V"⟩, prog_9_method_14_code, 5, (Option.none : Option FieldType), 3, false, 0),
  (⟨"Latticefit$Routes", "tollOf", "(I)I"⟩, prog_9_method_15_code, 3, (Option.some FieldType.int), 1, false, 1),
  (⟨"Latticefit$Routes", "takeWay", "(II)V"⟩, prog_9_method_16_code, 6, (Option.none : Option FieldType), 2, false, 0),
  (⟨"Latticefit$Routes", "otherEnd", "(II)I"⟩, prog_9_method_18_code, 4, (Option.some FieldType.int), 2, true, 1),
  (⟨"Latticefit$Routes", "lowEnd", "(I)I"⟩, prog_9_method_17_code, 2, (Option.some FieldType.int), 1, true, 1),
  (⟨"Latticefit$Routes", "raisePrices", "()V"⟩, prog_9_method_6_code, 2, (Option.none : Option FieldType), 0, false, 0),
  (⟨"LatticefitLaw", "build", "(LLatticefit;)I"⟩, method_13_code, 2, (Option.some FieldType.int), 1, true, 1),
  (⟨"Latticefit", "build", "()I"⟩, prog_1_method_27_code, 1, (Option.some FieldType.int), 0, false, 1),
  (⟨"Latticefit$Builder", "fillFrames", "()V"⟩, prog_3_method_2_code, 3, (Option.none : Option FieldType), 0, false, 0),
  (⟨"Latticefit$Frames", "clear", "()V"⟩, prog_7_method_3_code, 2, (Option.none : Option FieldType), 0, false, 0),
  (⟨"Latticefit$Builder", "putBlock", "(I)V"⟩, prog_3_method_3_code, 5, (Option.none : Option FieldType), 1, false, 0),
  (⟨"Latticefit$Frames", "putCellWord", "(III)V"⟩, prog_7_method_8_code, 4, (Option.none : Option FieldType), 3, false, 0),
  (⟨"Latticefit$Builder", "codeAt", "(II)I"⟩, prog_3_method_5_code, 4, (Option.some FieldType.int), 2, false, 1),
  (⟨"Latticefit$Places", "sourceCode", "(I)I"⟩, prog_8_method_9_code, 3, (Option.some FieldType.int), 1, false, 1),
  (⟨"Latticefit$Routes", "wire", "(II)I"⟩, prog_9_method_21_code, 5, (Option.some FieldType.int), 2, false, 1),
  (⟨"Latticefit$Routes", "has", "(II)Z"⟩, prog_9_method_19_code, 4, (Option.some FieldType.boolean), 2, false, 2),
  (⟨"Latticefit$Builder", "putNet", "(I)V"⟩, prog_3_method_4_code, 5, (Option.none : Option FieldType), 1, false, 0),
  (⟨"Latticefit$Frames", "putWireWord", "(II)V"⟩, prog_7_method_10_code, 4, (Option.none : Option FieldType), 2, false, 0),
  (⟨"Latticefit$Frames", "frameOfEdge", "(I)I"⟩, prog_7_method_12_code, 1, (Option.some FieldType.int), 1, true, 1),
  (⟨"Latticefit$Frames", "indexOfEdge", "(I)I"⟩, prog_7_method_13_code, 4, (Option.some FieldType.int), 1, true, 1),
  (⟨"Latticefit$Frames", "wordsInUse", "()I"⟩, prog_7_method_5_code, 4, (Option.some FieldType.int), 0, false, 1),
  (⟨"LatticefitLaw", "wordAt", "(LLatticefit;II)I"⟩, method_14_code, 4, (Option.some FieldType.int), 3, true, 1)]
def ma_mt_2 : List ma_MT := [(⟨"Latticefit", "wordAt", "(II)I"⟩, prog_1_method_28_code, 3, (Option.some FieldType.int), 2, false, 1),
  (⟨"Latticefit", "needFrame", "(II)V"⟩, prog_1_method_45_code, 3, (Option.none : Option FieldType), 2, false, 0),
  (⟨"Latticefit$Frames", "lengthOf", "(I)I"⟩, prog_7_method_2_code, 2, (Option.some FieldType.int), 1, true, 1),
  (⟨"LatticefitLaw", "start", "(LLatticefit;)I"⟩, method_15_code, 2, (Option.some FieldType.int), 1, true, 1),
  (⟨"Latticefit", "start", "()I"⟩, prog_1_method_30_code, 3, (Option.some FieldType.int), 0, false, 1),
  (⟨"Latticefit$Chip", "reset", "(LLatticefit$Frames;)V"⟩, prog_4_method_2_code, 3, (Option.none : Option FieldType), 1, false, 0),
  (⟨"Latticefit$Frames", "copyFrame", "(LLatticefit$Frames;I)V"⟩, prog_7_method_4_code, 3, (Option.none : Option FieldType), 2, false, 0),
  (⟨"Latticefit$Runner", "reset", "()V"⟩, prog_10_method_2_code, 2, (Option.none : Option FieldType), 0, false, 0),
  (⟨"LatticefitLaw", "tick", "(LLatticefit;I)J"⟩, method_16_code, 3, (Option.some FieldType.long), 2, true, 4),
  (⟨"Latticefit", "tick", "(I)J"⟩, prog_1_method_32_code, 2, (Option.some FieldType.long), 1, false, 4),
  (⟨"Latticefit$Runner", "takeTick", "(I[I)V"⟩, prog_10_method_5_code, 5, (Option.none : Option FieldType), 2, false, 0),
  (⟨"Latticefit$Runner", "findValues", "([I)V"⟩, prog_10_method_3_code, 3, (Option.none : Option FieldType), 1, false, 0),
  (⟨"Latticefit$Chip", "takeTick", "(I)V"⟩, prog_4_method_8_code, 4, (Option.none : Option FieldType), 1, false, 0),
  (⟨"Latticefit$Chip", "findTables", "()V"⟩, prog_4_method_3_code, 3, (Option.none : Option FieldType), 0, false, 0),
  (⟨"Latticefit$Chip", "findEnds", "()V"⟩, prog_4_method_4_code, 3, (Option.none : Option FieldType), 0, false, 0),
  (⟨"Latticefit$Frames", "cellWord", "(II)I"⟩, prog_7_method_7_code, 3, (Option.some FieldType.int), 2, false, 1),
  (⟨"Latticefit$Frames", "endOf", "(I)I"⟩, prog_7_method_14_code, 4, (Option.some FieldType.int), 1, false, 1),
  (⟨"Latticefit$Frames", "isWire", "(I)Z"⟩, prog_7_method_11_code, 1, (Option.some FieldType.boolean), 1, true, 2),
  (⟨"Latticefit$Frames", "wireWord", "(I)I"⟩, prog_7_method_9_code, 3, (Option.some FieldType.int), 1, false, 1),
  (⟨"Latticefit$Chip", "renewTables", "()Z"⟩, prog_4_method_5_code, 5, (Option.some FieldType.boolean), 0, false, 2),
  (⟨"Latticefit$Chip", "valueOfEnd", "(I[I)I"⟩, prog_4_method_6_code, 4, (Option.some FieldType.int), 2, false, 1),
  (⟨"LatticefitLaw", "sourceOf", "(LLatticefit;II)I"⟩, method_17_code, 4, (Option.some FieldType.int), 3, true, 1),
  (⟨"Latticefit", "sourceOf", "(II)I"⟩, prog_1_method_36_code, 4, (Option.some FieldType.int), 2, false, 1),
  (⟨"Latticefit", "isCell", "(I)Z"⟩, prog_1_method_47_code, 1, (Option.some FieldType.boolean), 1, true, 2),
  (⟨"Latticefit$Places", "nodeOfCode", "(I)I"⟩, prog_8_method_10_code, 3, (Option.some FieldType.int), 1, false, 1),
  (⟨"LatticefitLaw", "flip", "(LLatticefit;III)I"⟩, method_18_code, 5, (Option.some FieldType.int), 4, true, 1),
  (⟨"Latticefit", "flip", "(III)I"⟩, prog_1_method_37_code, 4, (Option.some FieldType.int), 3, false, 1),
  (⟨"LatticefitLaw", "scrub", "(LLatticefit;)I"⟩, method_19_code, 2, (Option.some FieldType.int), 1, true, 1),
  (⟨"Latticefit", "scrub", "()I"⟩, prog_1_method_39_code, 3, (Option.some FieldType.int), 0, false, 1),
  (⟨"Latticefit$Frames", "sumOf", "(I)I"⟩, prog_7_method_6_code, 5, (Option.some FieldType.int), 1, false, 1),
  (⟨"LatticefitLaw", "setInput", "(LLatticefit;IZ)I"⟩, method_20_code, 4, (Option.some FieldType.int), 3, true, 1),
  (⟨"Latticefit", "setInput", "(IZ)Z"⟩, prog_1_method_31_code, 4, (Option.some FieldType.boolean), 2, false, 2),
  (⟨"LatticefitLaw", "circuitOutput", "(LLatticefit;I)I"⟩, method_21_code, 3, (Option.some FieldType.int), 2, true, 1),
  (⟨"Latticefit", "circuitOutput", "(I)Z"⟩, prog_1_method_33_code, 2, (Option.some FieldType.boolean), 1, false, 2),
  (⟨"Latticefit", "needOutput", "(I)V"⟩, prog_1_method_46_code, 2, (Option.none : Option FieldType), 1, false, 0),
  (⟨"Latticefit$Runner", "outputValue", "(I)I"⟩, prog_10_method_4_code, 2, (Option.some FieldType.int), 1, false, 1),
  (⟨"LatticefitLaw", "chipOutput", "(LLatticefit;I)I"⟩, method_22_code, 3, (Option.some FieldType.int), 2, true, 1),
  (⟨"Latticefit", "chipOutput", "(I)Z"⟩, prog_1_method_34_code, 2, (Option.some FieldType.boolean), 1, false, 2),
  (⟨"Latticefit$Chip", "outputValue", "(I)I"⟩, prog_4_method_7_code, 2, (Option.some FieldType.int), 1, false, 1),
  (⟨"LatticefitLaw", "chipRegister", "(LLatticefit;I)I"⟩, method_23_code, 3, (Option.some FieldType.int), 2, true, 1)]
def ma_mt_3 : List ma_MT := [(⟨"Latticefit", "chipRegister", "(I)Z"⟩, prog_1_method_35_code, 2, (Option.some FieldType.boolean), 1, false, 2),
  (⟨"LatticefitLaw", "isBad", "(LLatticefit;I)I"⟩, method_24_code, 3, (Option.some FieldType.int), 2, true, 1),
  (⟨"Latticefit", "isBad", "(I)Z"⟩, prog_1_method_38_code, 2, (Option.some FieldType.boolean), 1, false, 2),
  (⟨"LatticefitLaw", "in", "([III)I"⟩, method_26_code, 3, (Option.some FieldType.int), 3, true, 1),
  (⟨"LatticefitLaw", "cell", "([II)I"⟩, method_2_code, 3, (Option.some FieldType.int), 2, true, 1),
  (⟨"LatticefitLaw", "begun", "([I[I)LLatticefit;"⟩, method_29_code, 8, (Option.some (FieldType.object "Latticefit")), 2, true, 9),
  (⟨"LatticefitLaw", "isNode", "(LLatticefit;[IIII)Z"⟩, method_28_code, 7, (Option.some FieldType.boolean), 5, true, 2),
  (⟨"LatticefitLaw", "at", "(I)I"⟩, method_27_code, 1, (Option.some FieldType.int), 1, true, 1),
  (⟨"LatticefitLaw", "addInput", "(LLatticefit;)I"⟩, method_3_code, 2, (Option.some FieldType.int), 1, true, 1),
  (⟨"Latticefit", "addInput", "()I"⟩, prog_1_method_2_code, 1, (Option.some FieldType.int), 0, false, 1),
  (⟨"Latticefit$Circuit", "putInput", "()I"⟩, prog_5_method_4_code, 1, (Option.some FieldType.int), 0, false, 1),
  (⟨"LatticefitLaw", "addRegister", "(LLatticefit;ZI)I"⟩, method_4_code, 4, (Option.some FieldType.int), 3, true, 1),
  (⟨"Latticefit", "addRegister", "(ZI)I"⟩, prog_1_method_3_code, 3, (Option.some FieldType.int), 2, false, 1),
  (⟨"Latticefit$Circuit", "putRegister", "(ZI)I"⟩, prog_5_method_5_code, 3, (Option.some FieldType.int), 2, false, 1),
  (⟨"LatticefitLaw", "addGate", "(LLatticefit;CII)I"⟩, method_5_code, 5, (Option.some FieldType.int), 4, true, 1),
  (⟨"Latticefit", "addGate", "(CII)I"⟩, prog_1_method_4_code, 4, (Option.some FieldType.int), 3, false, 1),
  (⟨"Latticefit$Circuit", "putGate", "(CII)I"⟩, prog_5_method_6_code, 4, (Option.some FieldType.int), 3, false, 1),
  (⟨"LatticefitLaw", "feed", "(LLatticefit;II)I"⟩, method_6_code, 4, (Option.some FieldType.int), 3, true, 1),
  (⟨"Latticefit", "feed", "(II)I"⟩, prog_1_method_5_code, 4, (Option.some FieldType.int), 2, false, 1),
  (⟨"LatticefitLaw", "addOutput", "(LLatticefit;I)I"⟩, method_7_code, 3, (Option.some FieldType.int), 2, true, 1),
  (⟨"Latticefit", "addOutput", "(I)I"⟩, prog_1_method_6_code, 2, (Option.some FieldType.int), 1, false, 1),
  (⟨"Latticefit$Circuit", "putOutput", "(I)I"⟩, prog_5_method_7_code, 2, (Option.some FieldType.int), 1, false, 1),
  (⟨"LatticefitLaw", "areOutputs", "(LLatticefit;[IZ)Z"⟩, method_32_code, 6, (Option.some FieldType.boolean), 3, true, 2),
  (⟨"LatticefitLaw", "values", "([I)[I"⟩, method_31_code, 4, (Option.some (FieldType.array FieldType.int)), 1, true, 9),
  (⟨"LatticefitLaw", "of", "(III)I"⟩, method_30_code, 3, (Option.some FieldType.int), 3, true, 1),
  (⟨"LatticefitLaw", "agrees", "(LLatticefit;)I"⟩, method_25_code, 2, (Option.some FieldType.int), 1, true, 1),
  (⟨"Latticefit", "agrees", "()Z"⟩, prog_1_method_40_code, 3, (Option.some FieldType.boolean), 0, false, 2),
  (⟨"LatticefitLaw", "begins", "([I)V"⟩, method_33_code, 2, (Option.none : Option FieldType), 1, true, 0),
  (⟨"LatticefitLaw", "ticks", "([II)V"⟩, method_34_code, 5, (Option.none : Option FieldType), 2, true, 0),
  (⟨"LatticefitLaw", "areSources", "(LLatticefit;I)Z"⟩, method_35_code, 6, (Option.some FieldType.boolean), 2, true, 2),
  (⟨"LatticefitLaw", "inputOf", "(LLatticefit;II)I"⟩, method_9_code, 4, (Option.some FieldType.int), 3, true, 1),
  (⟨"Latticefit", "inputOf", "(II)I"⟩, prog_1_method_12_code, 3, (Option.some FieldType.int), 2, false, 1),
  (⟨"Latticefit", "needBlock", "(I)V"⟩, prog_1_method_44_code, 2, (Option.none : Option FieldType), 1, false, 0),
  (⟨"LatticefitLaw", "cellOf", "(LLatticefit;I)I"⟩, method_11_code, 3, (Option.some FieldType.int), 2, true, 1),
  (⟨"Latticefit", "cellOf", "(I)I"⟩, prog_1_method_17_code, 2, (Option.some FieldType.int), 1, false, 1)]
def ma_mt (y : Nat) : ma_MT := if y < 40 then ma_mt_0.getD (y - 0) (⟨"", "", ""⟩, ⟨#[]⟩, 0, none, 0, false, 0) else if y < 80 then ma_mt_1.getD (y - 40) (⟨"", "", ""⟩, ⟨#[]⟩, 0, none, 0, false, 0) else if y < 120 then ma_mt_2.getD (y - 80) (⟨"", "", ""⟩, ⟨#[]⟩, 0, none, 0, false, 0) else if y < 155 then ma_mt_3.getD (y - 120) (⟨"", "", ""⟩, ⟨#[]⟩, 0, none, 0, false, 0) else (⟨"", "", ""⟩, ⟨#[]⟩, 0, none, 0, false, 0)
def ma_nM : Nat := 155
abbrev ma_y (y : Nat) : MethodName := (ma_mt y).1
abbrev ma_b (y : Nat) : ByteArray := (ma_mt y).2.1
abbrev ma_nL (y : Nat) : Nat := (ma_mt y).2.2.1
abbrev ma_ret (y : Nat) : Option FieldType := (ma_mt y).2.2.2.1
abbrev ma_stat (y : Nat) : Bool := (ma_mt y).2.2.2.2.2.1
abbrev ma_rk (y : Nat) : Nat := (ma_mt y).2.2.2.2.2.2
def ma_nas : List Nat := [0, 0, 0, 1, 1, 0, 0, 1, 0, 0, 1, 3, 1, 4, 1, 1, 1, 2, 2, 2, 2, 2, 2, 0, 0, 2, 4, 3, 1, 3, 1, 1, 2, 1, 3, 0, 1, 1, 0, 1, 1, 2, 1, 1, 2, 2, 1, 1, 2, 1, 1, 1, 1, 2, 2, 1, 0, 1, 3, 1, 2, 2, 1, 0, 1, 0, 0, 0, 1, 3, 2, 1, 2, 2, 1, 2, 1, 1, 0, 3, 2, 2, 1, 1, 0, 1, 2, 0, 2, 1, 2, 1, 1, 0, 0, 2, 1, 1, 1, 0, 2, 3, 2, 1, 1, 4, 3, 1, 0, 1, 3, 2, 2, 1, 1, 1, 2, 1, 1, 2, 1, 2, 1, 3, 2, 2, 5, 1, 1, 0, 0, 3, 2, 2, 4, 3, 3, 3, 2, 2, 1, 1, 3, 1, 3, 1, 0, 1, 2, 2, 3, 2, 1, 2, 1]
def ma_na (y : Nat) : Nat := ma_nas.getD y 0
/-- how many cells a call may cost, whatever its end -/
def ma_ws : List Nat := [0, 0, 0, 0, 0, 0, 0, 1, 1, 0, 0, 0, 0, 0, 0, 0, 0, 0, 0, 0, 0, 0, 0, 0, 0, 0, 2, 2, 1, 0, 0, 0, 0, 0, 0, 0, 0, 0, 0, 0, 0, 0, 0, 0, 0, 2, 2, 0, 0, 0, 0, 0, 0, 0, 0, 0, 0, 0, 0, 0, 0, 0, 0, 0, 1, 1, 0, 0, 0, 0, 0, 0, 0, 0, 0, 0, 0, 0, 0, 3, 3, 2, 0, 1, 1, 0, 0, 0, 2, 2, 0, 0, 0, 0, 0, 0, 0, 0, 0, 0, 0, 2, 2, 0, 0, 3, 3, 1, 1, 0, 2, 2, 2, 2, 2, 0, 2, 2, 0, 2, 2, 2, 2, 0, 0, 400, 3, 0, 1, 1, 0, 1, 1, 0, 1, 1, 0, 1, 1, 1, 1, 0, 40, 8, 0, 1, 1, 0, 8, 600, 2, 2, 1, 1, 1]
def ma_wc (y : Nat) : Nat := ma_ws.getD y 0
def ma_hs : List (Nat × List (Nat × Nat × Nat × Nat)) := [(7, [(0, 4, 5, 0), (0, 4, 9, 1)]), (26, [(0, 7, 8, 2), (0, 7, 13, 0)]), (45, [(0, 5, 6, 2), (0, 5, 10, 0)]), (64, [(0, 4, 5, 0)]), (79, [(0, 6, 7, 3), (0, 6, 11, 0), (0, 6, 15, 4)]), (83, [(0, 4, 5, 0)]), (88, [(0, 5, 6, 2), (0, 5, 11, 0)]), (101, [(0, 6, 7, 3), (0, 6, 11, 0), (0, 6, 15, 4)]), (105, [(0, 7, 8, 3), (0, 7, 13, 0), (0, 7, 18, 4)]), (107, [(0, 4, 5, 0)]), (110, [(0, 14, 15, 3), (0, 14, 19, 0)]), (112, [(0, 13, 14, 3), (0, 13, 18, 0)]), (116, [(0, 13, 14, 3), (0, 13, 18, 0)]), (119, [(0, 13, 14, 3), (0, 13, 18, 0)]), (121, [(0, 13, 14, 3), (0, 13, 18, 0)]), (128, [(0, 4, 5, 0)]), (131, [(0, 6, 7, 2), (0, 6, 11, 0)]), (134, [(0, 7, 8, 2), (0, 7, 13, 3), (0, 7, 18, 0)]), (137, [(0, 6, 7, 3), (0, 6, 11, 0)]), (139, [(0, 5, 6, 3), (0, 5, 10, 0)]), (145, [(0, 12, 13, 0)]), (150, [(0, 6, 7, 3), (0, 6, 11, 0), (0, 6, 15, 4)]), (153, [(0, 5, 6, 3), (0, 5, 10, 0)])]
def ma_hh (y : Nat) : List (Nat × Nat × Nat × Nat) := ((ma_hs.find? (fun q => q.1 == y)).getD (0, [])).2
/-- the same with the class entries -/
def ma_hcs : List (Nat × List (Nat × Nat × Nat × Nat)) := [(7, [(0, 4, 5, 15), (0, 4, 9, 43)]), (26, [(0, 7, 8, 22), (0, 7, 13, 15)]), (45, [(0, 5, 6, 22), (0, 5, 10, 15)]), (64, [(0, 4, 5, 15)]), (79, [(0, 6, 7, 29), (0, 6, 11, 15), (0, 6, 15, 48)]), (83, [(0, 4, 5, 15)]), (88, [(0, 5, 6, 22), (0, 5, 11, 15)]), (101, [(0, 6, 7, 29), (0, 6, 11, 15), (0, 6, 15, 48)]), (105, [(0, 7, 8, 29), (0, 7, 13, 15), (0, 7, 18, 48)]), (107, [(0, 4, 5, 15)]), (110, [(0, 14, 15, 29), (0, 14, 19, 15)]), (112, [(0, 13, 14, 29), (0, 13, 18, 15)]), (116, [(0, 13, 14, 29), (0, 13, 18, 15)]), (119, [(0, 13, 14, 29), (0, 13, 18, 15)]), (121, [(0, 13, 14, 29), (0, 13, 18, 15)]), (128, [(0, 4, 5, 15)]), (131, [(0, 6, 7, 22), (0, 6, 11, 15)]), (134, [(0, 7, 8, 22), (0, 7, 13, 29), (0, 7, 18, 15)]), (137, [(0, 6, 7, 29), (0, 6, 11, 15)]), (139, [(0, 5, 6, 29), (0, 5, 10, 15)]), (145, [(0, 12, 13, 15)]), (150, [(0, 6, 7, 29), (0, 6, 11, 15), (0, 6, 15, 48)]), (153, [(0, 5, 6, 29), (0, 5, 10, 15)])]
def ma_hc (y : Nat) : List (Nat × Nat × Nat × Nat) := ((ma_hcs.find? (fun q => q.1 == y)).getD (0, [])).2
abbrev mi_Latticefit_isRouted : Nat := 0
abbrev mi_Latticefit_isConsistent : Nat := 1
abbrev mi_Circuit_isSound : Nat := 2
abbrev mi_Circuit_isGate : Nat := 3
abbrev mi_Circuit_isNode : Nat := 4
abbrev mi_Places_isSound : Nat := 5
abbrev mi_Routes_isCrowded : Nat := 6
abbrev mi_LatticefitLaw_map : Nat := 7
abbrev mi_Latticefit_map : Nat := 8
abbrev mi_Cuts_findAll : Nat := 9
abbrev mi_Cuts_offerAll : Nat := 10
abbrev mi_Cuts_offer : Nat := 11
abbrev mi_Long_bitCount : Nat := 12
abbrev mi_Cuts_isBehind : Nat := 13
abbrev mi_Blocks_pack : Nat := 14
abbrev mi_Blocks_markNeeded : Nat := 15
abbrev mi_Cuts_own : Nat := 16
abbrev mi_Blocks_markCut : Nat := 17
abbrev mi_Blocks_isIn : Nat := 18
abbrev mi_Arrays_fill_AIIV : Nat := 19
abbrev mi_Blocks_putRegister : Nat := 20
abbrev mi_Blocks_putGate : Nat := 21
abbrev mi_Circuit_joined : Nat := 22
abbrev mi_Places_putAnew : Nat := 23
abbrev mi_Routes_clear : Nat := 24
abbrev mi_Arrays_fill_AJJV : Nat := 25
abbrev mi_LatticefitLaw_anneal : Nat := 26
abbrev mi_Latticefit_anneal : Nat := 27
abbrev mi_Latticefit_needStage : Nat := 28
abbrev mi_Places_swapByChance : Nat := 29
abbrev mi_Places_nextChance : Nat := 30
abbrev mi_Places_cellTold : Nat := 31
abbrev mi_Places_maySwap : Nat := 32
abbrev mi_Places_holdsFixed : Nat := 33
abbrev mi_Places_swapIfGood : Nat := 34
abbrev mi_Places_clockExcess : Nat := 35
abbrev mi_Places_cellOfNode : Nat := 36
abbrev mi_Integer_bitCount : Nat := 37
abbrev mi_Places_findLengths : Nat := 38
abbrev mi_Places_sourceCrossing : Nat := 39
abbrev mi_Places_crossingAt : Nat := 40
abbrev mi_Places_stretchTo : Nat := 41
abbrev mi_Places_crossingOfOutput : Nat := 42
abbrev mi_Places_lengthOf : Nat := 43
abbrev mi_Places_exchange : Nat := 44
abbrev mi_LatticefitLaw_route : Nat := 45
abbrev mi_Latticefit_route : Nat := 46
abbrev mi_Places_putPins : Nat := 47
abbrev mi_Routes_addSink : Nat := 48
abbrev mi_Routes_makeRounds : Nat := 49
abbrev mi_Routes_giveUp : Nat := 50
abbrev mi_Latticefit_isEdge : Nat := 51
abbrev mi_Routes_layTree : Nat := 52
abbrev mi_Routes_isInTree : Nat := 53
abbrev mi_Routes_addWay : Nat := 54
abbrev mi_Routes_openTree : Nat := 55
abbrev mi_Routes_takeCheapest : Nat := 56
abbrev mi_Routes_openNeighbours : Nat := 57
abbrev mi_Routes_offerWay : Nat := 58
abbrev mi_Routes_tollOf : Nat := 59
abbrev mi_Routes_takeWay : Nat := 60
abbrev mi_Routes_otherEnd : Nat := 61
abbrev mi_Routes_lowEnd : Nat := 62
abbrev mi_Routes_raisePrices : Nat := 63
abbrev mi_LatticefitLaw_build : Nat := 64
abbrev mi_Latticefit_build : Nat := 65
abbrev mi_Builder_fillFrames : Nat := 66
abbrev mi_Frames_clear : Nat := 67
abbrev mi_Builder_putBlock : Nat := 68
abbrev mi_Frames_putCellWord : Nat := 69
abbrev mi_Builder_codeAt : Nat := 70
abbrev mi_Places_sourceCode : Nat := 71
abbrev mi_Routes_wire : Nat := 72
abbrev mi_Routes_has : Nat := 73
abbrev mi_Builder_putNet : Nat := 74
abbrev mi_Frames_putWireWord : Nat := 75
abbrev mi_Frames_frameOfEdge : Nat := 76
abbrev mi_Frames_indexOfEdge : Nat := 77
abbrev mi_Frames_wordsInUse : Nat := 78
abbrev mi_LatticefitLaw_wordAt : Nat := 79
abbrev mi_Latticefit_wordAt : Nat := 80
abbrev mi_Latticefit_needFrame : Nat := 81
abbrev mi_Frames_lengthOf : Nat := 82
abbrev mi_LatticefitLaw_start : Nat := 83
abbrev mi_Latticefit_start : Nat := 84
abbrev mi_Chip_reset : Nat := 85
abbrev mi_Frames_copyFrame : Nat := 86
abbrev mi_Runner_reset : Nat := 87
abbrev mi_LatticefitLaw_tick : Nat := 88
abbrev mi_Latticefit_tick : Nat := 89
abbrev mi_Runner_takeTick : Nat := 90
abbrev mi_Runner_findValues : Nat := 91
abbrev mi_Chip_takeTick : Nat := 92
abbrev mi_Chip_findTables : Nat := 93
abbrev mi_Chip_findEnds : Nat := 94
abbrev mi_Frames_cellWord : Nat := 95
abbrev mi_Frames_endOf : Nat := 96
abbrev mi_Frames_isWire : Nat := 97
abbrev mi_Frames_wireWord : Nat := 98
abbrev mi_Chip_renewTables : Nat := 99
abbrev mi_Chip_valueOfEnd : Nat := 100
abbrev mi_LatticefitLaw_sourceOf : Nat := 101
abbrev mi_Latticefit_sourceOf : Nat := 102
abbrev mi_Latticefit_isCell : Nat := 103
abbrev mi_Places_nodeOfCode : Nat := 104
abbrev mi_LatticefitLaw_flip : Nat := 105
abbrev mi_Latticefit_flip : Nat := 106
abbrev mi_LatticefitLaw_scrub : Nat := 107
abbrev mi_Latticefit_scrub : Nat := 108
abbrev mi_Frames_sumOf : Nat := 109
abbrev mi_LatticefitLaw_setInput : Nat := 110
abbrev mi_Latticefit_setInput : Nat := 111
abbrev mi_LatticefitLaw_circuitOutput : Nat := 112
abbrev mi_Latticefit_circuitOutput : Nat := 113
abbrev mi_Latticefit_needOutput : Nat := 114
abbrev mi_Runner_outputValue : Nat := 115
abbrev mi_LatticefitLaw_chipOutput : Nat := 116
abbrev mi_Latticefit_chipOutput : Nat := 117
abbrev mi_Chip_outputValue : Nat := 118
abbrev mi_LatticefitLaw_chipRegister : Nat := 119
abbrev mi_Latticefit_chipRegister : Nat := 120
abbrev mi_LatticefitLaw_isBad : Nat := 121
abbrev mi_Latticefit_isBad : Nat := 122
abbrev mi_LatticefitLaw_in : Nat := 123
abbrev mi_LatticefitLaw_cell : Nat := 124
abbrev mi_LatticefitLaw_begun : Nat := 125
abbrev mi_LatticefitLaw_isNode : Nat := 126
abbrev mi_LatticefitLaw_at : Nat := 127
abbrev mi_LatticefitLaw_addInput : Nat := 128
abbrev mi_Latticefit_addInput : Nat := 129
abbrev mi_Circuit_putInput : Nat := 130
abbrev mi_LatticefitLaw_addRegister : Nat := 131
abbrev mi_Latticefit_addRegister : Nat := 132
abbrev mi_Circuit_putRegister : Nat := 133
abbrev mi_LatticefitLaw_addGate : Nat := 134
abbrev mi_Latticefit_addGate : Nat := 135
abbrev mi_Circuit_putGate : Nat := 136
abbrev mi_LatticefitLaw_feed : Nat := 137
abbrev mi_Latticefit_feed : Nat := 138
abbrev mi_LatticefitLaw_addOutput : Nat := 139
abbrev mi_Latticefit_addOutput : Nat := 140
abbrev mi_Circuit_putOutput : Nat := 141
abbrev mi_LatticefitLaw_areOutputs : Nat := 142
abbrev mi_LatticefitLaw_values : Nat := 143
abbrev mi_LatticefitLaw_of : Nat := 144
abbrev mi_LatticefitLaw_agrees : Nat := 145
abbrev mi_Latticefit_agrees : Nat := 146
abbrev mi_LatticefitLaw_begins : Nat := 147
abbrev mi_LatticefitLaw_ticks : Nat := 148
abbrev mi_LatticefitLaw_areSources : Nat := 149
abbrev mi_LatticefitLaw_inputOf : Nat := 150
abbrev mi_Latticefit_inputOf : Nat := 151
abbrev mi_Latticefit_needBlock : Nat := 152
abbrev mi_LatticefitLaw_cellOf : Nat := 153
abbrev mi_Latticefit_cellOf : Nat := 154
/-- the thrown classes -/
def ma_exs : List String := ["java/lang/IllegalStateException", "java/lang/UnsupportedOperationException", "java/lang/IllegalArgumentException", "java/lang/IndexOutOfBoundsException", "java/util/NoSuchElementException"]
def ma_ex (e : Nat) : String := ma_exs.getD e ""
def ma_owns : List String := ["Latticefit$Blocks", "Latticefit$Builder", "Latticefit$Chip", "Latticefit$Circuit", "Latticefit$Cuts", "Latticefit$Frames", "Latticefit$Places", "Latticefit$Routes", "Latticefit$Runner", "Latticefit$Times", "Latticefit", "LatticefitLaw", "java/lang/Integer", "java/lang/Long", "java/util/Arrays"]
def ma_own (i : Nat) : String := ma_owns.getD i ""
