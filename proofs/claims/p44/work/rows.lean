section
-- ===== PART A: goes FIRST, ahead of the names: the tables' words, and 'selects' of the private methods out of them =====
/-- a private method of a class that the tables say can be made, by its rows of tables_1 -/
def lw_okq (q : MethodName × Nat) : Prop := (q.1.cls ≠ "java/lang/invoke/MethodHandle" ∧ q.1.cls ≠ "java/lang/invoke/VarHandle") ∧ Cond.instantiable q.1.cls q.2 ∈ tables_1 ∧ Cond.privateMethod q.1 ∈ tables_1 ∧ Cond.instanceMethod q.1 ∈ tables_1
theorem lw_p0 : lw_okq (⟨"java/lang/Throwable", "fillInStackTrace", "(I)Ljava/lang/Throwable;"⟩, 6) := ⟨⟨by decide +kernel, by decide +kernel⟩, List.mem_of_getElem? (i := 516) (by decide +kernel), List.mem_of_getElem? (i := 514) (by decide +kernel), List.mem_of_getElem? (i := 515) (by decide +kernel)⟩
theorem lw_p1 : lw_okq (⟨"Latticefit$Cuts", "offerAll", "(I)V"⟩, 5) := ⟨⟨by decide +kernel, by decide +kernel⟩, List.mem_of_getElem? (i := 130) (by decide +kernel), List.mem_of_getElem? (i := 547) (by decide +kernel), List.mem_of_getElem? (i := 548) (by decide +kernel)⟩
theorem lw_p2 : lw_okq (⟨"Latticefit$Cuts", "offer", "(IJI)V"⟩, 5) := ⟨⟨by decide +kernel, by decide +kernel⟩, List.mem_of_getElem? (i := 130) (by decide +kernel), List.mem_of_getElem? (i := 551) (by decide +kernel), List.mem_of_getElem? (i := 552) (by decide +kernel)⟩
theorem lw_p3 : lw_okq (⟨"Latticefit$Cuts", "isBehind", "(IIJI)Z"⟩, 5) := ⟨⟨by decide +kernel, by decide +kernel⟩, List.mem_of_getElem? (i := 130) (by decide +kernel), List.mem_of_getElem? (i := 561) (by decide +kernel), List.mem_of_getElem? (i := 562) (by decide +kernel)⟩
theorem lw_p4 : lw_okq (⟨"Latticefit$Blocks", "markNeeded", "(LLatticefit$Cuts;)V"⟩, 10) := ⟨⟨by decide +kernel, by decide +kernel⟩, List.mem_of_getElem? (i := 157) (by decide +kernel), List.mem_of_getElem? (i := 572) (by decide +kernel), List.mem_of_getElem? (i := 573) (by decide +kernel)⟩
theorem lw_p5 : lw_okq (⟨"Latticefit$Blocks", "markCut", "(JI)V"⟩, 10) := ⟨⟨by decide +kernel, by decide +kernel⟩, List.mem_of_getElem? (i := 157) (by decide +kernel), List.mem_of_getElem? (i := 581) (by decide +kernel), List.mem_of_getElem? (i := 582) (by decide +kernel)⟩
theorem lw_p6 : lw_okq (⟨"Latticefit$Blocks", "putRegister", "(ILLatticefit$Cuts;)V"⟩, 10) := ⟨⟨by decide +kernel, by decide +kernel⟩, List.mem_of_getElem? (i := 157) (by decide +kernel), List.mem_of_getElem? (i := 591) (by decide +kernel), List.mem_of_getElem? (i := 592) (by decide +kernel)⟩
theorem lw_p7 : lw_okq (⟨"Latticefit$Blocks", "putGate", "(IJ)V"⟩, 10) := ⟨⟨by decide +kernel, by decide +kernel⟩, List.mem_of_getElem? (i := 157) (by decide +kernel), List.mem_of_getElem? (i := 595) (by decide +kernel), List.mem_of_getElem? (i := 596) (by decide +kernel)⟩
theorem lw_p8 : lw_okq (⟨"Latticefit", "needStage", "(I)V"⟩, 11) := ⟨⟨by decide +kernel, by decide +kernel⟩, List.mem_of_getElem? (i := 28) (by decide +kernel), List.mem_of_getElem? (i := 659) (by decide +kernel), List.mem_of_getElem? (i := 660) (by decide +kernel)⟩
theorem lw_p9 : lw_okq (⟨"Latticefit$Places", "maySwap", "(II)Z"⟩, 10) := ⟨⟨by decide +kernel, by decide +kernel⟩, List.mem_of_getElem? (i := 210) (by decide +kernel), List.mem_of_getElem? (i := 678) (by decide +kernel), List.mem_of_getElem? (i := 679) (by decide +kernel)⟩
theorem lw_p10 : lw_okq (⟨"Latticefit$Places", "swapIfGood", "(III)Z"⟩, 10) := ⟨⟨by decide +kernel, by decide +kernel⟩, List.mem_of_getElem? (i := 210) (by decide +kernel), List.mem_of_getElem? (i := 686) (by decide +kernel), List.mem_of_getElem? (i := 687) (by decide +kernel)⟩
theorem lw_p11 : lw_okq (⟨"Latticefit$Places", "stretchTo", "(II)V"⟩, 10) := ⟨⟨by decide +kernel, by decide +kernel⟩, List.mem_of_getElem? (i := 210) (by decide +kernel), List.mem_of_getElem? (i := 716) (by decide +kernel), List.mem_of_getElem? (i := 717) (by decide +kernel)⟩
theorem lw_p12 : lw_okq (⟨"Latticefit$Routes", "giveUp", "(I)V"⟩, 12) := ⟨⟨by decide +kernel, by decide +kernel⟩, List.mem_of_getElem? (i := 249) (by decide +kernel), List.mem_of_getElem? (i := 753) (by decide +kernel), List.mem_of_getElem? (i := 754) (by decide +kernel)⟩
theorem lw_p13 : lw_okq (⟨"Latticefit$Routes", "layTree", "(I)V"⟩, 12) := ⟨⟨by decide +kernel, by decide +kernel⟩, List.mem_of_getElem? (i := 249) (by decide +kernel), List.mem_of_getElem? (i := 760) (by decide +kernel), List.mem_of_getElem? (i := 761) (by decide +kernel)⟩
theorem lw_p14 : lw_okq (⟨"Latticefit$Routes", "isInTree", "(II)Z"⟩, 12) := ⟨⟨by decide +kernel, by decide +kernel⟩, List.mem_of_getElem? (i := 249) (by decide +kernel), List.mem_of_getElem? (i := 764) (by decide +kernel), List.mem_of_getElem? (i := 765) (by decide +kernel)⟩
theorem lw_p15 : lw_okq (⟨"Latticefit$Routes", "addWay", "(II)V"⟩, 12) := ⟨⟨by decide +kernel, by decide +kernel⟩, List.mem_of_getElem? (i := 249) (by decide +kernel), List.mem_of_getElem? (i := 768) (by decide +kernel), List.mem_of_getElem? (i := 769) (by decide +kernel)⟩
def lw_privs_1 : List (MethodName × Nat) := [(⟨"java/lang/Throwable", "fillInStackTrace", "(I)Ljava/lang/Throwable;"⟩, 6), (⟨"Latticefit$Cuts", "offerAll", "(I)V"⟩, 5), (⟨"Latticefit$Cuts", "offer", "(IJI)V"⟩, 5), (⟨"Latticefit$Cuts", "isBehind", "(IIJI)Z"⟩, 5), (⟨"Latticefit$Blocks", "markNeeded", "(LLatticefit$Cuts;)V"⟩, 10), (⟨"Latticefit$Blocks", "markCut", "(JI)V"⟩, 10), (⟨"Latticefit$Blocks", "putRegister", "(ILLatticefit$Cuts;)V"⟩, 10), (⟨"Latticefit$Blocks", "putGate", "(IJ)V"⟩, 10), (⟨"Latticefit", "needStage", "(I)V"⟩, 11), (⟨"Latticefit$Places", "maySwap", "(II)Z"⟩, 10), (⟨"Latticefit$Places", "swapIfGood", "(III)Z"⟩, 10), (⟨"Latticefit$Places", "stretchTo", "(II)V"⟩, 10), (⟨"Latticefit$Routes", "giveUp", "(I)V"⟩, 12), (⟨"Latticefit$Routes", "layTree", "(I)V"⟩, 12), (⟨"Latticefit$Routes", "isInTree", "(II)Z"⟩, 12), (⟨"Latticefit$Routes", "addWay", "(II)V"⟩, 12)]
theorem lw_r1 : ∀ q ∈ lw_privs_1, lw_okq q := List.forall_mem_cons.mpr ⟨lw_p0, List.forall_mem_cons.mpr ⟨lw_p1, List.forall_mem_cons.mpr ⟨lw_p2, List.forall_mem_cons.mpr ⟨lw_p3, List.forall_mem_cons.mpr ⟨lw_p4, List.forall_mem_cons.mpr ⟨lw_p5, List.forall_mem_cons.mpr ⟨lw_p6, List.forall_mem_cons.mpr ⟨lw_p7, List.forall_mem_cons.mpr ⟨lw_p8, List.forall_mem_cons.mpr ⟨lw_p9, List.forall_mem_cons.mpr ⟨lw_p10, List.forall_mem_cons.mpr ⟨lw_p11, List.forall_mem_cons.mpr ⟨lw_p12, List.forall_mem_cons.mpr ⟨lw_p13, List.forall_mem_cons.mpr ⟨lw_p14, List.forall_mem_cons.mpr ⟨lw_p15, fun _ h => absurd h List.not_mem_nil⟩⟩⟩⟩⟩⟩⟩⟩⟩⟩⟩⟩⟩⟩⟩⟩
theorem lw_p16 : lw_okq (⟨"Latticefit$Routes", "openTree", "(I)V"⟩, 12) := ⟨⟨by decide +kernel, by decide +kernel⟩, List.mem_of_getElem? (i := 249) (by decide +kernel), List.mem_of_getElem? (i := 772) (by decide +kernel), List.mem_of_getElem? (i := 773) (by decide +kernel)⟩
theorem lw_p17 : lw_okq (⟨"Latticefit$Routes", "takeCheapest", "()I"⟩, 12) := ⟨⟨by decide +kernel, by decide +kernel⟩, List.mem_of_getElem? (i := 249) (by decide +kernel), List.mem_of_getElem? (i := 776) (by decide +kernel), List.mem_of_getElem? (i := 777) (by decide +kernel)⟩
theorem lw_p18 : lw_okq (⟨"Latticefit$Routes", "openNeighbours", "(I)V"⟩, 12) := ⟨⟨by decide +kernel, by decide +kernel⟩, List.mem_of_getElem? (i := 249) (by decide +kernel), List.mem_of_getElem? (i := 780) (by decide +kernel), List.mem_of_getElem? (i := 781) (by decide +kernel)⟩
theorem lw_p19 : lw_okq (⟨"Latticefit$Routes", "offerWay", "(III)V"⟩, 12) := ⟨⟨by decide +kernel, by decide +kernel⟩, List.mem_of_getElem? (i := 249) (by decide +kernel), List.mem_of_getElem? (i := 784) (by decide +kernel), List.mem_of_getElem? (i := 785) (by decide +kernel)⟩
theorem lw_p20 : lw_okq (⟨"Latticefit$Routes", "tollOf", "(I)I"⟩, 12) := ⟨⟨by decide +kernel, by decide +kernel⟩, List.mem_of_getElem? (i := 249) (by decide +kernel), List.mem_of_getElem? (i := 788) (by decide +kernel), List.mem_of_getElem? (i := 789) (by decide +kernel)⟩
theorem lw_p21 : lw_okq (⟨"Latticefit$Routes", "takeWay", "(II)V"⟩, 12) := ⟨⟨by decide +kernel, by decide +kernel⟩, List.mem_of_getElem? (i := 249) (by decide +kernel), List.mem_of_getElem? (i := 792) (by decide +kernel), List.mem_of_getElem? (i := 793) (by decide +kernel)⟩
theorem lw_p22 : lw_okq (⟨"Latticefit$Routes", "raisePrices", "()V"⟩, 12) := ⟨⟨by decide +kernel, by decide +kernel⟩, List.mem_of_getElem? (i := 249) (by decide +kernel), List.mem_of_getElem? (i := 803) (by decide +kernel), List.mem_of_getElem? (i := 804) (by decide +kernel)⟩
theorem lw_p23 : lw_okq (⟨"Latticefit$Builder", "putBlock", "(I)V"⟩, 5) := ⟨⟨by decide +kernel, by decide +kernel⟩, List.mem_of_getElem? (i := 331) (by decide +kernel), List.mem_of_getElem? (i := 824) (by decide +kernel), List.mem_of_getElem? (i := 825) (by decide +kernel)⟩
theorem lw_p24 : lw_okq (⟨"Latticefit$Builder", "codeAt", "(II)I"⟩, 5) := ⟨⟨by decide +kernel, by decide +kernel⟩, List.mem_of_getElem? (i := 331) (by decide +kernel), List.mem_of_getElem? (i := 833) (by decide +kernel), List.mem_of_getElem? (i := 834) (by decide +kernel)⟩
theorem lw_p25 : lw_okq (⟨"Latticefit$Builder", "putNet", "(I)V"⟩, 5) := ⟨⟨by decide +kernel, by decide +kernel⟩, List.mem_of_getElem? (i := 331) (by decide +kernel), List.mem_of_getElem? (i := 850) (by decide +kernel), List.mem_of_getElem? (i := 851) (by decide +kernel)⟩
theorem lw_p26 : lw_okq (⟨"Latticefit", "needFrame", "(II)V"⟩, 11) := ⟨⟨by decide +kernel, by decide +kernel⟩, List.mem_of_getElem? (i := 28) (by decide +kernel), List.mem_of_getElem? (i := 912) (by decide +kernel), List.mem_of_getElem? (i := 913) (by decide +kernel)⟩
theorem lw_p27 : lw_okq (⟨"Latticefit$Chip", "findEnds", "()V"⟩, 7) := ⟨⟨by decide +kernel, by decide +kernel⟩, List.mem_of_getElem? (i := 353) (by decide +kernel), List.mem_of_getElem? (i := 998) (by decide +kernel), List.mem_of_getElem? (i := 999) (by decide +kernel)⟩
theorem lw_p28 : lw_okq (⟨"Latticefit$Chip", "renewTables", "()Z"⟩, 7) := ⟨⟨by decide +kernel, by decide +kernel⟩, List.mem_of_getElem? (i := 353) (by decide +kernel), List.mem_of_getElem? (i := 1017) (by decide +kernel), List.mem_of_getElem? (i := 1018) (by decide +kernel)⟩
theorem lw_p29 : lw_okq (⟨"Latticefit$Chip", "valueOfEnd", "(I[I)I"⟩, 7) := ⟨⟨by decide +kernel, by decide +kernel⟩, List.mem_of_getElem? (i := 353) (by decide +kernel), List.mem_of_getElem? (i := 1022) (by decide +kernel), List.mem_of_getElem? (i := 1023) (by decide +kernel)⟩
theorem lw_p30 : lw_okq (⟨"Latticefit", "needOutput", "(I)V"⟩, 11) := ⟨⟨by decide +kernel, by decide +kernel⟩, List.mem_of_getElem? (i := 28) (by decide +kernel), List.mem_of_getElem? (i := 1079) (by decide +kernel), List.mem_of_getElem? (i := 1080) (by decide +kernel)⟩
theorem lw_p31 : lw_okq (⟨"Latticefit", "needBlock", "(I)V"⟩, 11) := ⟨⟨by decide +kernel, by decide +kernel⟩, List.mem_of_getElem? (i := 28) (by decide +kernel), List.mem_of_getElem? (i := 1216) (by decide +kernel), List.mem_of_getElem? (i := 1217) (by decide +kernel)⟩
def lw_privs_2 : List (MethodName × Nat) := [(⟨"Latticefit$Routes", "openTree", "(I)V"⟩, 12), (⟨"Latticefit$Routes", "takeCheapest", "()I"⟩, 12), (⟨"Latticefit$Routes", "openNeighbours", "(I)V"⟩, 12), (⟨"Latticefit$Routes", "offerWay", "(III)V"⟩, 12), (⟨"Latticefit$Routes", "tollOf", "(I)I"⟩, 12), (⟨"Latticefit$Routes", "takeWay", "(II)V"⟩, 12), (⟨"Latticefit$Routes", "raisePrices", "()V"⟩, 12), (⟨"Latticefit$Builder", "putBlock", "(I)V"⟩, 5), (⟨"Latticefit$Builder", "codeAt", "(II)I"⟩, 5), (⟨"Latticefit$Builder", "putNet", "(I)V"⟩, 5), (⟨"Latticefit", "needFrame", "(II)V"⟩, 11), (⟨"Latticefit$Chip", "findEnds", "()V"⟩, 7), (⟨"Latticefit$Chip", "renewTables", "()Z"⟩, 7), (⟨"Latticefit$Chip", "valueOfEnd", "(I[I)I"⟩, 7), (⟨"Latticefit", "needOutput", "(I)V"⟩, 11), (⟨"Latticefit", "needBlock", "(I)V"⟩, 11)]
theorem lw_r2 : ∀ q ∈ lw_privs_2, lw_okq q := List.forall_mem_cons.mpr ⟨lw_p16, List.forall_mem_cons.mpr ⟨lw_p17, List.forall_mem_cons.mpr ⟨lw_p18, List.forall_mem_cons.mpr ⟨lw_p19, List.forall_mem_cons.mpr ⟨lw_p20, List.forall_mem_cons.mpr ⟨lw_p21, List.forall_mem_cons.mpr ⟨lw_p22, List.forall_mem_cons.mpr ⟨lw_p23, List.forall_mem_cons.mpr ⟨lw_p24, List.forall_mem_cons.mpr ⟨lw_p25, List.forall_mem_cons.mpr ⟨lw_p26, List.forall_mem_cons.mpr ⟨lw_p27, List.forall_mem_cons.mpr ⟨lw_p28, List.forall_mem_cons.mpr ⟨lw_p29, List.forall_mem_cons.mpr ⟨lw_p30, List.forall_mem_cons.mpr ⟨lw_p31, fun _ h => absurd h List.not_mem_nil⟩⟩⟩⟩⟩⟩⟩⟩⟩⟩⟩⟩⟩⟩⟩⟩
def lw_privs : List (MethodName × Nat) := lw_privs_1 ++ (lw_privs_2)
def lw_tbl : List Cond := k2_sels lw_privs ++ tables_1
theorem lw_privs_ok : ∀ q ∈ lw_privs, lw_okq q := by
  show ∀ q ∈ lw_privs_1 ++ (lw_privs_2), lw_okq q
  exact List.forall_mem_append.mpr ⟨lw_r1, lw_r2⟩
/-! numbers for the classes, the cells, the methods; written by a program from the claim's own tables -/
def ma_cls : List (String × List (String × String × String × Bool × FieldType)) := [  ("Latticefit$Blocks", [("Latticefit$Blocks", "gate", "[I", true, (.array .int)), ("Latticefit$Blocks", "register", "[I", true, (.array .int)), ("Latticefit$Blocks", "table", "[I", true, (.array .int)), ("Latticefit$Blocks", "inputs", "[I", true, (.array .int)), ("Latticefit$Blocks", "input", "[[I", true, (.array (.array .int))), ("Latticefit$Blocks", "ofNode", "[I", true, (.array .int)), ("Latticefit$Blocks", "needed", "[Z", true, (.array .boolean)), ("Latticefit$Blocks", "count", "I", false, .int), ("Latticefit$Blocks", "values", "[I", true, (.array .int)), ("Latticefit$Blocks", "circuit", "LLatticefit$Circuit;", true, (.object "Latticefit$Circuit"))]),
  ("Latticefit$Builder", [("Latticefit$Builder", "circuit", "LLatticefit$Circuit;", true, (.object "Latticefit$Circuit")), ("Latticefit$Builder", "blocks", "LLatticefit$Blocks;", true, (.object "Latticefit$Blocks")), ("Latticefit$Builder", "places", "LLatticefit$Places;", true, (.object "Latticefit$Places")), ("Latticefit$Builder", "routes", "LLatticefit$Routes;", true, (.object "Latticefit$Routes")), ("Latticefit$Builder", "frames", "LLatticefit$Frames;", true, (.object "Latticefit$Frames"))]),
  ("Latticefit$Chip", [("Latticefit$Chip", "frames", "LLatticefit$Frames;", true, (.object "Latticefit$Frames")), ("Latticefit$Chip", "input", "[I", true, (.array .int)), ("Latticefit$Chip", "register", "[I", true, (.array .int)), ("Latticefit$Chip", "ticks", "J", false, .long), ("Latticefit$Chip", "table", "[I", true, (.array .int)), ("Latticefit$Chip", "tableBefore", "[I", true, (.array .int)), ("Latticefit$Chip", "ends", "[I", true, (.array .int))]),
  ("Latticefit$Circuit", [("Latticefit$Circuit", "kind", "[C", true, (.array .char)), ("Latticefit$Circuit", "first", "[I", true, (.array .int)), ("Latticefit$Circuit", "second", "[I", true, (.array .int)), ("Latticefit$Circuit", "feeder", "[I", true, (.array .int)), ("Latticefit$Circuit", "initial", "[I", true, (.array .int)), ("Latticefit$Circuit", "clockOf", "[I", true, (.array .int)), ("Latticefit$Circuit", "numberOf", "[I", true, (.array .int)), ("Latticefit$Circuit", "inputNode", "[I", true, (.array .int)), ("Latticefit$Circuit", "registerNode", "[I", true, (.array .int)), ("Latticefit$Circuit", "outputNode", "[I", true, (.array .int)), ("Latticefit$Circuit", "nodes", "I", false, .int), ("Latticefit$Circuit", "inputs", "I", false, .int), ("Latticefit$Circuit", "registers", "I", false, .int), ("Latticefit$Circuit", "outputs", "I", false, .int)]),
  ("Latticefit$Cuts", [("Latticefit$Cuts", "sets", "[[J", true, (.array (.array .long))), ("Latticefit$Cuts", "tops", "[[I", true, (.array (.array .int))), ("Latticefit$Cuts", "count", "[I", true, (.array .int)), ("Latticefit$Cuts", "depthOf", "[I", true, (.array .int)), ("Latticefit$Cuts", "circuit", "LLatticefit$Circuit;", true, (.object "Latticefit$Circuit"))]),
  ("Latticefit$Frames", [("Latticefit$Frames", "words", "[[I", true, (.array (.array .int)))]),
  ("Latticefit$Places", [("Latticefit$Places", "cell", "[I", true, (.array .int)), ("Latticefit$Places", "blockIn", "[I", true, (.array .int)), ("Latticefit$Places", "isFixed", "[Z", true, (.array .boolean)), ("Latticefit$Places", "leftmost", "[I", true, (.array .int)), ("Latticefit$Places", "rightmost", "[I", true, (.array .int)), ("Latticefit$Places", "lowest", "[I", true, (.array .int)), ("Latticefit$Places", "highest", "[I", true, (.array .int)), ("Latticefit$Places", "clocksIn", "[I", true, (.array .int)), ("Latticefit$Places", "circuit", "LLatticefit$Circuit;", true, (.object "Latticefit$Circuit")), ("Latticefit$Places", "blocks", "LLatticefit$Blocks;", true, (.object "Latticefit$Blocks"))]),
  ("Latticefit$Routes", [("Latticefit$Routes", "back", "[[I", true, (.array (.array .int))), ("Latticefit$Routes", "source", "[I", true, (.array .int)), ("Latticefit$Routes", "users", "[I", true, (.array .int)), ("Latticefit$Routes", "sinks", "[J", true, (.array .long)), ("Latticefit$Routes", "price", "[I", true, (.array .int)), ("Latticefit$Routes", "toll", "[I", true, (.array .int)), ("Latticefit$Routes", "wayBack", "[I", true, (.array .int)), ("Latticefit$Routes", "isDone", "[Z", true, (.array .boolean)), ("Latticefit$Routes", "open", "[I", true, (.array .int)), ("Latticefit$Routes", "opened", "I", false, .int), ("Latticefit$Routes", "round", "I", false, .int), ("Latticefit$Routes", "circuit", "LLatticefit$Circuit;", true, (.object "Latticefit$Circuit"))]),
  ("Latticefit$Runner", [("Latticefit$Runner", "held", "[I", true, (.array .int)), ("Latticefit$Runner", "values", "[I", true, (.array .int)), ("Latticefit$Runner", "circuit", "LLatticefit$Circuit;", true, (.object "Latticefit$Circuit"))]),
  ("Latticefit$Times", [("Latticefit$Times", "ofNode", "[I", true, (.array .int)), ("Latticefit$Times", "circuit", "LLatticefit$Circuit;", true, (.object "Latticefit$Circuit")), ("Latticefit$Times", "blocks", "LLatticefit$Blocks;", true, (.object "Latticefit$Blocks")), ("Latticefit$Times", "places", "LLatticefit$Places;", true, (.object "Latticefit$Places")), ("Latticefit$Times", "routes", "LLatticefit$Routes;", true, (.object "Latticefit$Routes"))]),
  ("Latticefit", [("Latticefit", "circuit", "LLatticefit$Circuit;", true, (.object "Latticefit$Circuit")), ("Latticefit", "cuts", "LLatticefit$Cuts;", true, (.object "Latticefit$Cuts")), ("Latticefit", "blocks", "LLatticefit$Blocks;", true, (.object "Latticefit$Blocks")), ("Latticefit", "places", "LLatticefit$Places;", true, (.object "Latticefit$Places")), ("Latticefit", "routes", "LLatticefit$Routes;", true, (.object "Latticefit$Routes")), ("Latticefit", "times", "LLatticefit$Times;", true, (.object "Latticefit$Times")), ("Latticefit", "bits", "LLatticefit$Frames;", true, (.object "Latticefit$Frames")), ("Latticefit", "builder", "LLatticefit$Builder;", true, (.object "Latticefit$Builder")), ("Latticefit", "chip", "LLatticefit$Chip;", true, (.object "Latticefit$Chip")), ("Latticefit", "runner", "LLatticefit$Runner;", true, (.object "Latticefit$Runner")), ("Latticefit", "stage", "I", false, .int)])]
def ma_C (ci : Nat) : String := (ma_cls.getD ci ("", [])).1
def ma_fd (ci k : Nat) : String × String × String × Bool × FieldType := (ma_cls.getD ci ("", [])).2.getD k ("", "", "", false, .int)
def ma_T (ci : Nat) : u_T := fun k => ((ma_fd ci k).1, (ma_fd ci k).2.1, (ma_fd ci k).2.2.1, (ma_fd ci k).2.2.2.1)
def ma_fty (ci k : Nat) : FieldType := (ma_fd ci k).2.2.2.2
def ma_N (ci : Nat) : Nat := (ma_cls.getD ci ("", [])).2.length
/-- what kind of field: 0 int, 1 long, 2 boolean, 3 a cell that stays, 4 a cell that changes -/
def ma_fks : List (List Nat) := [[3, 3, 3, 3, 3, 3, 3, 0, 3, 3], [3, 3, 3, 3, 3], [3, 3, 3, 1, 3, 3, 3], [3, 3, 3, 3, 3, 3, 3, 3, 3, 3, 0, 0, 0, 0], [3, 3, 3, 3, 3], [3], [3, 3, 3, 3, 3, 3, 3, 3, 3, 3], [3, 3, 3, 3, 3, 3, 3, 3, 3, 0, 0, 3], [3, 3, 3], [3, 3, 3, 3, 3], [3, 3, 3, 3, 3, 3, 3, 3, 3, 3, 0]]
def ma_fk (ci k : Nat) : Nat := (ma_fks.getD ci []).getD k 99
/-- the cells: kind (0 int[], 1 long[], 2 boolean[], 3 char[], 4 double[], 5 int[][], 6 long[][], 7 a static int[], 8 the script, 10 + class), length, rows -/
def ma_cells : List (Nat × Nat × Nat) := [(8, 0, 1), (7, 4, 1), (20, 11, 1), (13, 14, 1), (3, 48, 1), (0, 48, 1), (0, 48, 1), (0, 48, 1), (0, 48, 1), (0, 48, 1), (0, 48, 1), (0, 6, 1), (0, 8, 1), (0, 6, 1), (14, 5, 1), (6, 48, 1), (1, 7, 48), (5, 48, 1), (0, 7, 48), (0, 48, 1), (0, 48, 1), (10, 10, 1), (0, 48, 1), (0, 48, 1), (0, 48, 1), (0, 48, 1), (5, 48, 1), (0, 4, 48), (0, 48, 1), (2, 48, 1), (0, 48, 1), (16, 10, 1), (0, 48, 1), (0, 36, 1), (2, 48, 1), (0, 48, 1), (0, 48, 1), (0, 48, 1), (0, 48, 1), (0, 3, 1), (17, 12, 1), (5, 48, 1), (0, 49, 48), (0, 48, 1), (0, 84, 1), (1, 48, 1), (0, 84, 1), (0, 49, 1), (0, 49, 1), (2, 49, 1), (0, 49, 1), (19, 5, 1), (0, 48, 1), (15, 1, 1), (5, 14, 1), (0, 36, 14), (11, 5, 1), (12, 7, 1), (15, 1, 1), (5, 14, 1), (0, 36, 14), (0, 6, 1), (0, 36, 1), (0, 36, 1), (0, 36, 1), (0, 144, 1), (18, 3, 1), (0, 48, 1), (0, 48, 1), (0, 430, 1), (0, 48, 1)]
def ma_ck (k : Nat) : Nat × Nat × Nat := ma_cells.getD k (99, 0, 0)
def ma_offs : List Nat := [0, 0, 0, 1, 2, 3, 4, 5, 6, 7, 8, 9, 10, 11, 12, 13, 14, 62, 63, 111, 112, 113, 114, 115, 116, 117, 118, 119, 167, 168, 169, 170, 171, 172, 173, 174, 175, 176, 177, 178, 179, 180, 181, 229, 230, 231, 232, 233, 234, 235, 236, 237, 238, 239, 240, 241, 255, 256, 257, 258, 259, 273, 274, 275, 276, 277, 278, 279, 280, 0, 0]
/-- which cell a field of a cell holds -/
def ma_rfs : List (List Nat) := [[], [], [3, 14, 21, 31, 40, 51, 53, 56, 57, 66, 0], [4, 5, 6, 7, 8, 9, 10, 11, 12, 13, 0, 0, 0, 0], [], [], [], [], [], [], [], [], [], [], [15, 17, 19, 20, 3], [], [], [], [], [], [], [22, 23, 24, 25, 26, 28, 29, 0, 30, 3], [], [], [], [], [], [], [], [], [], [32, 33, 34, 35, 36, 37, 38, 39, 3, 21], [], [], [], [], [], [], [], [], [41, 43, 44, 45, 46, 47, 48, 49, 50, 0, 0, 3], [], [], [], [], [], [], [], [], [], [], [52, 3, 21, 31, 40], [], [54], [], [], [3, 21, 31, 40, 53], [58, 61, 62, 0, 63, 64, 65], [59], [], [], [], [], [], [], [], [67, 68, 3], [], [], [], []]
def ma_rf (k i : Nat) : Nat := (ma_rfs.getD k []).getD i 0
theorem ma_ck_0 : ma_ck 0 = (8, 0, 1) := rfl
theorem ma_ck_1 : ma_ck 1 = (7, 4, 1) := rfl
theorem ma_ck_2 : ma_ck 2 = (20, 11, 1) := rfl
theorem ma_ck_3 : ma_ck 3 = (13, 14, 1) := rfl
theorem ma_ck_4 : ma_ck 4 = (3, 48, 1) := rfl
theorem ma_ck_5 : ma_ck 5 = (0, 48, 1) := rfl
theorem ma_ck_6 : ma_ck 6 = (0, 48, 1) := rfl
theorem ma_ck_7 : ma_ck 7 = (0, 48, 1) := rfl
theorem ma_ck_8 : ma_ck 8 = (0, 48, 1) := rfl
theorem ma_ck_9 : ma_ck 9 = (0, 48, 1) := rfl
theorem ma_ck_10 : ma_ck 10 = (0, 48, 1) := rfl
theorem ma_ck_11 : ma_ck 11 = (0, 6, 1) := rfl
theorem ma_ck_12 : ma_ck 12 = (0, 8, 1) := rfl
theorem ma_ck_13 : ma_ck 13 = (0, 6, 1) := rfl
theorem ma_ck_14 : ma_ck 14 = (14, 5, 1) := rfl
theorem ma_ck_15 : ma_ck 15 = (6, 48, 1) := rfl
theorem ma_ck_16 : ma_ck 16 = (1, 7, 48) := rfl
theorem ma_ck_17 : ma_ck 17 = (5, 48, 1) := rfl
theorem ma_ck_18 : ma_ck 18 = (0, 7, 48) := rfl
theorem ma_ck_19 : ma_ck 19 = (0, 48, 1) := rfl
theorem ma_ck_20 : ma_ck 20 = (0, 48, 1) := rfl
theorem ma_ck_21 : ma_ck 21 = (10, 10, 1) := rfl
theorem ma_ck_22 : ma_ck 22 = (0, 48, 1) := rfl
theorem ma_ck_23 : ma_ck 23 = (0, 48, 1) := rfl
theorem ma_ck_24 : ma_ck 24 = (0, 48, 1) := rfl
theorem ma_ck_25 : ma_ck 25 = (0, 48, 1) := rfl
theorem ma_ck_26 : ma_ck 26 = (5, 48, 1) := rfl
theorem ma_ck_27 : ma_ck 27 = (0, 4, 48) := rfl
theorem ma_ck_28 : ma_ck 28 = (0, 48, 1) := rfl
theorem ma_ck_29 : ma_ck 29 = (2, 48, 1) := rfl
theorem ma_ck_30 : ma_ck 30 = (0, 48, 1) := rfl
theorem ma_ck_31 : ma_ck 31 = (16, 10, 1) := rfl
theorem ma_ck_32 : ma_ck 32 = (0, 48, 1) := rfl
theorem ma_ck_33 : ma_ck 33 = (0, 36, 1) := rfl
theorem ma_ck_34 : ma_ck 34 = (2, 48, 1) := rfl
theorem ma_ck_35 : ma_ck 35 = (0, 48, 1) := rfl
theorem ma_ck_36 : ma_ck 36 = (0, 48, 1) := rfl
theorem ma_ck_37 : ma_ck 37 = (0, 48, 1) := rfl
theorem ma_ck_38 : ma_ck 38 = (0, 48, 1) := rfl
theorem ma_ck_39 : ma_ck 39 = (0, 3, 1) := rfl
theorem ma_ck_40 : ma_ck 40 = (17, 12, 1) := rfl
theorem ma_ck_41 : ma_ck 41 = (5, 48, 1) := rfl
theorem ma_ck_42 : ma_ck 42 = (0, 49, 48) := rfl
theorem ma_ck_43 : ma_ck 43 = (0, 48, 1) := rfl
theorem ma_ck_44 : ma_ck 44 = (0, 84, 1) := rfl
theorem ma_ck_45 : ma_ck 45 = (1, 48, 1) := rfl
theorem ma_ck_46 : ma_ck 46 = (0, 84, 1) := rfl
theorem ma_ck_47 : ma_ck 47 = (0, 49, 1) := rfl
theorem ma_ck_48 : ma_ck 48 = (0, 49, 1) := rfl
theorem ma_ck_49 : ma_ck 49 = (2, 49, 1) := rfl
theorem ma_ck_50 : ma_ck 50 = (0, 49, 1) := rfl
theorem ma_ck_51 : ma_ck 51 = (19, 5, 1) := rfl
theorem ma_ck_52 : ma_ck 52 = (0, 48, 1) := rfl
theorem ma_ck_53 : ma_ck 53 = (15, 1, 1) := rfl
theorem ma_ck_54 : ma_ck 54 = (5, 14, 1) := rfl
theorem ma_ck_55 : ma_ck 55 = (0, 36, 14) := rfl
theorem ma_ck_56 : ma_ck 56 = (11, 5, 1) := rfl
theorem ma_ck_57 : ma_ck 57 = (12, 7, 1) := rfl
theorem ma_ck_58 : ma_ck 58 = (15, 1, 1) := rfl
theorem ma_ck_59 : ma_ck 59 = (5, 14, 1) := rfl
theorem ma_ck_60 : ma_ck 60 = (0, 36, 14) := rfl
theorem ma_ck_61 : ma_ck 61 = (0, 6, 1) := rfl
theorem ma_ck_62 : ma_ck 62 = (0, 36, 1) := rfl
theorem ma_ck_63 : ma_ck 63 = (0, 36, 1) := rfl
theorem ma_ck_64 : ma_ck 64 = (0, 36, 1) := rfl
theorem ma_ck_65 : ma_ck 65 = (0, 144, 1) := rfl
theorem ma_ck_66 : ma_ck 66 = (18, 3, 1) := rfl
theorem ma_ck_67 : ma_ck 67 = (0, 48, 1) := rfl
theorem ma_ck_68 : ma_ck 68 = (0, 48, 1) := rfl
theorem ma_ck_69 : ma_ck 69 = (0, 430, 1) := rfl
theorem ma_ck_70 : ma_ck 70 = (0, 48, 1) := rfl
/-- the methods: class, name, descriptor; bytes, locals, answer; how many arguments beside the object; is it static; handlers; cells that it may make where it returns -/
abbrev ma_MT : Type := MethodName × ByteArray × Nat × Option FieldType × Nat × Bool × Nat
def ma_mt_0 : List ma_MT := [(⟨"Latticefit", "isRouted", "()Z"⟩, prog_1_method_21_code, 1, (Option.some FieldType.boolean), 0, false, 2),
  (⟨"Latticefit", "isConsistent", "()Z"⟩, prog_1_method_42_code, 1, (Option.some FieldType.boolean), 0, false, 2),
  (⟨"Latticefit$Circuit", "isSound", "()Z"⟩, prog_5_method_9_code, 2, (Option.some FieldType.boolean), 0, false, 2),
  (⟨"Latticefit$Circuit", "isGate", "(I)Z"⟩, prog_5_method_3_code, 2, (Option.some FieldType.boolean), 1, false, 2),
  (⟨"Latticefit$Circuit", "isNode", "(I)Z"⟩, prog_5_method_2_code, 2, (Option.some FieldType.boolean), 1, false, 2),
  (⟨"Latticefit$Places", "isSound", "()Z"⟩, prog_8_method_21_code, 4, (Option.some FieldType.boolean), 0, false, 2),
  (⟨"Latticefit$Routes", "isCrowded", "()Z"⟩, prog_9_method_5_code, 2, (Option.some FieldType.boolean), 0, false, 2),
  (⟨"LatticefitLaw", "map", "(LLatticefit;)I"⟩, method_8_code, 2, (Option.some FieldType.int), 1, true, 1),
  (⟨"Latticefit", "map", "()I"⟩, prog_1_method_8_code, 1, (Option.some FieldType.int), 0, false, 1),
  (⟨"Latticefit$Cuts", "findAll", "()V"⟩, prog_6_method_2_code, 2, (Option.none : Option FieldType), 0, false, 0),
  (⟨"Latticefit$Cuts", "offerAll", "(I)V"⟩, prog_6_method_4_code, 7, (Option.none : Option FieldType), 1, false, 0),
  (⟨"Latticefit$Cuts", "offer", "(IJI)V"⟩, prog_6_method_5_code, 8, (Option.none : Option FieldType), 3, false, 0),
  (⟨"java/lang/Long", "bitCount", "(J)I"⟩, prog_21_method_50_code, 2, (Option.some FieldType.int), 1, true, 1),
  (⟨"Latticefit$Cuts", "isBehind", "(IIJI)Z"⟩, prog_6_method_6_code, 8, (Option.some FieldType.boolean), 4, false, 2),
  (⟨"Latticefit$Blocks", "pack", "(LLatticefit$Cuts;)V"⟩, prog_2_method_2_code, 3, (Option.none : Option FieldType), 1, false, 0),
  (⟨"Latticefit$Blocks", "markNeeded", "(LLatticefit$Cuts;)V"⟩, prog_2_method_3_code, 4, (Option.none : Option FieldType), 1, false, 0),
  (⟨"Latticefit$Cuts", "own", "(I)J"⟩, prog_6_method_3_code, 2, (Option.some FieldType.long), 1, false, 4),
  (⟨"Latticefit$Blocks", "markCut", "(JI)V"⟩, prog_2_method_4_code, 5, (Option.none : Option FieldType), 2, false, 0),
  (⟨"Latticefit$Blocks", "isIn", "(JI)Z"⟩, prog_2_method_7_code, 3, (Option.some FieldType.boolean), 2, true, 2),
  (⟨"java/util/Arrays", "fill", "([II)V"⟩, prog_28_method_103_code, 4, (Option.none : Option FieldType), 2, true, 0),
  (⟨"Latticefit$Blocks", "putRegister", "(ILLatticefit$Cuts;)V"⟩, prog_2_method_5_code, 4, (Option.none : Option FieldType), 2, false, 0),
  (⟨"Latticefit$Blocks", "putGate", "(IJ)V"⟩, prog_2_method_6_code, 6, (Option.none : Option FieldType), 2, false, 0),
  (⟨"Latticefit$Circuit", "joined", "(I[I)I"⟩, prog_5_method_8_code, 6, (Option.some FieldType.int), 2, false, 1),
  (⟨"Latticefit$Places", "putAnew", "()V"⟩, prog_8_method_2_code, 2, (Option.none : Option FieldType), 0, false, 0),
  (⟨"Latticefit$Routes", "clear", "()V"⟩, prog_9_method_2_code, 2, (Option.none : Option FieldType), 0, false, 0),
  (⟨"java/util/Arrays", "fill", "([JJ)V"⟩, prog_28_method_101_code, 5, (Option.none : Option FieldType), 2, true, 0),
  (⟨"LatticefitLaw", "anneal", "(LLatticefit;III)I"⟩, method_10_code, 5, (Option.some FieldType.int), 4, true, 1),
  (⟨"Latticefit", "anneal", "(III)I"⟩, prog_1_method_16_code, 5, (Option.some FieldType.int), 3, false, 1),
  (⟨"Latticefit", "needStage", "(I)V"⟩, prog_1_method_43_code, 2, (Option.none : Option FieldType), 1, false, 0),
  (⟨"Latticefit$Places", "swapByChance", "(III)I"⟩, prog_8_method_16_code, 11, (Option.some FieldType.int), 3, false, 1),
  (⟨"Latticefit$Places", "nextChance", "(J)J"⟩, prog_8_method_17_code, 2, (Option.some FieldType.long), 1, true, 4),
  (⟨"Latticefit$Places", "cellTold", "(J)I"⟩, prog_8_method_18_code, 2, (Option.some FieldType.int), 1, true, 1),
  (⟨"Latticefit$Places", "maySwap", "(II)Z"⟩, prog_8_method_19_code, 3, (Option.some FieldType.boolean), 2, false, 2),
  (⟨"Latticefit$Places", "holdsFixed", "(I)Z"⟩, prog_8_method_3_code, 2, (Option.some FieldType.boolean), 1, false, 2),
  (⟨"Latticefit$Places", "swapIfGood", "(III)Z"⟩, prog_8_method_20_code, 6, (Option.some FieldType.boolean), 3, false, 2),
  (⟨"Latticefit$Places", "clockExcess", "()I"⟩, prog_8_method_15_code, 3, (Option.some FieldType.int), 0, false, 1),
  (⟨"Latticefit$Places", "cellOfNode", "(I)I"⟩, prog_8_method_5_code, 3, (Option.some FieldType.int), 1, false, 1),
  (⟨"java/lang/Integer", "bitCount", "(I)I"⟩, prog_20_method_49_code, 1, (Option.some FieldType.int), 1, true, 1),
  (⟨"Latticefit$Places", "findLengths", "()I"⟩, prog_8_method_12_code, 3, (Option.some FieldType.int), 0, false, 1),
  (⟨"Latticefit$Places", "sourceCrossing", "(I)I"⟩, prog_8_method_8_code, 2, (Option.some FieldType.int), 1, false, 1)]
def ma_mt_1 : List ma_MT := [(⟨"Latticefit$Places", "crossingAt", "(I)I"⟩, prog_8_method_6_code, 1, (Option.some FieldType.int), 1, true, 1),
  (⟨"Latticefit$Places", "stretchTo", "(II)V"⟩, prog_8_method_13_code, 5, (Option.none : Option FieldType), 2, false, 0),
  (⟨"Latticefit$Places", "crossingOfOutput", "(I)I"⟩, prog_8_method_7_code, 1, (Option.some FieldType.int), 1, true, 1),
  (⟨"Latticefit$Places", "lengthOf", "(I)I"⟩, prog_8_method_14_code, 2, (Option.some FieldType.int), 1, false, 1),
  (⟨"Latticefit$Places", "exchange", "(II)V"⟩, prog_8_method_4_code, 4, (Option.none : Option FieldType), 2, false, 0),
  (⟨"LatticefitLaw", "route", "(LLatticefit;I)I"⟩, method_12_code, 3, (Option.some FieldType.int), 2, true, 1),
  (⟨"Latticefit", "route", "(I)I"⟩, prog_1_method_20_code, 3, (Option.some FieldType.int), 1, false, 1),
  (⟨"Latticefit$Places", "putPins", "(LLatticefit$Routes;)V"⟩, prog_8_method_11_code, 4, (Option.none : Option FieldType), 1, false, 0),
  (⟨"Latticefit$Routes", "addSink", "(II)V"⟩, prog_9_method_3_code, 3, (Option.none : Option FieldType), 2, false, 0),
  (⟨"Latticefit$Routes", "makeRounds", "(I)I"⟩, prog_9_method_4_code, 4, (Option.some FieldType.int), 1, false, 1),
  (⟨"Latticefit$Routes", "giveUp", "(I)V"⟩, prog_9_method_7_code, 4, (Option.none : Option FieldType), 1, false, 0),
  (⟨"Latticefit", "isEdge", "(I)Z"⟩, prog_1_method_48_code, 1, (Option.some FieldType.boolean), 1, true, 2),
  (⟨"Latticefit$Routes", "layTree", "(I)V"⟩, prog_9_method_8_code, 3, (Option.none : Option FieldType), 1, false, 0),
  (⟨"Latticefit$Routes", "isInTree", "(II)Z"⟩, prog_9_method_9_code, 3, (Option.some FieldType.boolean), 2, false, 2),
  (⟨"Latticefit$Routes", "addWay", "(II)V"⟩, prog_9_method_10_code, 5, (Option.none : Option FieldType), 2, false, 0),
  (⟨"Latticefit$Routes", "openTree", "(I)V"⟩, prog_9_method_11_code, 3, (Option.none : Option FieldType), 1, false, 0),
  (⟨"Latticefit$Routes", "takeCheapest", "()I"⟩, prog_9_method_12_code, 4, (Option.some FieldType.int), 0, false, 1),
  (⟨"Latticefit$Routes", "openNeighbours", "(I)V"⟩, prog_9_method_13_code, 5, (Option.none : Option FieldType), 1, false, 0),
  (⟨"Latticefit$Routes", "offerWay", "(III)V"⟩, prog_9_method_14_code, 5, (Option.none : Option FieldType), 3, false, 0),
  (⟨"Latticefit$Routes", "tollOf", "(I)I"⟩, prog_9_method_15_code, 3, (Option.some FieldType.int), 1, false, 1),
  (⟨"Latticefit$Routes", "takeWay", "(II)V"⟩, prog_9_method_16_code, 6, (Option.none : Option FieldType), 2, false, 0),
  (⟨"Latticefit$Routes", "otherEnd", "(II)I"⟩, prog_9_method_18_code, 4, (Option.some FieldType.int), 2, true, 1),
  (⟨"Latticefit$Routes", "lowEnd", "(I)I"⟩, prog_9_method_17_code, 2, (Option.some FieldType.int), 1, true, 1),
  (⟨"Latticefit$Routes", "raisePrices", "()V"⟩, prog_9_method_6_code, 2, (Option.none : Option FieldType), 0, false, 0),
  (⟨"LatticefitLaw", "build", "(LLatticefit;)I"⟩, method_13_code, 2, (Option.some FieldType.int), 1, true, 1),
  (⟨"Latticefit", "build", "()I"⟩, prog_1_method_27_code, 1, (Option.some FieldType.int), 0, false, 1),
  (⟨"Latticefit$Builder", "fillFrames", "()V"⟩, prog_3_method_2_code, 3, (Option.none : Option FieldType), 0, false, 0),
  (⟨"Latticefit$Frames", "clear", "()V"⟩, prog_7_method_3_code, 2, (Option.none : Option FieldType), 0, false, 0),
  (⟨"Latticefit$Builder", "putBlock", "(I)V"⟩, prog_3_method_3_code, 5, (Option.none : Option FieldType), 1, false, 0),
  (⟨"Latticefit$Frames", "putCellWord", "(III)V"⟩, prog_7_method_8_code, 4, (Option.none : Option FieldType), 3, false, 0),
  (⟨"Latticefit$Builder", "codeAt", "(II)I"⟩, prog_3_method_5_code, 4, (Option.some FieldType.int), 2, false, 1),
  (⟨"Latticefit$Places", "sourceCode", "(I)I"⟩, prog_8_method_9_code, 3, (Option.some FieldType.int), 1, false, 1),
  (⟨"Latticefit$Routes", "wire", "(II)I"⟩, prog_9_method_21_code, 5, (Option.some FieldType.int), 2, false, 1),
  (⟨"Latticefit$Routes", "has", "(II)Z"⟩, prog_9_method_19_code, 4, (Option.some FieldType.boolean), 2, false, 2),
  (⟨"Latticefit$Builder", "putNet", "(I)V"⟩, prog_3_method_4_code, 5, (Option.none : Option FieldType), 1, false, 0),
  (⟨"Latticefit$Frames", "putWireWord", "(II)V"⟩, prog_7_method_10_code, 4, (Option.none : Option FieldType), 2, false, 0),
  (⟨"Latticefit$Frames", "frameOfEdge", "(I)I"⟩, prog_7_method_12_code, 1, (Option.some FieldType.int), 1, true, 1),
  (⟨"Latticefit$Frames", "indexOfEdge", "(I)I"⟩, prog_7_method_13_code, 4, (Option.some FieldType.int), 1, true, 1),
  (⟨"Latticefit$Frames", "wordsInUse", "()I"⟩, prog_7_method_5_code, 4, (Option.some FieldType.int), 0, false, 1),
  (⟨"LatticefitLaw", "wordAt", "(LLatticefit;II)I"⟩, method_14_code, 4, (Option.some FieldType.int), 3, true, 1)]
def ma_mt_2 : List ma_MT := [(⟨"Latticefit", "wordAt", "(II)I"⟩, prog_1_method_28_code, 3, (Option.some FieldType.int), 2, false, 1),
  (⟨"Latticefit", "needFrame", "(II)V"⟩, prog_1_method_45_code, 3, (Option.none : Option FieldType), 2, false, 0),
  (⟨"Latticefit$Frames", "lengthOf", "(I)I"⟩, prog_7_method_2_code, 2, (Option.some FieldType.int), 1, true, 1),
  (⟨"LatticefitLaw", "start", "(LLatticefit;)I"⟩, method_15_code, 2, (Option.some FieldType.int), 1, true, 1),
  (⟨"Latticefit", "start", "()I"⟩, prog_1_method_30_code, 3, (Option.some FieldType.int), 0, false, 1),
  (⟨"Latticefit$Chip", "reset", "(LLatticefit$Frames;)V"⟩, prog_4_method_2_code, 3, (Option.none : Option FieldType), 1, false, 0),
  (⟨"Latticefit$Frames", "copyFrame", "(LLatticefit$Frames;I)V"⟩, prog_7_method_4_code, 3, (Option.none : Option FieldType), 2, false, 0),
  (⟨"Latticefit$Runner", "reset", "()V"⟩, prog_10_method_2_code, 2, (Option.none : Option FieldType), 0, false, 0),
  (⟨"LatticefitLaw", "tick", "(LLatticefit;I)J"⟩, method_16_code, 3, (Option.some FieldType.long), 2, true, 4),
  (⟨"Latticefit", "tick", "(I)J"⟩, prog_1_method_32_code, 2, (Option.some FieldType.long), 1, false, 4),
  (⟨"Latticefit$Runner", "takeTick", "(I[I)V"⟩, prog_10_method_5_code, 5, (Option.none : Option FieldType), 2, false, 0),
  (⟨"Latticefit$Runner", "findValues", "([I)V"⟩, prog_10_method_3_code, 3, (Option.none : Option FieldType), 1, false, 0),
  (⟨"Latticefit$Chip", "takeTick", "(I)V"⟩, prog_4_method_8_code, 4, (Option.none : Option FieldType), 1, false, 0),
  (⟨"Latticefit$Chip", "findTables", "()V"⟩, prog_4_method_3_code, 3, (Option.none : Option FieldType), 0, false, 0),
  (⟨"Latticefit$Chip", "findEnds", "()V"⟩, prog_4_method_4_code, 3, (Option.none : Option FieldType), 0, false, 0),
  (⟨"Latticefit$Frames", "cellWord", "(II)I"⟩, prog_7_method_7_code, 3, (Option.some FieldType.int), 2, false, 1),
  (⟨"Latticefit$Frames", "endOf", "(I)I"⟩, prog_7_method_14_code, 4, (Option.some FieldType.int), 1, false, 1),
  (⟨"Latticefit$Frames", "isWire", "(I)Z"⟩, prog_7_method_11_code, 1, (Option.some FieldType.boolean), 1, true, 2),
  (⟨"Latticefit$Frames", "wireWord", "(I)I"⟩, prog_7_method_9_code, 3, (Option.some FieldType.int), 1, false, 1),
  (⟨"Latticefit$Chip", "renewTables", "()Z"⟩, prog_4_method_5_code, 5, (Option.some FieldType.boolean), 0, false, 2),
  (⟨"Latticefit$Chip", "valueOfEnd", "(I[I)I"⟩, prog_4_method_6_code, 4, (Option.some FieldType.int), 2, false, 1),
  (⟨"LatticefitLaw", "sourceOf", "(LLatticefit;II)I"⟩, method_17_code, 4, (Option.some FieldType.int), 3, true, 1),
  (⟨"Latticefit", "sourceOf", "(II)I"⟩, prog_1_method_36_code, 4, (Option.some FieldType.int), 2, false, 1),
  (⟨"Latticefit", "isCell", "(I)Z"⟩, prog_1_method_47_code, 1, (Option.some FieldType.boolean), 1, true, 2),
  (⟨"Latticefit$Places", "nodeOfCode", "(I)I"⟩, prog_8_method_10_code, 3, (Option.some FieldType.int), 1, false, 1),
  (⟨"LatticefitLaw", "flip", "(LLatticefit;III)I"⟩, method_18_code, 5, (Option.some FieldType.int), 4, true, 1),
  (⟨"Latticefit", "flip", "(III)I"⟩, prog_1_method_37_code, 4, (Option.some FieldType.int), 3, false, 1),
  (⟨"LatticefitLaw", "scrub", "(LLatticefit;)I"⟩, method_19_code, 2, (Option.some FieldType.int), 1, true, 1),
  (⟨"Latticefit", "scrub", "()I"⟩, prog_1_method_39_code, 3, (Option.some FieldType.int), 0, false, 1),
  (⟨"Latticefit$Frames", "sumOf", "(I)I"⟩, prog_7_method_6_code, 5, (Option.some FieldType.int), 1, false, 1),
  (⟨"LatticefitLaw", "setInput", "(LLatticefit;IZ)I"⟩, method_20_code, 4, (Option.some FieldType.int), 3, true, 1),
  (⟨"Latticefit", "setInput", "(IZ)Z"⟩, prog_1_method_31_code, 4, (Option.some FieldType.boolean), 2, false, 2),
  (⟨"LatticefitLaw", "circuitOutput", "(LLatticefit;I)I"⟩, method_21_code, 3, (Option.some FieldType.int), 2, true, 1),
  (⟨"Latticefit", "circuitOutput", "(I)Z"⟩, prog_1_method_33_code, 2, (Option.some FieldType.boolean), 1, false, 2),
  (⟨"Latticefit", "needOutput", "(I)V"⟩, prog_1_method_46_code, 2, (Option.none : Option FieldType), 1, false, 0),
  (⟨"Latticefit$Runner", "outputValue", "(I)I"⟩, prog_10_method_4_code, 2, (Option.some FieldType.int), 1, false, 1),
  (⟨"LatticefitLaw", "chipOutput", "(LLatticefit;I)I"⟩, method_22_code, 3, (Option.some FieldType.int), 2, true, 1),
  (⟨"Latticefit", "chipOutput", "(I)Z"⟩, prog_1_method_34_code, 2, (Option.some FieldType.boolean), 1, false, 2),
  (⟨"Latticefit$Chip", "outputValue", "(I)I"⟩, prog_4_method_7_code, 2, (Option.some FieldType.int), 1, false, 1),
  (⟨"LatticefitLaw", "chipRegister", "(LLatticefit;I)I"⟩, method_23_code, 3, (Option.some FieldType.int), 2, true, 1)]
def ma_mt_3 : List ma_MT := [(⟨"Latticefit", "chipRegister", "(I)Z"⟩, prog_1_method_35_code, 2, (Option.some FieldType.boolean), 1, false, 2),
  (⟨"LatticefitLaw", "isBad", "(LLatticefit;I)I"⟩, method_24_code, 3, (Option.some FieldType.int), 2, true, 1),
  (⟨"Latticefit", "isBad", "(I)Z"⟩, prog_1_method_38_code, 2, (Option.some FieldType.boolean), 1, false, 2),
  (⟨"LatticefitLaw", "in", "([III)I"⟩, method_26_code, 3, (Option.some FieldType.int), 3, true, 1),
  (⟨"LatticefitLaw", "cell", "([II)I"⟩, method_2_code, 3, (Option.some FieldType.int), 2, true, 1),
  (⟨"LatticefitLaw", "begun", "([I[I)LLatticefit;"⟩, method_29_code, 8, (Option.some (FieldType.object "Latticefit")), 2, true, 9),
  (⟨"LatticefitLaw", "isNode", "(LLatticefit;[IIII)Z"⟩, method_28_code, 7, (Option.some FieldType.boolean), 5, true, 2),
  (⟨"LatticefitLaw", "at", "(I)I"⟩, method_27_code, 1, (Option.some FieldType.int), 1, true, 1),
  (⟨"LatticefitLaw", "addInput", "(LLatticefit;)I"⟩, method_3_code, 2, (Option.some FieldType.int), 1, true, 1),
  (⟨"Latticefit", "addInput", "()I"⟩, prog_1_method_2_code, 1, (Option.some FieldType.int), 0, false, 1),
  (⟨"Latticefit$Circuit", "putInput", "()I"⟩, prog_5_method_4_code, 1, (Option.some FieldType.int), 0, false, 1),
  (⟨"LatticefitLaw", "addRegister", "(LLatticefit;ZI)I"⟩, method_4_code, 4, (Option.some FieldType.int), 3, true, 1),
  (⟨"Latticefit", "addRegister", "(ZI)I"⟩, prog_1_method_3_code, 3, (Option.some FieldType.int), 2, false, 1),
  (⟨"Latticefit$Circuit", "putRegister", "(ZI)I"⟩, prog_5_method_5_code, 3, (Option.some FieldType.int), 2, false, 1),
  (⟨"LatticefitLaw", "addGate", "(LLatticefit;CII)I"⟩, method_5_code, 5, (Option.some FieldType.int), 4, true, 1),
  (⟨"Latticefit", "addGate", "(CII)I"⟩, prog_1_method_4_code, 4, (Option.some FieldType.int), 3, false, 1),
  (⟨"Latticefit$Circuit", "putGate", "(CII)I"⟩, prog_5_method_6_code, 4, (Option.some FieldType.int), 3, false, 1),
  (⟨"LatticefitLaw", "feed", "(LLatticefit;II)I"⟩, method_6_code, 4, (Option.some FieldType.int), 3, true, 1),
  (⟨"Latticefit", "feed", "(II)I"⟩, prog_1_method_5_code, 4, (Option.some FieldType.int), 2, false, 1),
  (⟨"LatticefitLaw", "addOutput", "(LLatticefit;I)I"⟩, method_7_code, 3, (Option.some FieldType.int), 2, true, 1),
  (⟨"Latticefit", "addOutput", "(I)I"⟩, prog_1_method_6_code, 2, (Option.some FieldType.int), 1, false, 1),
  (⟨"Latticefit$Circuit", "putOutput", "(I)I"⟩, prog_5_method_7_code, 2, (Option.some FieldType.int), 1, false, 1),
  (⟨"LatticefitLaw", "areOutputs", "(LLatticefit;[IZ)Z"⟩, method_32_code, 6, (Option.some FieldType.boolean), 3, true, 2),
  (⟨"LatticefitLaw", "values", "([I)[I"⟩, method_31_code, 4, (Option.some (FieldType.array FieldType.int)), 1, true, 9),
  (⟨"LatticefitLaw", "of", "(III)I"⟩, method_30_code, 3, (Option.some FieldType.int), 3, true, 1),
  (⟨"LatticefitLaw", "agrees", "(LLatticefit;)I"⟩, method_25_code, 2, (Option.some FieldType.int), 1, true, 1),
  (⟨"Latticefit", "agrees", "()Z"⟩, prog_1_method_40_code, 3, (Option.some FieldType.boolean), 0, false, 2),
  (⟨"LatticefitLaw", "begins", "([I)V"⟩, method_33_code, 2, (Option.none : Option FieldType), 1, true, 0),
  (⟨"LatticefitLaw", "ticks", "([II)V"⟩, method_34_code, 5, (Option.none : Option FieldType), 2, true, 0),
  (⟨"LatticefitLaw", "areSources", "(LLatticefit;I)Z"⟩, method_35_code, 6, (Option.some FieldType.boolean), 2, true, 2),
  (⟨"LatticefitLaw", "inputOf", "(LLatticefit;II)I"⟩, method_9_code, 4, (Option.some FieldType.int), 3, true, 1),
  (⟨"Latticefit", "inputOf", "(II)I"⟩, prog_1_method_12_code, 3, (Option.some FieldType.int), 2, false, 1),
  (⟨"Latticefit", "needBlock", "(I)V"⟩, prog_1_method_44_code, 2, (Option.none : Option FieldType), 1, false, 0),
  (⟨"LatticefitLaw", "cellOf", "(LLatticefit;I)I"⟩, method_11_code, 3, (Option.some FieldType.int), 2, true, 1),
  (⟨"Latticefit", "cellOf", "(I)I"⟩, prog_1_method_17_code, 2, (Option.some FieldType.int), 1, false, 1)]
def ma_mt (y : Nat) : ma_MT := if y < 40 then ma_mt_0.getD (y - 0) (⟨"", "", ""⟩, ⟨#[]⟩, 0, none, 0, false, 0) else if y < 80 then ma_mt_1.getD (y - 40) (⟨"", "", ""⟩, ⟨#[]⟩, 0, none, 0, false, 0) else if y < 120 then ma_mt_2.getD (y - 80) (⟨"", "", ""⟩, ⟨#[]⟩, 0, none, 0, false, 0) else if y < 155 then ma_mt_3.getD (y - 120) (⟨"", "", ""⟩, ⟨#[]⟩, 0, none, 0, false, 0) else (⟨"", "", ""⟩, ⟨#[]⟩, 0, none, 0, false, 0)
def ma_nM : Nat := 155
abbrev ma_y (y : Nat) : MethodName := (ma_mt y).1
abbrev ma_b (y : Nat) : ByteArray := (ma_mt y).2.1
abbrev ma_nL (y : Nat) : Nat := (ma_mt y).2.2.1
abbrev ma_ret (y : Nat) : Option FieldType := (ma_mt y).2.2.2.1
abbrev ma_stat (y : Nat) : Bool := (ma_mt y).2.2.2.2.2.1
abbrev ma_rk (y : Nat) : Nat := (ma_mt y).2.2.2.2.2.2
def ma_nas : List Nat := [0, 0, 0, 1, 1, 0, 0, 1, 0, 0, 1, 3, 1, 4, 1, 1, 1, 2, 2, 2, 2, 2, 2, 0, 0, 2, 4, 3, 1, 3, 1, 1, 2, 1, 3, 0, 1, 1, 0, 1, 1, 2, 1, 1, 2, 2, 1, 1, 2, 1, 1, 1, 1, 2, 2, 1, 0, 1, 3, 1, 2, 2, 1, 0, 1, 0, 0, 0, 1, 3, 2, 1, 2, 2, 1, 2, 1, 1, 0, 3, 2, 2, 1, 1, 0, 1, 2, 0, 2, 1, 2, 1, 1, 0, 0, 2, 1, 1, 1, 0, 2, 3, 2, 1, 1, 4, 3, 1, 0, 1, 3, 2, 2, 1, 1, 1, 2, 1, 1, 2, 1, 2, 1, 3, 2, 2, 5, 1, 1, 0, 0, 3, 2, 2, 4, 3, 3, 3, 2, 2, 1, 1, 3, 1, 3, 1, 0, 1, 2, 2, 3, 2, 1, 2, 1]
def ma_na (y : Nat) : Nat := ma_nas.getD y 0
/-- how many cells a call may cost, whatever its end -/
def ma_ws : List Nat := [0, 0, 0, 0, 0, 0, 0, 1, 1, 0, 0, 0, 0, 0, 0, 0, 0, 0, 0, 0, 0, 0, 0, 0, 0, 0, 2, 2, 1, 0, 0, 0, 0, 0, 0, 0, 0, 0, 0, 0, 0, 0, 0, 0, 0, 2, 2, 0, 0, 0, 0, 0, 0, 0, 0, 0, 0, 0, 0, 0, 0, 0, 0, 0, 1, 1, 0, 0, 0, 0, 0, 0, 0, 0, 0, 0, 0, 0, 0, 3, 3, 2, 0, 1, 1, 0, 0, 0, 2, 2, 0, 0, 0, 0, 0, 0, 0, 0, 0, 0, 0, 2, 2, 0, 0, 3, 3, 1, 1, 0, 2, 2, 2, 2, 2, 0, 2, 2, 0, 2, 2, 2, 2, 0, 0, 400, 3, 0, 1, 1, 0, 1, 1, 0, 1, 1, 0, 1, 1, 1, 1, 0, 40, 8, 0, 1, 1, 0, 8, 600, 2, 2, 1, 1, 1]
def ma_wc (y : Nat) : Nat := ma_ws.getD y 0
def ma_hs : List (Nat × List (Nat × Nat × Nat × Nat)) := [(7, [(0, 4, 5, 0), (0, 4, 9, 1)]), (26, [(0, 7, 8, 2), (0, 7, 13, 0)]), (45, [(0, 5, 6, 2), (0, 5, 10, 0)]), (64, [(0, 4, 5, 0)]), (79, [(0, 6, 7, 3), (0, 6, 11, 0), (0, 6, 15, 4)]), (83, [(0, 4, 5, 0)]), (88, [(0, 5, 6, 2), (0, 5, 11, 0)]), (101, [(0, 6, 7, 3), (0, 6, 11, 0), (0, 6, 15, 4)]), (105, [(0, 7, 8, 3), (0, 7, 13, 0), (0, 7, 18, 4)]), (107, [(0, 4, 5, 0)]), (110, [(0, 14, 15, 3), (0, 14, 19, 0)]), (112, [(0, 13, 14, 3), (0, 13, 18, 0)]), (116, [(0, 13, 14, 3), (0, 13, 18, 0)]), (119, [(0, 13, 14, 3), (0, 13, 18, 0)]), (121, [(0, 13, 14, 3), (0, 13, 18, 0)]), (128, [(0, 4, 5, 0)]), (131, [(0, 6, 7, 2), (0, 6, 11, 0)]), (134, [(0, 7, 8, 2), (0, 7, 13, 3), (0, 7, 18, 0)]), (137, [(0, 6, 7, 3), (0, 6, 11, 0)]), (139, [(0, 5, 6, 3), (0, 5, 10, 0)]), (145, [(0, 12, 13, 0)]), (150, [(0, 6, 7, 3), (0, 6, 11, 0), (0, 6, 15, 4)]), (153, [(0, 5, 6, 3), (0, 5, 10, 0)])]
def ma_hh (y : Nat) : List (Nat × Nat × Nat × Nat) := ((ma_hs.find? (fun q => q.1 == y)).getD (0, [])).2
/-- the same with the class entries -/
def ma_hcs : List (Nat × List (Nat × Nat × Nat × Nat)) := [(7, [(0, 4, 5, 15), (0, 4, 9, 43)]), (26, [(0, 7, 8, 22), (0, 7, 13, 15)]), (45, [(0, 5, 6, 22), (0, 5, 10, 15)]), (64, [(0, 4, 5, 15)]), (79, [(0, 6, 7, 29), (0, 6, 11, 15), (0, 6, 15, 48)]), (83, [(0, 4, 5, 15)]), (88, [(0, 5, 6, 22), (0, 5, 11, 15)]), (101, [(0, 6, 7, 29), (0, 6, 11, 15), (0, 6, 15, 48)]), (105, [(0, 7, 8, 29), (0, 7, 13, 15), (0, 7, 18, 48)]), (107, [(0, 4, 5, 15)]), (110, [(0, 14, 15, 29), (0, 14, 19, 15)]), (112, [(0, 13, 14, 29), (0, 13, 18, 15)]), (116, [(0, 13, 14, 29), (0, 13, 18, 15)]), (119, [(0, 13, 14, 29), (0, 13, 18, 15)]), (121, [(0, 13, 14, 29), (0, 13, 18, 15)]), (128, [(0, 4, 5, 15)]), (131, [(0, 6, 7, 22), (0, 6, 11, 15)]), (134, [(0, 7, 8, 22), (0, 7, 13, 29), (0, 7, 18, 15)]), (137, [(0, 6, 7, 29), (0, 6, 11, 15)]), (139, [(0, 5, 6, 29), (0, 5, 10, 15)]), (145, [(0, 12, 13, 15)]), (150, [(0, 6, 7, 29), (0, 6, 11, 15), (0, 6, 15, 48)]), (153, [(0, 5, 6, 29), (0, 5, 10, 15)])]
def ma_hc (y : Nat) : List (Nat × Nat × Nat × Nat) := ((ma_hcs.find? (fun q => q.1 == y)).getD (0, [])).2
abbrev mi_Latticefit_isRouted : Nat := 0
abbrev mi_Latticefit_isConsistent : Nat := 1
abbrev mi_Circuit_isSound : Nat := 2
abbrev mi_Circuit_isGate : Nat := 3
abbrev mi_Circuit_isNode : Nat := 4
abbrev mi_Places_isSound : Nat := 5
abbrev mi_Routes_isCrowded : Nat := 6
abbrev mi_LatticefitLaw_map : Nat := 7
abbrev mi_Latticefit_map : Nat := 8
abbrev mi_Cuts_findAll : Nat := 9
abbrev mi_Cuts_offerAll : Nat := 10
abbrev mi_Cuts_offer : Nat := 11
abbrev mi_Long_bitCount : Nat := 12
abbrev mi_Cuts_isBehind : Nat := 13
abbrev mi_Blocks_pack : Nat := 14
abbrev mi_Blocks_markNeeded : Nat := 15
abbrev mi_Cuts_own : Nat := 16
abbrev mi_Blocks_markCut : Nat := 17
abbrev mi_Blocks_isIn : Nat := 18
abbrev mi_Arrays_fill_AIIV : Nat := 19
abbrev mi_Blocks_putRegister : Nat := 20
abbrev mi_Blocks_putGate : Nat := 21
abbrev mi_Circuit_joined : Nat := 22
abbrev mi_Places_putAnew : Nat := 23
abbrev mi_Routes_clear : Nat := 24
abbrev mi_Arrays_fill_AJJV : Nat := 25
abbrev mi_LatticefitLaw_anneal : Nat := 26
abbrev mi_Latticefit_anneal : Nat := 27
abbrev mi_Latticefit_needStage : Nat := 28
abbrev mi_Places_swapByChance : Nat := 29
abbrev mi_Places_nextChance : Nat := 30
abbrev mi_Places_cellTold : Nat := 31
abbrev mi_Places_maySwap : Nat := 32
abbrev mi_Places_holdsFixed : Nat := 33
abbrev mi_Places_swapIfGood : Nat := 34
abbrev mi_Places_clockExcess : Nat := 35
abbrev mi_Places_cellOfNode : Nat := 36
abbrev mi_Integer_bitCount : Nat := 37
abbrev mi_Places_findLengths : Nat := 38
abbrev mi_Places_sourceCrossing : Nat := 39
abbrev mi_Places_crossingAt : Nat := 40
abbrev mi_Places_stretchTo : Nat := 41
abbrev mi_Places_crossingOfOutput : Nat := 42
abbrev mi_Places_lengthOf : Nat := 43
abbrev mi_Places_exchange : Nat := 44
abbrev mi_LatticefitLaw_route : Nat := 45
abbrev mi_Latticefit_route : Nat := 46
abbrev mi_Places_putPins : Nat := 47
abbrev mi_Routes_addSink : Nat := 48
abbrev mi_Routes_makeRounds : Nat := 49
abbrev mi_Routes_giveUp : Nat := 50
abbrev mi_Latticefit_isEdge : Nat := 51
abbrev mi_Routes_layTree : Nat := 52
abbrev mi_Routes_isInTree : Nat := 53
abbrev mi_Routes_addWay : Nat := 54
abbrev mi_Routes_openTree : Nat := 55
abbrev mi_Routes_takeCheapest : Nat := 56
abbrev mi_Routes_openNeighbours : Nat := 57
abbrev mi_Routes_offerWay : Nat := 58
abbrev mi_Routes_tollOf : Nat := 59
abbrev mi_Routes_takeWay : Nat := 60
abbrev mi_Routes_otherEnd : Nat := 61
abbrev mi_Routes_lowEnd : Nat := 62
abbrev mi_Routes_raisePrices : Nat := 63
abbrev mi_LatticefitLaw_build : Nat := 64
abbrev mi_Latticefit_build : Nat := 65
abbrev mi_Builder_fillFrames : Nat := 66
abbrev mi_Frames_clear : Nat := 67
abbrev mi_Builder_putBlock : Nat := 68
abbrev mi_Frames_putCellWord : Nat := 69
abbrev mi_Builder_codeAt : Nat := 70
abbrev mi_Places_sourceCode : Nat := 71
abbrev mi_Routes_wire : Nat := 72
abbrev mi_Routes_has : Nat := 73
abbrev mi_Builder_putNet : Nat := 74
abbrev mi_Frames_putWireWord : Nat := 75
abbrev mi_Frames_frameOfEdge : Nat := 76
abbrev mi_Frames_indexOfEdge : Nat := 77
abbrev mi_Frames_wordsInUse : Nat := 78
abbrev mi_LatticefitLaw_wordAt : Nat := 79
abbrev mi_Latticefit_wordAt : Nat := 80
abbrev mi_Latticefit_needFrame : Nat := 81
abbrev mi_Frames_lengthOf : Nat := 82
abbrev mi_LatticefitLaw_start : Nat := 83
abbrev mi_Latticefit_start : Nat := 84
abbrev mi_Chip_reset : Nat := 85
abbrev mi_Frames_copyFrame : Nat := 86
abbrev mi_Runner_reset : Nat := 87
abbrev mi_LatticefitLaw_tick : Nat := 88
abbrev mi_Latticefit_tick : Nat := 89
abbrev mi_Runner_takeTick : Nat := 90
abbrev mi_Runner_findValues : Nat := 91
abbrev mi_Chip_takeTick : Nat := 92
abbrev mi_Chip_findTables : Nat := 93
abbrev mi_Chip_findEnds : Nat := 94
abbrev mi_Frames_cellWord : Nat := 95
abbrev mi_Frames_endOf : Nat := 96
abbrev mi_Frames_isWire : Nat := 97
abbrev mi_Frames_wireWord : Nat := 98
abbrev mi_Chip_renewTables : Nat := 99
abbrev mi_Chip_valueOfEnd : Nat := 100
abbrev mi_LatticefitLaw_sourceOf : Nat := 101
abbrev mi_Latticefit_sourceOf : Nat := 102
abbrev mi_Latticefit_isCell : Nat := 103
abbrev mi_Places_nodeOfCode : Nat := 104
abbrev mi_LatticefitLaw_flip : Nat := 105
abbrev mi_Latticefit_flip : Nat := 106
abbrev mi_LatticefitLaw_scrub : Nat := 107
abbrev mi_Latticefit_scrub : Nat := 108
abbrev mi_Frames_sumOf : Nat := 109
abbrev mi_LatticefitLaw_setInput : Nat := 110
abbrev mi_Latticefit_setInput : Nat := 111
abbrev mi_LatticefitLaw_circuitOutput : Nat := 112
abbrev mi_Latticefit_circuitOutput : Nat := 113
abbrev mi_Latticefit_needOutput : Nat := 114
abbrev mi_Runner_outputValue : Nat := 115
abbrev mi_LatticefitLaw_chipOutput : Nat := 116
abbrev mi_Latticefit_chipOutput : Nat := 117
abbrev mi_Chip_outputValue : Nat := 118
abbrev mi_LatticefitLaw_chipRegister : Nat := 119
abbrev mi_Latticefit_chipRegister : Nat := 120
abbrev mi_LatticefitLaw_isBad : Nat := 121
abbrev mi_Latticefit_isBad : Nat := 122
abbrev mi_LatticefitLaw_in : Nat := 123
abbrev mi_LatticefitLaw_cell : Nat := 124
abbrev mi_LatticefitLaw_begun : Nat := 125
abbrev mi_LatticefitLaw_isNode : Nat := 126
abbrev mi_LatticefitLaw_at : Nat := 127
abbrev mi_LatticefitLaw_addInput : Nat := 128
abbrev mi_Latticefit_addInput : Nat := 129
abbrev mi_Circuit_putInput : Nat := 130
abbrev mi_LatticefitLaw_addRegister : Nat := 131
abbrev mi_Latticefit_addRegister : Nat := 132
abbrev mi_Circuit_putRegister : Nat := 133
abbrev mi_LatticefitLaw_addGate : Nat := 134
abbrev mi_Latticefit_addGate : Nat := 135
abbrev mi_Circuit_putGate : Nat := 136
abbrev mi_LatticefitLaw_feed : Nat := 137
abbrev mi_Latticefit_feed : Nat := 138
abbrev mi_LatticefitLaw_addOutput : Nat := 139
abbrev mi_Latticefit_addOutput : Nat := 140
abbrev mi_Circuit_putOutput : Nat := 141
abbrev mi_LatticefitLaw_areOutputs : Nat := 142
abbrev mi_LatticefitLaw_values : Nat := 143
abbrev mi_LatticefitLaw_of : Nat := 144
abbrev mi_LatticefitLaw_agrees : Nat := 145
abbrev mi_Latticefit_agrees : Nat := 146
abbrev mi_LatticefitLaw_begins : Nat := 147
abbrev mi_LatticefitLaw_ticks : Nat := 148
abbrev mi_LatticefitLaw_areSources : Nat := 149
abbrev mi_LatticefitLaw_inputOf : Nat := 150
abbrev mi_Latticefit_inputOf : Nat := 151
abbrev mi_Latticefit_needBlock : Nat := 152
abbrev mi_LatticefitLaw_cellOf : Nat := 153
abbrev mi_Latticefit_cellOf : Nat := 154
/-- the thrown classes -/
def ma_exs : List String := ["java/lang/IllegalStateException", "java/lang/UnsupportedOperationException", "java/lang/IllegalArgumentException", "java/lang/IndexOutOfBoundsException", "java/util/NoSuchElementException"]
def ma_ex (e : Nat) : String := ma_exs.getD e ""
def ma_owns : List String := ["Latticefit$Blocks", "Latticefit$Builder", "Latticefit$Chip", "Latticefit$Circuit", "Latticefit$Cuts", "Latticefit$Frames", "Latticefit$Places", "Latticefit$Routes", "Latticefit$Runner", "Latticefit$Times", "Latticefit", "LatticefitLaw", "java/lang/Integer", "java/lang/Long", "java/util/Arrays"]
def ma_own (i : Nat) : String := ma_owns.getD i ""
end
section
/-! ===== BEGIN words of one list among another's, by their places ===== -/
theorem goodIn_r {big : List Cond} (ws : List Cond) (ps : List Nat) (hp : ws = ps.filterMap (fun i => big[i]?)) (h : ws.all goodWord = true) : GoodIn big ws := by
  intro w hw
  have h1 := List.all_eq_true.mp h w hw
  rw [hp] at hw
  obtain ⟨i, -, hi⟩ := List.mem_filterMap.mp hw
  have hm : w ∈ big := by first | exact List.mem_of_getElem? hi | exact List.getElem?_mem hi
  exact ⟨hm, good_of_word h1⟩
theorem goodIn_app {big a b : List Cond} (ha : GoodIn big a) (hb : GoodIn big b) : GoodIn big (a ++ b) := fun w h => (List.mem_append.mp h).elim (ha w) (hb w)
theorem goodIn_ca {big a b : List Cond} {c : Cond} (ha : GoodIn big (c :: a)) (hb : GoodIn big b) : GoodIn big (c :: (a ++ b)) := fun w h => (List.mem_cons.mp h).elim (fun e => ha w (List.mem_cons.mpr (Or.inl e))) (fun h => (List.mem_append.mp h).elim (fun h => ha w (List.mem_cons.mpr (Or.inr h))) (hb w))
theorem goodIn_sub {big ws : List Cond} (hm : ∀ w ∈ ws, w ∈ big) (h : ws.all goodWord = true) : GoodIn big ws := fun w hw => ⟨hm w hw, good_of_word (List.all_eq_true.mp h w hw)⟩
/-! ===== END ===== -/
/-! ===== BEGIN exceptions that leave a method, and their catching by the caller (launches without stack traces) ===== -/
section VXA
/-! The laws vx_back, vx_callV, vx_callS, vx_callSW, vx_throw0, vx_throwS follow proofs of the library, with one case more: JvmDerived/Free/Laws.lean (Back.of_free), Shelf42/LK1.lean (callV, callS), Shelf/KitTraced.lean (throwNew0V, throwNewS). -/
/-- where a method has thrown q: the class by its name, the cell, what was written, the world -/
def vx_T (XC : String → State → State → Prop) (st : State) (q : Addr) (t : State) (mc ms : Nat) (free : Addr → Prop) : Prop :=
  ∃ (E : String) (ce : Cell) (L : List Loc), XC E st t ∧ t.heap[q]? = some ce ∧ ce.vm = .none ∧ st.vm.findClass E = some ce.cls ∧ st.WarmedH t.vm ∧ st.sameButNew ({ t with vm := st.vm } : State) L mc ms ∧ ∀ z ∈ L, free z.base
def vx_Q (Qc : Array Value → State → Outcome → State → Prop) (XC : String → State → State → Prop) (mc ms : Nat) (free : Addr → Prop) : Array Value → State → Outcome → State → Prop := fun a st o t =>
  (Qc a st o t ∧ ∃ L, FrameEnd st o t L mc ms ∧ ∀ q ∈ L, free q.base) ∨ ∃ q, o = .threw q ∧ vx_T XC st q t mc ms free
/-- a callee that returns or throws -/
def vx_Met (l : Launch) (y : MethodName) (ws : List Cond) (rm : Room) (Pc : Array Value → State → Prop) (Qc : Array Value → State → Outcome → State → Prop) (XC : String → State → State → Prop) (mc ms : Nat) (free : Addr → Prop) : Prop :=
  MetFree l y (headSpec ws rm) Pc (fun _ _ _ _ _ => True) (vx_Q Qc XC mc ms free)
def vx_Post (XC : String → State → State → Prop) (mc ms : Nat) (free : Addr → Prop) : Pt → Array Value → Addr → Pt → Prop := fun A a q B =>
  ∃ (g : JFrame) (mk : MethodId) (t : State) (L : List Loc) (E : String) (ce : Cell), B.U.heap = t.heap ∧ B.U.vm = t.vm ∧ XC E (A.U.calling g mk a) t ∧ t.heap[q]? = some ce ∧ ce.vm = .none ∧ A.U.vm.findClass E = some ce.cls ∧ B.locs = A.locs ++ L ∧ (∀ z ∈ L, free z.base) ∧ B.cells = A.cells + mc ∧ B.slots = A.slots + ms
def vx_Back (l : Launch) (R : Room) (p : Program) (e : Env) (below : List Frame) (s : State) (sargs : Array Value) (y : MethodName) (len W9 : Nat)
    (Pre : Pt → Array Value → Prop) (Post : Pt → Array Value → Option Value → Pt → Prop) (PostX : Pt → Array Value → Addr → Pt → Prop) : Prop :=
  ∀ (m : MethodId) (meth : Method) (c : Code) (A : Pt) (g : JFrame) (ig : Instr) (mk : MethodId) (a : Array Value),
    Stand p l e R s m sargs below meth c A.U A.locs A.cells A.slots → g.method = m → g.locals.size = c.maxLocals → decode c.code g.pc = .ok (ig, len) →
    2 * g.monitorRoom + (g.stack.map fun v => v.category).sum ≤ W9 → A.U.methodNamed? y = some mk → Pre A a →
    (∃ (v : Option Value) (B : Pt), Stand p l e R s m sargs below meth c B.U B.locs B.cells B.slots ∧ Post A a v B ∧
      Steps p.tables e below (doInvoke e (A.U.setTop g) [] mk a).1 (B.U.setTop { g with pc := g.pc + len, stack := v.toList ++ g.stack })) ∨
    (∃ (q : Addr) (B : Pt), Stand p l e R s m sargs below meth c B.U B.locs B.cells B.slots ∧ PostX A a q B ∧
      Steps p.tables e below (doInvoke e (A.U.setTop g) [] mk a).1 ((B.U.setTop g).pushFrame (.throwing q)))
section Payer
variable {l : Launch} {R : Room} {p : Program} {e : Env} {below : List Frame} {s : State} {sargs : Array Value} {y : MethodName} {len W9 : Nat}
theorem vx_back {ws : List Cond} {rm : Room} {Pc : Array Value → State → Prop} {Qc : Array Value → State → Outcome → State → Prop} {XC : String → State → State → Prop} {mc ms : Nat} {free : Addr → Prop} {bytes : ByteArray} {maxL : Nat} {ret : Option FieldType}
    (hM : vx_Met l y ws rm Pc Qc XC mc ms free) (hblind : FrameBlind Pc) (hrc : rm.cells = mc) (hrs : rm.slots = ms)
    (hframes : rm.frames + 1 ≤ R.frames) (hlocals : W9 + (maxL + 11) + rm.locals ≤ R.locals)
    (hws : ∀ w ∈ ws, ∀ a' U, s.WarmedH U.vm → w.before a' U = true) (hcode : Cond.code y bytes maxL ret ∈ ws) (hinit : ∀ a' U, s.WarmedH U.vm → (Cond.initialized y.cls).before a' U = true) :
    vx_Back l R p e below s sargs y len W9 (PreOf R mc ms Pc) (PostOf Qc mc ms free) (vx_Post XC mc ms free) := by
  intro m meth c A g ig mk a X hg hsize hdg hW hn hp
  have h1 : (headSpec ws rm).pre.before a A.U = true := atoms_intro fun w hw => hws w hw _ _ X.warmed
  have h2 : (Cond.code y bytes maxL ret).before a A.U = true := hws _ hcode _ _ X.warmed
  have h3 : (Cond.initialized y.cls).before a A.U = true := hinit _ _ X.warmed
  have h4 : A.cells + (headSpec ws rm).room.cells ≤ R.cells := by rw [show (headSpec ws rm).room.cells = mc from hrc]; exact hp.1
  have h5 : A.slots + (headSpec ws rm).room.slots ≤ R.slots := by rw [show (headSpec ws rm).room.slots = ms from hrs]; exact hp.2.1
  have hPc : Pc a (A.U.calling g mk a) := hblind _ _ _ _ hp.2.2
  obtain ⟨U, Ls, c0, s0⟩ := A
  dsimp only [Pt.U, Pt.locs, Pt.cells, Pt.slots] at h1 h2 h3 h4 h5 X hn hPc ⊢
  obtain ⟨methY, cY, hmY, hcY, -, hlY, -, -, -, -⟩ := Cond.code_spec hn h2
  obtain ⟨kY, hkY, -⟩ := className_of_methodNamed hn
  have hinitY : kY.init = .initialized := Cond.initialized_spec (findClass_of_methodNamed hn) hkY h3
  have h : At U g.method c below := by rw [hg]; exact X.here
  have hlocals9 : W9 + (maxL + 11) + (headSpec ws rm).room.locals ≤ R.locals := hlocals
  have happ : (headSpec ws rm).appliesLoose y e.platform (U.calling g mk a) = true :=
    Spec.appliesLoose_calling (g := g) h hdg hn hkY hinitY
      (X.room_calling (g := g) (R' := (headSpec ws rm).room) hsize hmY hcY hframes (by rw [hlY]; omega) h4 h5) h1
  obtain ⟨mid, hmid⟩ := h.above
  have hfr : (U.setTop g).frames = (.java g :: mid) ++ below := by rw [State.frames_setTop' g h.top, hmid]; rfl
  obtain ⟨o, s₂, hsteps, -, hend, hq⟩ := Steps.callFree hM p X.admits X.cas X.clock (acts := []) hfr happ hPc trivial
  have hq' : vx_Q Qc XC mc ms free a (U.calling g mk a) o s₂ := hq
  rw [State.frames_setTop' g h.top] at hend
  obtain ⟨g₀, hg0⟩ := Option.isSome_iff_exists.mp h.top
  obtain ⟨r, hr⟩ := State.topJava?_eq_some.mp hg0
  have hr' : (({ U with heap := s₂.heap, slotsUsed := s₂.slotsUsed } : State).setVm s₂.vm).frames = .java g₀ :: r := hr
  rcases hq' with ⟨hqc, L, hfe, hL⟩ | ⟨q, rfl, E, ce, L, hx, hce, hcv, hcl, hW₂, hsm, hL⟩
  · obtain ⟨⟨v, rfl⟩, hW₂, e2, q2, q3, q4, q5, q6⟩ := id hfe
    have e3 : s₂ = ({ (U.calling g mk a).setFrames s₂.frames with heap := s₂.heap, slotsUsed := s₂.slotsUsed } : State).setVm s₂.vm := by
      have : s₂ = ({ s₂ with vm := (U.calling g mk a).vm } : State).setVm s₂.vm := rfl
      rw [e2] at this
      exact this
    obtain ⟨c₂, i₂, len₂, hc₂, hd₂, hf₂⟩ := hend
    have hW' : U.WarmedH s₂.vm := hW₂
    have hcc : c₂ = c := by
      have h1 : s₂.code? g.method = U.code? g.method := by
        rw [State.code?_eq, State.code?_eq, hW'.alike.method?]
      exact Option.some.inj (hc₂.symm.trans (h1.trans h.code))
    subst hcc
    have hlen : len₂ = len := by rw [hdg] at hd₂; cases hd₂; rfl
    subst hlen
    have hs₂ : s₂ = (({ U with heap := s₂.heap, slotsUsed := s₂.slotsUsed } : State).setVm s₂.vm).setTop { g with pc := g.pc + len₂, stack := v.toList ++ g.stack } := by
      refine e3.trans ?_
      rw [hf₂, State.calling_eq h.top, State.setFrames_setFrames, State.setTop_of_frames _ hr', hr]
      rfl
    have hsame : U.sameButNew ({ U with heap := s₂.heap, slotsUsed := s₂.slotsUsed } : State) L mc ms := by
      refine ⟨?_, q2, q3, q4, q5, q6⟩
      obtain ⟨t, ht, -⟩ := State.frames_cons hr
      show ({ U with heap := s₂.heap, slotsUsed := s₂.slotsUsed } : State) = { U.setFrames U.frames with heap := s₂.heap, slotsUsed := s₂.slotsUsed }
      rw [State.setFrames_self ht]
    subst hg
    refine Or.inl ⟨v, ⟨(({ U with heap := s₂.heap, slotsUsed := s₂.slotsUsed } : State).setVm s₂.vm), Ls ++ L, c0 + mc, s0 + ms⟩,
      ⟨X.admits, X.cas, X.clock, X.frames, X.room, X.hears, X.method, X.code, (X.here.setHeapUsed s₂.heap s₂.slotsUsed).setVm hW'.alike, X.tail, State.WarmedH.trans X.warmed hW', X.limits, X.bytes, X.same.trans (hsame.setVm s.vm)⟩,
      ⟨g, mk, s₂, L, rfl, rfl, hqc, rfl, hL, rfl, rfl⟩, ?_⟩
    show Steps p.tables e below _ ((({ U with heap := s₂.heap, slotsUsed := s₂.slotsUsed } : State).setVm s₂.vm).setTop { g with pc := g.pc + len₂, stack := v.toList ++ g.stack })
    rw [← hs₂]
    exact hsteps
  · obtain ⟨e2, q2, q3, q4, q5, q6⟩ := id hsm
    have e3 : s₂ = ({ (U.calling g mk a).setFrames s₂.frames with heap := s₂.heap, slotsUsed := s₂.slotsUsed } : State).setVm s₂.vm := by
      have : s₂ = ({ s₂ with vm := (U.calling g mk a).vm } : State).setVm s₂.vm := rfl
      rw [e2] at this
      exact this
    have hf₂ : s₂.frames = .throwing q :: .java g :: U.frames.tail := hend
    have hW' : U.WarmedH s₂.vm := hW₂
    have hs₂ : s₂ = ((({ U with heap := s₂.heap, slotsUsed := s₂.slotsUsed } : State).setVm s₂.vm).setTop g).pushFrame (.throwing q) := by
      refine e3.trans ?_
      rw [hf₂, State.calling_eq h.top, State.setFrames_setFrames, State.pushFrame, State.frames_setTop _ hr', State.setTop_of_frames _ hr', State.setFrames_setFrames, hr]
      rfl
    have hsame : U.sameButNew ({ U with heap := s₂.heap, slotsUsed := s₂.slotsUsed } : State) L mc ms := by
      refine ⟨?_, q2, q3, q4, q5, q6⟩
      obtain ⟨t, ht, -⟩ := State.frames_cons hr
      show ({ U with heap := s₂.heap, slotsUsed := s₂.slotsUsed } : State) = { U.setFrames U.frames with heap := s₂.heap, slotsUsed := s₂.slotsUsed }
      rw [State.setFrames_self ht]
    subst hg
    refine Or.inr ⟨q, ⟨(({ U with heap := s₂.heap, slotsUsed := s₂.slotsUsed } : State).setVm s₂.vm), Ls ++ L, c0 + mc, s0 + ms⟩,
      ⟨X.admits, X.cas, X.clock, X.frames, X.room, X.hears, X.method, X.code, (X.here.setHeapUsed s₂.heap s₂.slotsUsed).setVm hW'.alike, X.tail, State.WarmedH.trans X.warmed hW', X.limits, X.bytes, X.same.trans (hsame.setVm s.vm)⟩,
      ⟨g, mk, s₂, L, E, ce, rfl, rfl, hx, hce, hcv, hcl, rfl, hL, rfl, rfl⟩, ?_⟩
    show Steps p.tables e below _ (((({ U with heap := s₂.heap, slotsUsed := s₂.slotsUsed } : State).setVm s₂.vm).setTop g).pushFrame (.throwing q))
    rw [← hs₂]
    exact hsteps
end Payer
section Calls
variable {p : Program} {l : Launch} {e : Env} {R : Room} {s : State} {m : MethodId} {args : Array Value} {below : List Frame} {meth : Method} {c : Code} {T : State} {locs : List Loc} {cells slots : Nat}
theorem vx_callV (X : Stand p l e R s m args below meth c T locs cells slots) (hexec : p.tables.exec = Jvm.exec) {own C : String} {index : Nat} {y : MethodName} {bytes : ByteArray} {maxL : Nat} {ret : Option FieldType}
    (hown : s.vm.findClass own = some m.cls) (hlink : (Cond.methodLink own index y).before args s = true) (hinst : (Cond.instanceMethod y).before args s = true) (hsel : (Cond.selects C y y).before args s = true)
    (hcode : (Cond.code y bytes maxL ret).before args s = true) (hy : y.cls ≠ "java/lang/invoke/MethodHandle" ∧ y.cls ≠ "java/lang/invoke/VarHandle")
    {W9 : Nat} {Pre : Pt → Array Value → Prop} {Post : Pt → Array Value → Option Value → Pt → Prop} {PostX : Pt → Array Value → Addr → Pt → Prop} (hK : vx_Back l R p e below s args y 3 W9 Pre Post PostX)
    {b : Addr} {cellB : Cell} (hcell : T.heap[b]? = some cellB) (hobj : cellB.vm.isStatics = false) (hcls : s.vm.findClass C = some cellB.cls)
    {g : JFrame} (hg : g.method = m) (hsize : g.locals.size = c.maxLocals) {argsL rest : List Value} (hlen : ∀ sig, parseMethodDescriptor y.desc = some sig → argsL.length = sig.parameters.length)
    (hstack : g.stack = argsL.reverse ++ .ref b :: rest) (hW : 2 * g.monitorRoom + (rest.map fun v => v.category).sum ≤ W9) (hdg : decode c.code g.pc = .ok (.invokevirtual index, 3))
    (hpre : ∀ vm₁, s.WarmedH vm₁ → Pre ⟨T.setVm vm₁, locs, cells, slots⟩ (Value.ref b :: argsL).toArray) :
    (∃ (v : Option Value) (vm₁ : Vm) (B : Pt), s.WarmedH vm₁ ∧ Stand p l e R s m args below meth c B.U B.locs B.cells B.slots ∧ Post ⟨T.setVm vm₁, locs, cells, slots⟩ (Value.ref b :: argsL).toArray v B ∧
      ∀ target, Steps p.tables e below (B.U.setTop { g with pc := g.pc + 3, stack := v.toList ++ rest }) target → Steps p.tables e below (T.setTop g) target) ∨
    (∃ (q : Addr) (vm₁ : Vm) (B : Pt), s.WarmedH vm₁ ∧ Stand p l e R s m args below meth c B.U B.locs B.cells B.slots ∧ PostX ⟨T.setVm vm₁, locs, cells, slots⟩ (Value.ref b :: argsL).toArray q B ∧
      Steps p.tables e below (T.setTop g) ((B.U.setTop { g with stack := rest }).pushFrame (.throwing q))) := by
  obtain ⟨mk, methM, hnamed, hmethM, hstM, habM⟩ := Cond.instanceMethod_spec hinst
  obtain ⟨methM', cM, hmethM', -, -, -, -, -, -, hsigM⟩ := Cond.code_spec hnamed hcode
  cases hmethM.symm.trans hmethM'
  obtain ⟨c2, r2, m2, q1, q2, q3, q4, kP, hkP, hkPi⟩ := Cond.selects_spec hsel
  cases hcls.symm.trans q1
  cases (State.methodFound?_of_named hnamed hy).symm.trans q2
  cases hnamed.symm.trans q3
  have hselP : selectMethod e.platform s.vm cellB.cls mk = .method mk := by rw [Launch.admits_selectMethod X.admits]; exact q4
  obtain ⟨vm₁, X₁, hstep₁⟩ := X.invokevirtual hexec hown hlink hnamed hmethM hstM hkP hkPi hy (a := b) (cell := cellB) hcell
    (fun z h => by rw [h] at hobj; cases hobj) hselP hmethM habM hkP hkPi (g := g) hg (argsL := argsL) (rest := rest) (hlen _ hsigM) hstack hdg
  rcases hK m meth c ⟨T.setVm vm₁, locs, cells, slots⟩ { g with stack := rest } (.invokevirtual index) mk (Value.ref b :: argsL).toArray X₁ hg hsize hdg hW (X₁.named hnamed) (hpre vm₁ X₁.warmed) with ⟨v, B, X', hpost, hsteps⟩ | ⟨q, B, X', hpost, hsteps⟩
  · exact Or.inl ⟨v, vm₁, B, X₁.warmed, X', hpost, fun target h => hstep₁ _ fun acts => by rw [doInvoke_state]; exact hsteps.trans h⟩
  · exact Or.inr ⟨q, vm₁, B, X₁.warmed, X', hpost, hstep₁ _ fun acts => by rw [doInvoke_state]; exact hsteps⟩
theorem vx_callS (X : Stand p l e R s m args below meth c T locs cells slots) (hexec : p.tables.exec = Jvm.exec) {own : String} {index : Nat} {y : MethodName} {bytes : ByteArray} {maxL : Nat} {ret : Option FieldType}
    (hown : s.vm.findClass own = some m.cls) (hlink : (Cond.methodLink own index y).before args s = true) (hstat : (Cond.static y).before args s = true) (hinit : (Cond.initialized y.cls).before args s = true)
    (hcode : (Cond.code y bytes maxL ret).before args s = true) (hy : y.cls ≠ "java/lang/invoke/MethodHandle" ∧ y.cls ≠ "java/lang/invoke/VarHandle")
    {W9 : Nat} {Pre : Pt → Array Value → Prop} {Post : Pt → Array Value → Option Value → Pt → Prop} {PostX : Pt → Array Value → Addr → Pt → Prop} (hK : vx_Back l R p e below s args y 3 W9 Pre Post PostX)
    {g : JFrame} (hg : g.method = m) (hsize : g.locals.size = c.maxLocals) {argsL rest : List Value} (hlen : ∀ sig, parseMethodDescriptor y.desc = some sig → argsL.length = sig.parameters.length)
    (hstack : g.stack = argsL.reverse ++ rest) (hW : 2 * g.monitorRoom + (rest.map fun v => v.category).sum ≤ W9) (hdg : decode c.code g.pc = .ok (.invokestatic index, 3))
    (hpre : ∀ vm₁, s.WarmedH vm₁ → Pre ⟨T.setVm vm₁, locs, cells, slots⟩ argsL.toArray) :
    (∃ (v : Option Value) (vm₁ : Vm) (B : Pt), s.WarmedH vm₁ ∧ Stand p l e R s m args below meth c B.U B.locs B.cells B.slots ∧ Post ⟨T.setVm vm₁, locs, cells, slots⟩ argsL.toArray v B ∧
      ∀ target, Steps p.tables e below (B.U.setTop { g with pc := g.pc + 3, stack := v.toList ++ rest }) target → Steps p.tables e below (T.setTop g) target) ∨
    (∃ (q : Addr) (vm₁ : Vm) (B : Pt), s.WarmedH vm₁ ∧ Stand p l e R s m args below meth c B.U B.locs B.cells B.slots ∧ PostX ⟨T.setVm vm₁, locs, cells, slots⟩ argsL.toArray q B ∧
      Steps p.tables e below (T.setTop g) ((B.U.setTop { g with stack := rest }).pushFrame (.throwing q))) := by
  obtain ⟨mk, hnamed⟩ := Cond.code_named hcode
  obtain ⟨methM, cM, hmethM, -, -, -, -, -, -, hsigM⟩ := Cond.code_spec hnamed hcode
  have hstatic : methM.isStatic = true := Cond.static_spec hnamed hmethM hstat
  obtain ⟨kP, hkP, -⟩ := className_of_methodNamed hnamed
  have hinitP : kP.init = .initialized := Cond.initialized_spec (findClass_of_methodNamed hnamed) hkP hinit
  obtain ⟨vm₁, X₁, hstep₁⟩ := X.invokestatic hexec hown hlink hnamed hmethM hstatic hkP hinitP hy (g := g) hg (argsL := argsL) (rest := rest) (hlen _ hsigM) hstack hdg
  rcases hK m meth c ⟨T.setVm vm₁, locs, cells, slots⟩ { g with stack := rest } (.invokestatic index) mk argsL.toArray X₁ hg hsize hdg hW (X₁.named hnamed) (hpre vm₁ X₁.warmed) with ⟨v, B, X', hpost, hsteps⟩ | ⟨q, B, X', hpost, hsteps⟩
  · exact Or.inl ⟨v, vm₁, B, X₁.warmed, X', hpost, fun target h => hstep₁ _ fun acts => by rw [doInvoke_state]; exact hsteps.trans h⟩
  · exact Or.inr ⟨q, vm₁, B, X₁.warmed, X', hpost, hstep₁ _ fun acts => by rw [doInvoke_state]; exact hsteps⟩
end Calls
theorem vx_cls {s : State} {T : State} {vm₁ : Vm} {E : String} {k : ClassId} (hW : s.WarmedH vm₁) (h : (T.setVm vm₁).vm.findClass E = some k) : s.vm.findClass E = some k := by
  have h1 : vm₁.findClass E = some k := h
  rw [hW.alike.findClass] at h1
  exact h1
/-- the method's frame g, with q thrown over it -/
def vx_W (p : Program) (l : Launch) (e : Env) (R : Room) (s : State) (m : MethodId) (args : Array Value) (below : List Frame) (meth : Method) (c : Code) (H : Heap) (locs : List Loc) (cells slots : Nat) (Q : State → Prop) (g : JFrame) (q : Addr) : Prop :=
  ∀ T : State, T.heap = H → Stand p l e R s m args below meth c T locs cells slots → ∃ t, Steps p.tables e below ((T.setTop g).pushFrame (.throwing q)) t ∧ Q t
def vx_Run (p : Program) (l : Launch) (e : Env) (R : Room) (s : State) (m : MethodId) (args : Array Value) (below : List Frame) (meth : Method) (c : Code) (H : Heap) (locs : List Loc) (cells slots mc ms : Nat) (g : JFrame) (rest : List Value) (Qa : State → Outcome → State → Prop) (XC : String → State → State → Prop) (free : Addr → Prop) : Prop :=
  ∀ T : State, T.heap = H → Stand p l e R s m args below meth c T locs cells slots →
    (∃ (v : Option Value) (st₀ t T' : State) (L : List Loc), st₀.heap = H ∧ Stand p l e R s m args below meth c T' (locs ++ L) (cells + mc) (slots + ms) ∧ (∀ q ∈ L, free q.base) ∧ T'.heap = t.heap ∧ T'.vm = t.vm ∧ Qa st₀ (.returned v) t ∧
      Goes p e below T g T' { g with pc := g.pc + 3, stack := v.toList ++ rest }) ∨
    (∃ (q : Addr) (st₀ t T' : State) (L : List Loc) (E : String) (ce : Cell), st₀.heap = H ∧ Stand p l e R s m args below meth c T' (locs ++ L) (cells + mc) (slots + ms) ∧ (∀ z ∈ L, free z.base) ∧ T'.heap = t.heap ∧ T'.vm = t.vm ∧ XC E st₀ t ∧ t.heap[q]? = some ce ∧ ce.vm = .none ∧ s.vm.findClass E = some ce.cls ∧
      Steps p.tables e below (T.setTop g) ((T'.setTop { g with stack := rest }).pushFrame (.throwing q)))
def vx_X {S : Type} (px : S → Prop) (B : String → S → State → Prop) (A : Nat → Prop) : String → State → State → Prop := fun E st t => ∃ u : S, px u ∧ B E u t ∧ va_F A st t
section Runs
variable {p : Program} {l : Launch} {e : Env} {R : Room} {s : State} {m : MethodId} {args : Array Value} {below : List Frame} {meth : Method} {c : Code} {H : Heap} {locs : List Loc} {cells slots : Nat}
variable {y : MethodName} {bytes cc : ByteArray} {maxL nL mc ms n index : Nat} {ret : Option FieldType} {ws : List Cond} {rm : Room} {Pc : Array Value → State → Prop} {Qc : Array Value → State → Outcome → State → Prop} {XC : String → State → State → Prop} {free : Addr → Prop} {Ts : List Cond} {own C : String} {b : Addr} {As rest : List Value} {g : JFrame}
theorem vx_callBack (cb : CallB R s args own index y bytes maxL ret ws rm mc ms n) (hM : vx_Met l y ws rm Pc Qc XC mc ms free) (hbl : FrameBlind Pc) : vx_Back l R p e below s args y 3 8 (PreOf R mc ms Pc) (PostOf Qc mc ms free) (vx_Post XC mc ms free) := by
  obtain ⟨hrc, hrs, hfr, hlo, hws, hcw, -, hini, -⟩ := cb
  exact vx_back (bytes := bytes) (maxL := maxL) (ret := ret) hM hbl hrc hrs hfr hlo hws hcw (fun a' U hW => word_at hW (Or.inl (by first | rfl | simp [Cond.onTables, Cond.keeps, Cond.steady])) hini)
theorem vx_runV (S : CallFix p m c cc nL s args Ts own) (hM : vx_Met l y ws rm Pc Qc XC mc ms free) (cw : CallW R s args own C index y bytes maxL ret ws rm mc ms n) (hp : PreV s H C b Pc As)
    (hg : g.method = m) (hn : As.length = n) (hsize : g.locals.size = nL) (hstack : g.stack = As.reverse ++ .ref b :: rest) (hW : 2 * g.monitorRoom + (rest.map fun v => v.category).sum ≤ 8) (hdg : decode cc g.pc = .ok (.invokevirtual index, 3)) (hf : cells + mc ≤ R.cells ∧ slots + ms ≤ R.slots) :
    vx_Run p l e R s m args below meth c H locs cells slots mc ms g rest (Qc (Value.ref b :: As).toArray) XC free := by
  have hK : vx_Back l R p e below s args y 3 8 (PreOf R mc ms Pc) (PostOf Qc mc ms free) (vx_Post XC mc ms free) := vx_callBack cw.1 hM hp.1
  obtain ⟨⟨-, -, -, -, -, -, hcode, -, hy, hlen, hl⟩, hin, hse⟩ := cw
  obtain ⟨hx, hb, hml, ho, -⟩ := S
  obtain ⟨-, ⟨cellB, hcB, hoB, hclB⟩, hPc⟩ := hp
  intro T hT X
  rcases vx_callV X hx (C := C) (bytes := bytes) (maxL := maxL) (ret := ret) ho hl hin hse hcode hy hK (by rw [hT]; exact hcB) hoB hclB hg (hsize.trans hml.symm) (argsL := As) (rest := rest) (fun sig h => hn.trans (hlen sig h)) hstack hW (by rw [hb]; exact hdg)
    (fun vm₁ hW₁ => ⟨hf.1, hf.2, hPc (T.setVm vm₁) hT hW₁⟩) with ⟨v, vm₁, ⟨U', l2, c2, s2⟩, hW₁, X', ⟨g', mk, t, L, e1, e2, hq, h1, hL, h2, h3⟩, st⟩ | ⟨q, vm₁, ⟨U', l2, c2, s2⟩, hW₁, X', ⟨g', mk, t, L, E, ce, e1, e2, hq, hce, hcv, hcl, h1, hL, h2, h3⟩, st⟩
  · dsimp only [Pt.U, Pt.locs, Pt.cells, Pt.slots] at X' e1 e2 h1 h2 h3 st
    subst h1; subst h2; subst h3
    exact Or.inl ⟨v, (T.setVm vm₁).calling g' mk (Value.ref b :: As).toArray, t, U', L, hT, X', hL, e1, e2, hq, st⟩
  · dsimp only [Pt.U, Pt.locs, Pt.cells, Pt.slots] at X' e1 e2 h1 h2 h3 st hcl
    subst h1; subst h2; subst h3
    exact Or.inr ⟨q, (T.setVm vm₁).calling g' mk (Value.ref b :: As).toArray, t, U', L, E, ce, hT, X', hL, e1, e2, hq, hce, hcv, vx_cls hW₁ hcl, st⟩
theorem vx_runS (S : CallFix p m c cc nL s args Ts own) (hM : vx_Met l y ws rm Pc Qc XC mc ms free) (cw : CallB R s args own index y bytes maxL ret ws rm mc ms n ∧ (Cond.static y).before args s = true) (hp : PreS s H Pc As)
    (hg : g.method = m) (hn : As.length = n) (hsize : g.locals.size = nL) (hstack : g.stack = As.reverse ++ rest) (hW : 2 * g.monitorRoom + (rest.map fun v => v.category).sum ≤ 8) (hdg : decode cc g.pc = .ok (.invokestatic index, 3)) (hf : cells + mc ≤ R.cells ∧ slots + ms ≤ R.slots) :
    vx_Run p l e R s m args below meth c H locs cells slots mc ms g rest (Qc As.toArray) XC free := by
  have hK : vx_Back l R p e below s args y 3 8 (PreOf R mc ms Pc) (PostOf Qc mc ms free) (vx_Post XC mc ms free) := vx_callBack cw.1 hM hp.1
  obtain ⟨⟨-, -, -, -, -, -, hcode, hini, hy, hlen, hl⟩, hstt⟩ := cw
  obtain ⟨hx, hb, hml, ho, -⟩ := S
  intro T hT X
  rcases vx_callS X hx (bytes := bytes) (maxL := maxL) (ret := ret) ho hl hstt hini hcode hy hK hg (hsize.trans hml.symm) (argsL := As) (rest := rest) (fun sig h => hn.trans (hlen sig h)) hstack hW (by rw [hb]; exact hdg)
    (fun vm₁ hW₁ => ⟨hf.1, hf.2, hp.2 (T.setVm vm₁) hT hW₁⟩) with ⟨v, vm₁, ⟨U', l2, c2, s2⟩, hW₁, X', ⟨g', mk, t, L, e1, e2, hq, h1, hL, h2, h3⟩, st⟩ | ⟨q, vm₁, ⟨U', l2, c2, s2⟩, hW₁, X', ⟨g', mk, t, L, E, ce, e1, e2, hq, hce, hcv, hcl, h1, hL, h2, h3⟩, st⟩
  · dsimp only [Pt.U, Pt.locs, Pt.cells, Pt.slots] at X' e1 e2 h1 h2 h3 st
    subst h1; subst h2; subst h3
    exact Or.inl ⟨v, (T.setVm vm₁).calling g' mk As.toArray, t, U', L, hT, X', hL, e1, e2, hq, st⟩
  · dsimp only [Pt.U, Pt.locs, Pt.cells, Pt.slots] at X' e1 e2 h1 h2 h3 st hcl
    subst h1; subst h2; subst h3
    exact Or.inr ⟨q, (T.setVm vm₁).calling g' mk As.toArray, t, U', L, E, ce, hT, X', hL, e1, e2, hq, hce, hcv, vx_cls hW₁ hcl, st⟩
end Runs
section Rows
variable {p : Program} {l : Launch} {e : Env} {R : Room} {s : State} {m : MethodId} {args : Array Value} {below : List Frame} {meth : Method} {c : Code} {H : Heap} {locs : List Loc} {cells slots : Nat} {Q : State → Prop}
variable {mc ms : Nat} {free : Addr → Prop} {A0 A1 : Nat → Prop} {H0 : Heap} {a : Array Value} {pc : Nat} {ls : Array Slot} {st0 rest : List Value}
theorem vx_keep {st₀ t T' : State} {L : List Loc} (h0 : st₀.heap = H) (e1 : T'.heap = t.heap) (hS : va_S A0 H0 H locs) (hA : ∀ q, q < H.size → A1 q → A0 q) (hf : ∀ q, free q → A0 q) (hL : ∀ q ∈ L, free q.base) (hF : va_F A1 st₀ t) :
    H.size ≤ T'.heap.size ∧ (∀ q : Nat, q < H.size → ¬ A1 q → T'.heap[q]? = H[q]?) ∧ va_S A0 H0 T'.heap (locs ++ L) := by
  obtain ⟨hz, hk⟩ := hF
  rw [h0] at hz hk
  exact ⟨by rw [e1]; exact hz, fun q h1 h2 => by rw [e1]; exact hk q h1 h2,
    ⟨Nat.le_trans hS.1 (by rw [e1]; exact hz), fun q h1 h2 => by rw [e1, hk q (Nat.lt_of_lt_of_le h1 hS.1) (fun z => h2 (hA q (Nat.lt_of_lt_of_le h1 hS.1) z))]; exact hS.2.1 q h1 h2, fun q hq => by
      rcases List.mem_append.mp hq with h | h
      · exact hS.2.2 q h
      · exact hf _ (hL q h)⟩⟩
theorem vx_calli {S SX : Type} {post : Int32 → S → Prop} {px : SX → Prop} {B : S → State → Prop} {BX : String → SX → State → Prop} {AX : Nat → Prop} (hr : vx_Run p l e R s m args below meth c H locs cells slots mc ms (F0 m pc ls st0) rest (va_Qi post B A1 a) (vx_X px BX AX) free) (hS : va_S A0 H0 H locs) (hA : ∀ q, q < H.size → A1 q → A0 q) (hf : ∀ q, free q → A0 q) (hAX : ∀ q, q < H.size → AX q → A0 q)
    (kx : ∀ (E : String) (ce : Cell) (q9 : Addr) (u : SX) (t : State) (H1 : Heap) (locs1 : List Loc), t.heap = H1 → s.vm.Alike t.vm → px u → BX E u t → H.size ≤ H1.size → (∀ q : Nat, q < H.size → ¬ AX q → H1[q]? = H[q]?) → va_S A0 H0 H1 locs1 → H1[q9]? = some ce → ce.vm = .none → s.vm.findClass E = some ce.cls → vx_W p l e R s m args below meth c H1 locs1 (cells + mc) (slots + ms) Q (F0 m pc ls rest) q9)
    (kk : ∀ (r : Int32) (u : S) (t : State) (H1 : Heap) (locs1 : List Loc), t.heap = H1 → s.vm.Alike t.vm → post r u → B u t → H.size ≤ H1.size → (∀ q : Nat, q < H.size → ¬ A1 q → H1[q]? = H[q]?) → va_S A0 H0 H1 locs1 → W p l e R s m args below meth c H1 locs1 (cells + mc) (slots + ms) Q (F0 m (pc + 3) ls (.int r :: rest))) : W p l e R s m args below meth c H locs cells slots Q (F0 m pc ls st0) := by
  intro T hT X
  rcases hr T hT X with ⟨v, st₀, t, T', L, h0, X', hL, e1, e2, ⟨⟨r, u, hv, hp, hb⟩, hF⟩, st⟩ | ⟨q, st₀, t, T', L, E, ce, h0, X', hL, e1, e2, ⟨u, hp, hb, hF⟩, hce, hcv, hcl, st⟩
  · cases hv
    obtain ⟨k1, k2, k3⟩ := vx_keep h0 e1 hS hA hf hL hF
    obtain ⟨t2, a1, b1⟩ := kk r u t T'.heap (locs ++ L) e1.symm (by rw [← e2]; exact X'.warmed.alike) hp hb k1 k2 k3 T' rfl X'
    exact ⟨t2, st t2 a1, b1⟩
  · obtain ⟨k1, k2, k3⟩ := vx_keep h0 e1 hS hAX hf hL hF
    obtain ⟨t2, a1, b1⟩ := kx E ce q u t T'.heap (locs ++ L) e1.symm (by rw [← e2]; exact X'.warmed.alike) hp hb k1 k2 k3 (by rw [e1]; exact hce) hcv hcl T' rfl X'
    exact ⟨t2, st.trans a1, b1⟩
theorem vx_calll {S SX : Type} {post : Int64 → S → Prop} {px : SX → Prop} {B : S → State → Prop} {BX : String → SX → State → Prop} {AX : Nat → Prop} (hr : vx_Run p l e R s m args below meth c H locs cells slots mc ms (F0 m pc ls st0) rest (va_Ql post B A1 a) (vx_X px BX AX) free) (hS : va_S A0 H0 H locs) (hA : ∀ q, q < H.size → A1 q → A0 q) (hf : ∀ q, free q → A0 q) (hAX : ∀ q, q < H.size → AX q → A0 q)
    (kx : ∀ (E : String) (ce : Cell) (q9 : Addr) (u : SX) (t : State) (H1 : Heap) (locs1 : List Loc), t.heap = H1 → s.vm.Alike t.vm → px u → BX E u t → H.size ≤ H1.size → (∀ q : Nat, q < H.size → ¬ AX q → H1[q]? = H[q]?) → va_S A0 H0 H1 locs1 → H1[q9]? = some ce → ce.vm = .none → s.vm.findClass E = some ce.cls → vx_W p l e R s m args below meth c H1 locs1 (cells + mc) (slots + ms) Q (F0 m pc ls rest) q9)
    (kk : ∀ (r : Int64) (u : S) (t : State) (H1 : Heap) (locs1 : List Loc), t.heap = H1 → s.vm.Alike t.vm → post r u → B u t → H.size ≤ H1.size → (∀ q : Nat, q < H.size → ¬ A1 q → H1[q]? = H[q]?) → va_S A0 H0 H1 locs1 → W p l e R s m args below meth c H1 locs1 (cells + mc) (slots + ms) Q (F0 m (pc + 3) ls (.long r :: rest))) : W p l e R s m args below meth c H locs cells slots Q (F0 m pc ls st0) := by
  intro T hT X
  rcases hr T hT X with ⟨v, st₀, t, T', L, h0, X', hL, e1, e2, ⟨⟨r, u, hv, hp, hb⟩, hF⟩, st⟩ | ⟨q, st₀, t, T', L, E, ce, h0, X', hL, e1, e2, ⟨u, hp, hb, hF⟩, hce, hcv, hcl, st⟩
  · cases hv
    obtain ⟨k1, k2, k3⟩ := vx_keep h0 e1 hS hA hf hL hF
    obtain ⟨t2, a1, b1⟩ := kk r u t T'.heap (locs ++ L) e1.symm (by rw [← e2]; exact X'.warmed.alike) hp hb k1 k2 k3 T' rfl X'
    exact ⟨t2, st t2 a1, b1⟩
  · obtain ⟨k1, k2, k3⟩ := vx_keep h0 e1 hS hAX hf hL hF
    obtain ⟨t2, a1, b1⟩ := kx E ce q u t T'.heap (locs ++ L) e1.symm (by rw [← e2]; exact X'.warmed.alike) hp hb k1 k2 k3 (by rw [e1]; exact hce) hcv hcl T' rfl X'
    exact ⟨t2, st.trans a1, b1⟩
theorem vx_callf {S SX : Type} {post : UInt32 → S → Prop} {px : SX → Prop} {B : S → State → Prop} {BX : String → SX → State → Prop} {AX : Nat → Prop} (hr : vx_Run p l e R s m args below meth c H locs cells slots mc ms (F0 m pc ls st0) rest (va_Qf post B A1 a) (vx_X px BX AX) free) (hS : va_S A0 H0 H locs) (hA : ∀ q, q < H.size → A1 q → A0 q) (hf : ∀ q, free q → A0 q) (hAX : ∀ q, q < H.size → AX q → A0 q)
    (kx : ∀ (E : String) (ce : Cell) (q9 : Addr) (u : SX) (t : State) (H1 : Heap) (locs1 : List Loc), t.heap = H1 → s.vm.Alike t.vm → px u → BX E u t → H.size ≤ H1.size → (∀ q : Nat, q < H.size → ¬ AX q → H1[q]? = H[q]?) → va_S A0 H0 H1 locs1 → H1[q9]? = some ce → ce.vm = .none → s.vm.findClass E = some ce.cls → vx_W p l e R s m args below meth c H1 locs1 (cells + mc) (slots + ms) Q (F0 m pc ls rest) q9)
    (kk : ∀ (r : UInt32) (u : S) (t : State) (H1 : Heap) (locs1 : List Loc), t.heap = H1 → s.vm.Alike t.vm → post r u → B u t → H.size ≤ H1.size → (∀ q : Nat, q < H.size → ¬ A1 q → H1[q]? = H[q]?) → va_S A0 H0 H1 locs1 → W p l e R s m args below meth c H1 locs1 (cells + mc) (slots + ms) Q (F0 m (pc + 3) ls (.float r :: rest))) : W p l e R s m args below meth c H locs cells slots Q (F0 m pc ls st0) := by
  intro T hT X
  rcases hr T hT X with ⟨v, st₀, t, T', L, h0, X', hL, e1, e2, ⟨⟨r, u, hv, hp, hb⟩, hF⟩, st⟩ | ⟨q, st₀, t, T', L, E, ce, h0, X', hL, e1, e2, ⟨u, hp, hb, hF⟩, hce, hcv, hcl, st⟩
  · cases hv
    obtain ⟨k1, k2, k3⟩ := vx_keep h0 e1 hS hA hf hL hF
    obtain ⟨t2, a1, b1⟩ := kk r u t T'.heap (locs ++ L) e1.symm (by rw [← e2]; exact X'.warmed.alike) hp hb k1 k2 k3 T' rfl X'
    exact ⟨t2, st t2 a1, b1⟩
  · obtain ⟨k1, k2, k3⟩ := vx_keep h0 e1 hS hAX hf hL hF
    obtain ⟨t2, a1, b1⟩ := kx E ce q u t T'.heap (locs ++ L) e1.symm (by rw [← e2]; exact X'.warmed.alike) hp hb k1 k2 k3 (by rw [e1]; exact hce) hcv hcl T' rfl X'
    exact ⟨t2, st.trans a1, b1⟩
theorem vx_calld {S SX : Type} {post : UInt64 → S → Prop} {px : SX → Prop} {B : S → State → Prop} {BX : String → SX → State → Prop} {AX : Nat → Prop} (hr : vx_Run p l e R s m args below meth c H locs cells slots mc ms (F0 m pc ls st0) rest (va_Qd post B A1 a) (vx_X px BX AX) free) (hS : va_S A0 H0 H locs) (hA : ∀ q, q < H.size → A1 q → A0 q) (hf : ∀ q, free q → A0 q) (hAX : ∀ q, q < H.size → AX q → A0 q)
    (kx : ∀ (E : String) (ce : Cell) (q9 : Addr) (u : SX) (t : State) (H1 : Heap) (locs1 : List Loc), t.heap = H1 → s.vm.Alike t.vm → px u → BX E u t → H.size ≤ H1.size → (∀ q : Nat, q < H.size → ¬ AX q → H1[q]? = H[q]?) → va_S A0 H0 H1 locs1 → H1[q9]? = some ce → ce.vm = .none → s.vm.findClass E = some ce.cls → vx_W p l e R s m args below meth c H1 locs1 (cells + mc) (slots + ms) Q (F0 m pc ls rest) q9)
    (kk : ∀ (r : UInt64) (u : S) (t : State) (H1 : Heap) (locs1 : List Loc), t.heap = H1 → s.vm.Alike t.vm → post r u → B u t → H.size ≤ H1.size → (∀ q : Nat, q < H.size → ¬ A1 q → H1[q]? = H[q]?) → va_S A0 H0 H1 locs1 → W p l e R s m args below meth c H1 locs1 (cells + mc) (slots + ms) Q (F0 m (pc + 3) ls (.double r :: rest))) : W p l e R s m args below meth c H locs cells slots Q (F0 m pc ls st0) := by
  intro T hT X
  rcases hr T hT X with ⟨v, st₀, t, T', L, h0, X', hL, e1, e2, ⟨⟨r, u, hv, hp, hb⟩, hF⟩, st⟩ | ⟨q, st₀, t, T', L, E, ce, h0, X', hL, e1, e2, ⟨u, hp, hb, hF⟩, hce, hcv, hcl, st⟩
  · cases hv
    obtain ⟨k1, k2, k3⟩ := vx_keep h0 e1 hS hA hf hL hF
    obtain ⟨t2, a1, b1⟩ := kk r u t T'.heap (locs ++ L) e1.symm (by rw [← e2]; exact X'.warmed.alike) hp hb k1 k2 k3 T' rfl X'
    exact ⟨t2, st t2 a1, b1⟩
  · obtain ⟨k1, k2, k3⟩ := vx_keep h0 e1 hS hAX hf hL hF
    obtain ⟨t2, a1, b1⟩ := kx E ce q u t T'.heap (locs ++ L) e1.symm (by rw [← e2]; exact X'.warmed.alike) hp hb k1 k2 k3 (by rw [e1]; exact hce) hcv hcl T' rfl X'
    exact ⟨t2, st.trans a1, b1⟩
theorem vx_callv {S SX : Type} {post : S → Prop} {px : SX → Prop} {B : S → State → Prop} {BX : String → SX → State → Prop} {AX : Nat → Prop} (hr : vx_Run p l e R s m args below meth c H locs cells slots mc ms (F0 m pc ls st0) rest (va_Qv post B A1 a) (vx_X px BX AX) free) (hS : va_S A0 H0 H locs) (hA : ∀ q, q < H.size → A1 q → A0 q) (hf : ∀ q, free q → A0 q) (hAX : ∀ q, q < H.size → AX q → A0 q)
    (kx : ∀ (E : String) (ce : Cell) (q9 : Addr) (u : SX) (t : State) (H1 : Heap) (locs1 : List Loc), t.heap = H1 → s.vm.Alike t.vm → px u → BX E u t → H.size ≤ H1.size → (∀ q : Nat, q < H.size → ¬ AX q → H1[q]? = H[q]?) → va_S A0 H0 H1 locs1 → H1[q9]? = some ce → ce.vm = .none → s.vm.findClass E = some ce.cls → vx_W p l e R s m args below meth c H1 locs1 (cells + mc) (slots + ms) Q (F0 m pc ls rest) q9)
    (kk : ∀ (u : S) (t : State) (H1 : Heap) (locs1 : List Loc), t.heap = H1 → s.vm.Alike t.vm → post u → B u t → H.size ≤ H1.size → (∀ q : Nat, q < H.size → ¬ A1 q → H1[q]? = H[q]?) → va_S A0 H0 H1 locs1 → W p l e R s m args below meth c H1 locs1 (cells + mc) (slots + ms) Q (F0 m (pc + 3) ls (rest))) : W p l e R s m args below meth c H locs cells slots Q (F0 m pc ls st0) := by
  intro T hT X
  rcases hr T hT X with ⟨v, st₀, t, T', L, h0, X', hL, e1, e2, ⟨⟨u, hv, hp, hb⟩, hF⟩, st⟩ | ⟨q, st₀, t, T', L, E, ce, h0, X', hL, e1, e2, ⟨u, hp, hb, hF⟩, hce, hcv, hcl, st⟩
  · cases hv
    obtain ⟨k1, k2, k3⟩ := vx_keep h0 e1 hS hA hf hL hF
    obtain ⟨t2, a1, b1⟩ := kk u t T'.heap (locs ++ L) e1.symm (by rw [← e2]; exact X'.warmed.alike) hp hb k1 k2 k3 T' rfl X'
    exact ⟨t2, st t2 a1, b1⟩
  · obtain ⟨k1, k2, k3⟩ := vx_keep h0 e1 hS hAX hf hL hF
    obtain ⟨t2, a1, b1⟩ := kx E ce q u t T'.heap (locs ++ L) e1.symm (by rw [← e2]; exact X'.warmed.alike) hp hb k1 k2 k3 (by rw [e1]; exact hce) hcv hcl T' rfl X'
    exact ⟨t2, st.trans a1, b1⟩
/-- caught by the row x of this method's table; the rows ahead don't take it -/
theorem vx_catch {own name : String} {E : String} {ce : Cell} {q : Addr} (hown : s.vm.findClass own = some m.cls) (pre : List ExceptionTableEntry) (x : ExceptionTableEntry) (suf : List ExceptionTableEntry) (hsplit : c.exceptionTable.toList = pre ++ x :: suf)
    (hpass : ∀ z ∈ pre, covers z pc = false ∨ (z.catchType ≠ 0 ∧ ∃ nm : String, (Cond.classLink own z.catchType nm).before args s = true ∧ va_Nc E nm s)) (hx : covers x pc = true) (h0 : x.catchType ≠ 0)
    (hlink : (Cond.classLink own x.catchType name).before args s = true) (hcast : (Cond.castable E name).before args s = true) (hcell : H[q]? = some ce) (hv : ce.vm = .none) (hcl : s.vm.findClass E = some ce.cls)
    (kk : W p l e R s m args below meth c H locs cells slots Q (F0 m x.handlerPc ls [.ref q])) : vx_W p l e R s m args below meth c H locs cells slots Q (F0 m pc ls rest) q := by
  intro T hT X
  have hpl : e.platform.magicAccessors = ({} : Platform).magicAccessors := by rw [X.admits.platform]
  obtain ⟨c3, c4, hc3, hc4, hasg⟩ := Cond.castable_spec hcast
  cases Option.some.inj (hc3.symm.trans hcl)
  obtain ⟨c5, hc5, hcl5⟩ := Cond.classLink_spec hown hlink e.platform hpl
  cases Option.some.inj (hc4.symm.trans hc5)
  obtain ⟨vm', X', st⟩ := X.thenCaughtThrough q (g := F0 m pc ls rest) rfl (Steps.refl _) (by rw [hT]; exact hcell) (by rw [hv]; rfl) (by obtain ⟨k9, h9, -⟩ := Vm.findClass_spec hcl; exact ⟨k9, h9⟩) pre x suf hsplit
    (fun z hz => by
      rcases hpass z hz with h | ⟨hz0, nm, hl1, hn1⟩
      · exact Or.inl h
      · obtain ⟨c6, hc6, hcl6⟩ := Cond.classLink_spec hown hl1 e.platform hpl
        obtain ⟨a8, b8, h1, h2, h3⟩ := hn1
        cases Option.some.inj (h1.symm.trans hcl)
        cases Option.some.inj (h2.symm.trans hc6)
        exact Or.inr ⟨hz0, _, hcl6, h3⟩) hx (Or.inr ⟨h0, c4, hcl5, hasg⟩)
  obtain ⟨t, a1, b1⟩ := kk (T.setVm vm') hT X'
  exact ⟨t, st.trans a1, b1⟩
end Rows
section Ends
variable {p : Program} {l : Launch} {e : Env} {R : Room} {s : State} {m : MethodId} {args : Array Value} {below : List Frame} {meth : Method} {c : Code} {H : Heap} {locs : List Loc} {cells slots : Nat} {Q : State → Prop}
variable {mc ms : Nat} {free : Addr → Prop} {A0 A1 : Nat → Prop} {H0 : Heap} {a : Array Value} {ls : Array Slot} {st0 rest : List Value}
variable {Qc : Array Value → State → Outcome → State → Prop} {XC : String → State → State → Prop}
/-- what a body that may throw owes at its end -/
def vx_MQ (below : List Frame) (Qc : Array Value → State → Outcome → State → Prop) (XC : String → State → State → Prop) (a : Array Value) (s : State) (mc ms : Nat) (free : Addr → Prop) : State → Prop := fun t =>
  ∃ o, t.status = .running ∧ Ended t below o ∧ vx_Q Qc XC mc ms free a s o t
theorem vx_ret {g : JFrame} {mc ms : Nat} (k : W p l e R s m args below meth c H locs cells slots (MQ below Qc args s mc ms free) g) : W p l e R s m args below meth c H locs cells slots (vx_MQ below Qc XC args s mc ms free) g := by
  intro T hT X
  obtain ⟨t, a1, o, b1, b2, b3, b4⟩ := k T hT X
  exact ⟨t, a1, o, b1, b2, Or.inl ⟨b3, b4⟩⟩
/-- not caught here: it goes on to the caller -/
theorem vx_widen {g : JFrame} {q : Addr} {k n : Nat} (h1 : cells ≤ k) (h2 : slots ≤ n) (kk : vx_W p l e R s m args below meth c H locs k n Q g q) : vx_W p l e R s m args below meth c H locs cells slots Q g q := fun T hT X => kk T hT (stand_widen X h1 h2)
theorem vx_out {pc : Nat} {E : String} {ce : Cell} {q : Addr} {mc ms : Nat} (hout : ∀ x ∈ c.exceptionTable.toList, covers x pc = false) (hlocks : meth.locks = false) (hcell : H[q]? = some ce) (hv : ce.vm = .none) (hcl : s.vm.findClass E = some ce.cls)
    (hx : ∀ t : State, t.heap = H → s.vm.Alike t.vm → XC E s t) (hf : ∀ z ∈ locs, free z.base) (hc : cells ≤ mc) (hs : slots ≤ ms) :
    vx_W p l e R s m args below meth c H locs cells slots (vx_MQ below Qc XC args s mc ms free) (F0 m pc ls rest) q := by
  intro T hT X
  obtain ⟨st1, hrun, hend, hW, hsm⟩ := X.leaveThrown q (g := F0 m pc ls rest) rfl rfl rfl hout hlocks
  have hcell9 : (T.setFrames (.throwing q :: below)).heap[q]? = some ce := by
    show T.heap[q]? = some ce
    rw [hT]; exact hcell
  exact ⟨_, st1, .threw q, hrun, hend, Or.inr ⟨q, rfl, E, ce, locs, hx _ hT hW.alike, hcell9, hv, hcl, hW, hsm.mono hc hs, hf⟩⟩
theorem vx_frame {U : State} {k n : Nat} (h : s.sameButNew ({ U with vm := s.vm } : State) locs k n) : s.heap.size ≤ U.heap.size ∧ ∀ q : Nat, q < s.heap.size → (∀ z ∈ locs, z.base ≠ q) → U.heap[q]? = s.heap[q]? := by
  obtain ⟨-, h2, -, -, -, h6⟩ := h
  refine ⟨h2, fun q hq hz => ?_⟩
  obtain ⟨c9, e1, e2, e3, e4⟩ := h6 q _ (Array.getElem?_eq_getElem hq)
  have hs : c9.slots = (s.heap[q]).slots := Array.ext_getElem? fun i => e4 i fun hm => hz _ hm rfl
  have h9 : c9 = s.heap[q] := by
    rw [hs] at e2
    exact e2
  have e5 : U.heap[q]? = some c9 := e1
  rw [e5, h9, Array.getElem?_eq_getElem hq]
/-- the words of a throw but the four that speak of the heap -/
def vx_no (w : Cond) : Bool := decide (w ≠ .isRef (.static Bundle.tN "UNASSIGNED_STACK" Bundle.steD)) && decide (w ≠ .isRef (.static Bundle.tN "SUPPRESSED_SENTINEL" Bundle.listD)) && decide (w ≠ .laysStatic Bundle.tN "UNASSIGNED_STACK" Bundle.steD) && decide (w ≠ .laysStatic Bundle.tN "SUPPRESSED_SENTINEL" Bundle.listD)
def vx_at0 (own : String) (ic : Nat) (X : String) (names : List String) : List Cond := (Bundle.ownAtoms0 own ic X names).filter vx_no
def vx_atS (own : String) (ic : Nat) (X : String) (names : List String) : List Cond := (Bundle.ownAtoms own ic X names).filter vx_no
/-- a word that the tables alone decide, or a good one -/
def vx_ot (w : Cond) : Bool := w.onTables || goodWord w
theorem vx_ot_at {args a' : Array Value} {s U : State} {w : Cond} (hW : s.WarmedH U.vm) (hvm : s.vm = U.vm) (hg : vx_ot w = true) (h : w.before args s = true) : w.before a' U = true := by
  simp only [vx_ot, Bool.or_eq_true] at hg
  rcases hg with hg | hg
  · exact va_tabs hg hvm h
  · exact word_at hW (good_of_word hg) h
/-- a list's words: the good ones out of the method's own list, the others by premises of their own -/
theorem vx_hat {args : Array Value} {s : State} {L B : List Cond} (h1 : ∀ w ∈ L.filter goodWord, w.before args s = true) (h2 : ∀ w ∈ L.filter (fun w => !goodWord w), w ∈ B) (h3 : ∀ w ∈ B, w.before args s = true) : ∀ w ∈ L, w.before args s = true := by
  intro w hw
  by_cases g : goodWord w = true
  · exact h1 w (List.mem_filter.mpr ⟨hw, g⟩)
  · refine h3 w (h2 w (List.mem_filter.mpr ⟨hw, ?_⟩))
    show (!goodWord w) = true
    cases hgw : goodWord w
    · rfl
    · exact absurd hgw g
theorem vx_c {args : Array Value} {s : State} {w : Cond} {B : List Cond} (h : w.before args s = true) (t : ∀ w ∈ B, w.before args s = true) : ∀ w' ∈ w :: B, w'.before args s = true := fun w' h' => (List.mem_cons.mp h').elim (fun e => by rw [e]; exact h) (t w')
theorem vx_n {args : Array Value} {s : State} : ∀ w ∈ ([] : List Cond), w.before args s = true := fun _ h => nomatch h
theorem vx_own {args : Array Value} {s : State} {L : List Cond} (h1 : ∀ w ∈ L.filter vx_no, w.before args s = true)
    (hU : (Cond.isRef (.static Bundle.tN "UNASSIGNED_STACK" Bundle.steD)).before args s = true) (hN : (Cond.isRef (.static Bundle.tN "SUPPRESSED_SENTINEL" Bundle.listD)).before args s = true)
    (lU : (Cond.laysStatic Bundle.tN "UNASSIGNED_STACK" Bundle.steD).before args s = true) (lN : (Cond.laysStatic Bundle.tN "SUPPRESSED_SENTINEL" Bundle.listD).before args s = true) : ∀ w ∈ L, w.before args s = true := by
  intro w hw
  by_cases e1 : w = .isRef (.static Bundle.tN "UNASSIGNED_STACK" Bundle.steD)
  · rw [e1]; exact hU
  · by_cases e2 : w = .isRef (.static Bundle.tN "SUPPRESSED_SENTINEL" Bundle.listD)
    · rw [e2]; exact hN
    · by_cases e3 : w = .laysStatic Bundle.tN "UNASSIGNED_STACK" Bundle.steD
      · rw [e3]; exact lU
      · by_cases e4 : w = .laysStatic Bundle.tN "SUPPRESSED_SENTINEL" Bundle.listD
        · rw [e4]; exact lN
        · exact h1 w (List.mem_filter.mpr ⟨hw, by unfold vx_no; rw [decide_eq_true e1, decide_eq_true e2, decide_eq_true e3, decide_eq_true e4]; rfl⟩)
/-- where a static field lies, its class's statics cell in H -/
def vx_L (C n d : String) (A : Nat → Prop) (U : State) (H : Heap) : Prop := ∃ (c : ClassId) (k : Class) (i : Nat) (f : Field) (a : Nat) (cell : Cell), U.vm.findClass C = some c ∧ U.fieldFound? C n d = some (c, k, i, f) ∧ f.isStatic = true ∧ k.statics = some a ∧ H[a]? = some cell ∧ cell.vm.isStatics = true ∧ cell.cls = c ∧ f.slot < cell.slots.size ∧ k.staticTypes[f.slot]? = some f.type ∧ ¬ A a
theorem vx_L.moved {C n d : String} {A : Nat → Prop} {u U : State} {H : Heap} (hvm : u.vm.Alike U.vm) (h : vx_L C n d A u H) : vx_L C n d A U H := by
  obtain ⟨c, k, i, f, a, cell, h1, h2, h3, h4, h5, h6, h7, h8, h9, h10⟩ := h
  obtain ⟨k', hi', he⟩ := State.fieldFound?_setVm hvm h2
  exact ⟨c, k', i, f, a, cell, by rw [hvm.findClass]; exact h1, hi', h3, by rw [he]; exact h4, h5, h6, h7, h8, by rw [he]; exact h9, h10⟩
theorem vx_L.kept {C n d : String} {A : Nat → Prop} {U : State} {H H1 : Heap} (h : vx_L C n d A U H) (hq : ∀ a : Nat, a < H.size → ¬ A a → H1[a]? = H[a]?) : vx_L C n d A U H1 := by
  obtain ⟨c, k, i, f, a, cell, h1, h2, h3, h4, h5, h6, h7, h8, h9, h10⟩ := h
  exact ⟨c, k, i, f, a, cell, h1, h2, h3, h4, by rw [hq a (Array.getElem?_eq_some_iff.mp h5).1 h10]; exact h5, h6, h7, h8, h9, h10⟩
theorem vx_L.narrow {C n d : String} {A B : Nat → Prop} {U : State} {H : Heap} (h : vx_L C n d A U H) (hAB : ∀ q, B q → A q) : vx_L C n d B U H := by
  obtain ⟨c, k, i, f, a, cell, h1, h2, h3, h4, h5, h6, h7, h8, h9, h10⟩ := h
  exact ⟨c, k, i, f, a, cell, h1, h2, h3, h4, h5, h6, h7, h8, h9, fun z => h10 (hAB _ z)⟩
theorem vx_L.word {C n d : String} {A : Nat → Prop} {s : State} {args : Array Value} (h : vx_L C n d A s s.heap) : (Cond.laysStatic C n d).before args s = true := by
  obtain ⟨c, k, i, f, a, cell, h1, h2, h3, h4, h5, h6, h7, h8, h9, -⟩ := h
  show (Cond.laysStatic C n d).holds args s none s [] = true
  exact Cond.laysStatic_of h1 h2 h3 h4 h5 h6 h7 h8 h9
/-- .. and what it holds: null or some reference -/
def vx_Zq (C n d : String) (A : Nat → Prop) (U : State) (H : Heap) : Prop := va_Zq C n d A U H ∧ vx_L C n d A U H
theorem vx_Zq.moved {C n d : String} {A : Nat → Prop} {u U : State} {H : Heap} (hvm : u.vm.Alike U.vm) (h : vx_Zq C n d A u H) : vx_Zq C n d A U H := ⟨va_Zq.moved hvm h.1, vx_L.moved hvm h.2⟩
theorem vx_Zq.kept {C n d : String} {A : Nat → Prop} {U : State} {H H1 : Heap} (h : vx_Zq C n d A U H) (hq : ∀ a : Nat, a < H.size → ¬ A a → H1[a]? = H[a]?) : vx_Zq C n d A U H1 := ⟨va_Zq.kept h.1 hq, vx_L.kept h.2 hq⟩
theorem vx_Zq.narrow {C n d : String} {A B : Nat → Prop} {U : State} {H : Heap} (h : vx_Zq C n d A U H) (hAB : ∀ q, B q → A q) : vx_Zq C n d B U H := ⟨va_Zq.narrow h.1 hAB, vx_L.narrow h.2 hAB⟩
theorem vx_Zqof {args : Array Value} {s : State} {C n d : String} {A : Nat → Prop} (hl : (Cond.laysStatic C n d).before args s = true) (hini : (Cond.initialized C).before args s = true) (h : (Cond.isRef (.static C n d)).before args s = true) (hA : ∀ a : Nat, a < s.heap.size → ¬ A a) : vx_Zq C n d A s s.heap := by
  refine ⟨va_Zqof hl hini h hA, ?_⟩
  obtain ⟨c, k, i, f, a, cell, h1, h2, h3, h4, h5, h6, h7, h8, h9⟩ := Cond.laysStatic_spec hl
  exact ⟨c, k, i, f, a, cell, h1, h2, h3, h4, h5, h6, h7, h8, h9, hA a (Array.getElem?_eq_some_iff.mp h5).1⟩
theorem vx_isRef {C n d : String} {v : Value} {A : Nat → Prop} {s : State} {args : Array Value} (h : va_Z C n d v A s s.heap) (hv : v.isRef = true) : (Cond.isRef (.static C n d)).before args s = true := by
  obtain ⟨cf, kf, fi, f, a, cell, h1, h2, h3, h4, h5, h6, h7, -⟩ := h
  have he : (Term.static C n d).eval args s none [] s = some v := by
    simp [Term.eval, State.fieldNamed?, h1, h2, h4, h5, h6, h7]
  simp only [Cond.before, Cond.holds, Cond.value, he]
  cases v <;> simp_all [Value.isRef]
theorem vx_isRefq {C n d : String} {A : Nat → Prop} {s : State} {args : Array Value} (h : va_Zq C n d A s s.heap) : (Cond.isRef (.static C n d)).before args s = true := by
  rcases h with h | ⟨t, h⟩
  · exact vx_isRef h rfl
  · exact vx_isRef h rfl
/-- the same frame, seen from here: as if the method were called anew in this heap -/
theorem vx_rebase {T : State} (X : Stand p l e R s m args below meth c T locs cells slots) {R' : Room} (hf : R'.frames ≤ R.frames) (hl : R'.locals ≤ R.locals) (hc : cells + R'.cells ≤ R.cells) (hs : slots + R'.slots ≤ R.slots) :
    Stand p l e R' ((T.setVm s.vm).setFrames (.invoking m args :: below)) m args below meth c T [] 0 0 := by
  have htop : (T.setVm s.vm).topJava?.isSome := X.here.top
  have hF : ((T.setVm s.vm).setFrames (.invoking m args :: below)).frames = .invoking m args :: below := State.frames_setFrames _ (State.cur_lt_of_top htop)
  obtain ⟨g₀, hg0⟩ := Option.isSome_iff_exists.mp htop
  obtain ⟨r, hr⟩ := State.topJava?_eq_some.mp hg0
  have hl9 : e.platform.stackLimits (T.setVm s.vm).me = e.platform.stackLimits s.me := X.limits
  have hb9 : (T.setVm s.vm).me.stackBytes = s.me.stackBytes := X.bytes
  refine ⟨X.admits, X.cas, X.clock, hF, ?_, X.hears, X.method, X.code, X.here, X.tail, X.warmed, ?_, ?_, ?_⟩
  · have h := X.room
    have hU : ((T.setVm s.vm).setFrames (.invoking m args :: below)).localsInUse = s.localsInUse := by
      rw [State.localsInUse_invoking hF (meth := meth) (c := c) X.method X.code, State.localsInUse_invoking X.frames X.method X.code]
    simp only [State.hasRoom, Bool.and_eq_true, decide_eq_true_eq] at h ⊢
    obtain ⟨⟨⟨⟨h1, h2, h3, h4, h5, h6⟩, h7⟩, h8⟩, h9⟩ := h
    rw [X.frames, List.length_cons] at h2 h3
    have q1 := X.heapSize
    have q2 := X.used
    simp only [hF, hU, List.length_cons, State.stackLimits_setFrames, State.stackBytes_setFrames, hl9, hb9]
    refine ⟨⟨⟨⟨by omega, by omega, by omega, by omega, by omega, h6⟩, ?_⟩, ?_⟩, X.book⟩
    · show T.heap.size + R'.cells ≤ e.platform.maxCells
      omega
    · show T.slotsUsed + R'.slots ≤ e.platform.maxSlots
      omega
  · rw [State.stackLimits_setFrames]; rfl
  · rw [State.stackBytes_setFrames]; rfl
  · refine ⟨?_, Nat.le_refl _, Nat.le_refl _, ?_, ?_, fun a c9 h9 => ⟨c9, h9, rfl, rfl, fun _ _ => rfl⟩⟩
    · obtain ⟨t, ht, -⟩ := State.frames_cons hr
      show T.setVm s.vm = { ((T.setVm s.vm).setFrames (.invoking m args :: below)).setFrames (T.setVm s.vm).frames with heap := T.heap, slotsUsed := T.slotsUsed }
      rw [State.setFrames_setFrames, State.setFrames_self ht]
      rfl
    · show T.slotsUsed = T.slotsUsed + ((T.heap.toList.drop T.heap.size).map (·.slots.size)).sum
      rw [List.drop_eq_nil_of_le (Nat.le_of_eq Array.length_toList)]
      rfl
    · show ((T.heap.toList.drop T.heap.size).map (·.slots.size)).sum ≤ 0
      rw [List.drop_eq_nil_of_le (Nat.le_of_eq Array.length_toList)]
      exact Nat.le_refl _
/-- 'throw new E()': new; dup; invokespecial; athrow -/
theorem vx_throw0 {cc : ByteArray} {pc : Nat} (hexec : p.tables.exec = Jvm.exec) (hb : c.code = cc) (hl : l.stackTraces = false) {own cls : String} {names : List String} {ik ic mc ms : Nat} {A : Nat → Prop}
    (hown : s.vm.findClass own = some m.cls) (hcls : Bundle.fit cls = true) (hnames : ∀ n ∈ names, Bundle.fit n = true)
    (hk : (Cond.classLink own ik cls).before args s = true) (hini : (Cond.initialized cls).before args s = true) (hat : ∀ w ∈ vx_at0 own ic cls names, w.before args s = true)
    (hgood : ∀ w ∈ Cond.classLink own ik cls :: Cond.initialized cls :: vx_at0 own ic cls names, vx_ot w = true)
    (hU : vx_Zq Bundle.tN "UNASSIGNED_STACK" Bundle.steD A s s.heap) (hN : vx_Zq Bundle.tN "SUPPRESSED_SENTINEL" Bundle.listD A s s.heap) (hS : va_S A s.heap H locs) (hsize : ls.size = c.maxLocals)
    (d0 : decode cc pc = .ok (.new ik, 3)) (d3 : decode cc (pc + 3) = .ok (.dup, 1)) (d4 : decode cc (pc + 4) = .ok (.invokespecial ic, 3)) (d7 : decode cc (pc + 7) = .ok (.athrow, 1))
    (hout : ∀ x ∈ c.exceptionTable.toList, covers x (pc + 7) = false)
    (hRframes : names.length + 3 < R.frames) (hRlocals : (rest.map fun v => v.category).sum + (13 * (names.length + 1) + 42) ≤ R.locals) (hRcells : cells + 1 ≤ R.cells) (hRslots : slots + 6 ≤ R.slots) (hlocks : meth.locks = false)
    (hx : ∀ t : State, s.vm.Alike t.vm → H.size ≤ t.heap.size → (∀ q : Nat, q < H.size → t.heap[q]? = H[q]?) → XC cls s t)
    (hf : ∀ z ∈ locs, free z.base) (hc : cells + 1 ≤ mc) (hs : slots + 6 ≤ ms) :
    W p l e R s m args below meth c H locs cells slots (vx_MQ below Qc XC args s mc ms free) (F0 m pc ls rest) := by
  intro T hT X
  have htr : e.platform.stackTraces = false := (show e.platform.stackTraces = l.stackTraces by rw [X.admits.platform]).trans hl
  have Y := vx_rebase X (R' := { frames := R.frames, locals := R.locals, cells := 1, slots := 6 }) (Nat.le_refl _) (Nat.le_refl _) hRcells hRslots
  obtain ⟨s', hA⟩ : ∃ z, z = (T.setVm s.vm).setFrames (.invoking m args :: below) := ⟨_, rfl⟩
  rw [← hA] at Y
  have hvm : s'.vm = s.vm := by rw [hA]; rfl
  have hhp : s'.heap = H := by rw [hA]; exact hT
  have hW0 : s.WarmedH s'.vm := by rw [hvm]; exact State.WarmedH.refl s
  have hat' : ∀ w ∈ vx_at0 own ic cls names, w.before args s' = true := fun w hw => vx_ot_at hW0 hvm.symm (hgood w (List.mem_cons_of_mem _ (List.mem_cons_of_mem _ hw))) (hat w hw)
  have hk' : (Cond.classLink own ik cls).before args s' = true := vx_ot_at hW0 hvm.symm (hgood _ List.mem_cons_self) hk
  have hini' : (Cond.initialized cls).before args s' = true := vx_ot_at hW0 hvm.symm (hgood _ (List.mem_cons_of_mem _ List.mem_cons_self)) hini
  have hU' : vx_Zq Bundle.tN "UNASSIGNED_STACK" Bundle.steD A s' s'.heap := by rw [hhp]; exact vx_Zq.moved hW0.alike (hU.kept hS.2.1)
  have hN' : vx_Zq Bundle.tN "SUPPRESSED_SENTINEL" Bundle.listD A s' s'.heap := by rw [hhp]; exact vx_Zq.moved hW0.alike (hN.kept hS.2.1)
  have h : ∀ w ∈ Bundle.ownAtoms0 own ic cls names, w.before args s' = true := vx_own hat' (vx_isRefq hU'.1) (vx_isRefq hN'.1) hU'.2.word hN'.2.word
  have hown' : s'.vm.findClass own = some m.cls := by rw [hvm]; exact hown
  have hins : (Cond.instantiable cls 6).before args s' = true := h _ (by simp [Bundle.ownAtoms0])
  obtain ⟨vm₁, cX, kX, hfX, hkX, -, -, X₁, st1⟩ := Y.newCold hexec (own := own) (C := cls) (index := ik) (n := 6) hown' hk' hins hini'
    (g := F0 m pc ls rest) rfl (by rw [hb]; exact d0) (Nat.le_refl _) (Nat.le_refl _)
  generalize hT1 : (T.setVm vm₁).pushCell { cls := cX, slots := kX.instanceTypes.map defaultValue, vm := .none } = T1 at X₁ st1
  have hcat : (Value.ref T.heap.size).category = 1 := rfl
  have hcellA : T1.heap[T.heap.size]? = some (freshCell cX kX) := by rw [← hT1]; exact State.heap_pushCell_size _ _
  have d3' : decode c.code (pc + 3) = .ok (.dup, 1) := by rw [hb]; exact d3
  obtain ⟨U, hsteps, hrun, hend, hW, hsame, ce, hce, hO⟩ := X₁.ctorThrow0 hexec htr (own := own) (cls := cls) (names := names) (ic := ic) hown' hcls hnames h (fun x hx => nomatch hx) hfX hkX hcellA (by rw [hhp, hT]; exact Nat.le_refl _)
    (g := { method := m, pc := pc + 4, locals := ls, stack := .ref T.heap.size :: .ref T.heap.size :: rest, locked := none }) rfl hsize rfl rfl (rest := rest) rfl
    (by rw [hb]; exact d4) (by rw [hb]; exact d7) hout hRframes (by simp only [List.map_cons, List.sum_cons, hcat]; omega) hlocks
  obtain ⟨f1, f2⟩ := vx_frame hsame
  rw [hhp] at f1 f2
  have hWs : s.WarmedH U.vm := State.WarmedH.trans hW0 hW
  have hcl : s.vm.findClass cls = some ce.cls := by
    have h9 := hO.cls
    rw [hvm] at h9
    exact h9
  have hall : s.sameButNew ({ U with vm := s.vm } : State) locs mc ms := by
    subst hA
    obtain ⟨e1, e2⟩ := hsame
    rw [State.setFrames_setFrames] at e1
    have h2 : (T.setVm s.vm).sameButNew ({ U with vm := s.vm } : State) [] (0 + 1) (0 + 6) := ⟨e1, e2⟩
    have h3 := X.same.trans h2
    rw [List.append_nil] at h3
    exact h3.mono hc hs
  refine ⟨U, ?_, .threw T.heap.size, hrun, hend, Or.inr ⟨T.heap.size, rfl, cls, ce, locs, hx U hWs.alike f1 (fun q hq => f2 q hq (fun z hz => nomatch hz)), hce, hO.vm, hcl, hWs, hall, hf⟩⟩
  refine st1 _ ?_
  show Steps p.tables e below (T1.setTop { method := m, pc := pc + 3, locals := ls, stack := .ref T.heap.size :: rest, locked := none }) _
  jvm_step X₁.here [X₁.here.top, hexec, d3', Value.category]
  exact hsteps
/-- 'throw new E("text")': new; dup; ldc; invokespecial; athrow -/
theorem vx_throwS {cc : ByteArray} {pc : Nat} (hexec : p.tables.exec = Jvm.exec) (hb : c.code = cc) (hl : l.stackTraces = false) {own cls text : String} {names : List String} {ik is ic mc ms sa : Nat} {A : Nat → Prop}
    (hown : s.vm.findClass own = some m.cls) (hcls : Bundle.fit cls = true) (hnames : ∀ n ∈ names, Bundle.fit n = true)
    (hk : (Cond.classLink own ik cls).before args s = true) (hini : (Cond.initialized cls).before args s = true) (hstr : vk_R own is text sa s) (hat : ∀ w ∈ vx_atS own ic cls names, w.before args s = true)
    (hgood : ∀ w ∈ Cond.classLink own ik cls :: Cond.initialized cls :: vx_atS own ic cls names, vx_ot w = true)
    (hU : vx_Zq Bundle.tN "UNASSIGNED_STACK" Bundle.steD A s s.heap) (hN : vx_Zq Bundle.tN "SUPPRESSED_SENTINEL" Bundle.listD A s s.heap) (hS : va_S A s.heap H locs) (hsize : ls.size = c.maxLocals)
    (d0 : decode cc pc = .ok (.new ik, 3)) (d3 : decode cc (pc + 3) = .ok (.dup, 1)) (d4 : decode cc (pc + 4) = .ok (.ldc is, 2)) (d6 : decode cc (pc + 6) = .ok (.invokespecial ic, 3)) (d9 : decode cc (pc + 9) = .ok (.athrow, 1))
    (hout : ∀ x ∈ c.exceptionTable.toList, covers x (pc + 9) = false)
    (hRframes : names.length + 3 < R.frames) (hRlocals : (rest.map fun v => v.category).sum + (13 * (names.length + 1) + 43) ≤ R.locals) (hRcells : cells + 1 ≤ R.cells) (hRslots : slots + 6 ≤ R.slots) (hlocks : meth.locks = false)
    (hx : ∀ t : State, s.vm.Alike t.vm → H.size ≤ t.heap.size → (∀ q : Nat, q < H.size → t.heap[q]? = H[q]?) → XC cls s t)
    (hf : ∀ z ∈ locs, free z.base) (hc : cells + 1 ≤ mc) (hs : slots + 6 ≤ ms) :
    W p l e R s m args below meth c H locs cells slots (vx_MQ below Qc XC args s mc ms free) (F0 m pc ls rest) := by
  intro T hT X
  have htr : e.platform.stackTraces = false := (show e.platform.stackTraces = l.stackTraces by rw [X.admits.platform]).trans hl
  have Y := vx_rebase X (R' := { frames := R.frames, locals := R.locals, cells := 1, slots := 6 }) (Nat.le_refl _) (Nat.le_refl _) hRcells hRslots
  obtain ⟨s', hA⟩ : ∃ z, z = (T.setVm s.vm).setFrames (.invoking m args :: below) := ⟨_, rfl⟩
  rw [← hA] at Y
  have hvm : s'.vm = s.vm := by rw [hA]; rfl
  have hhp : s'.heap = H := by rw [hA]; exact hT
  have hW0 : s.WarmedH s'.vm := by rw [hvm]; exact State.WarmedH.refl s
  have hat' : ∀ w ∈ vx_atS own ic cls names, w.before args s' = true := fun w hw => vx_ot_at hW0 hvm.symm (hgood w (List.mem_cons_of_mem _ (List.mem_cons_of_mem _ hw))) (hat w hw)
  have hk' : (Cond.classLink own ik cls).before args s' = true := vx_ot_at hW0 hvm.symm (hgood _ List.mem_cons_self) hk
  have hini' : (Cond.initialized cls).before args s' = true := vx_ot_at hW0 hvm.symm (hgood _ (List.mem_cons_of_mem _ List.mem_cons_self)) hini
  have hU' : vx_Zq Bundle.tN "UNASSIGNED_STACK" Bundle.steD A s' s'.heap := by rw [hhp]; exact vx_Zq.moved hW0.alike (hU.kept hS.2.1)
  have hN' : vx_Zq Bundle.tN "SUPPRESSED_SENTINEL" Bundle.listD A s' s'.heap := by rw [hhp]; exact vx_Zq.moved hW0.alike (hN.kept hS.2.1)
  have h : ∀ w ∈ Bundle.ownAtoms own ic cls names, w.before args s' = true := vx_own hat' (vx_isRefq hU'.1) (vx_isRefq hN'.1) hU'.2.word hN'.2.word
  have hown' : s'.vm.findClass own = some m.cls := by rw [hvm]; exact hown
  have hins : (Cond.instantiable cls 6).before args s' = true := h _ (by simp [Bundle.ownAtoms])
  obtain ⟨vm₁, cX, kX, hfX, hkX, -, -, X₁, st1⟩ := Y.newCold hexec (own := own) (C := cls) (index := ik) (n := 6) hown' hk' hins hini'
    (g := F0 m pc ls rest) rfl (by rw [hb]; exact d0) (Nat.le_refl _) (Nat.le_refl _)
  generalize hT1 : (T.setVm vm₁).pushCell { cls := cX, slots := kX.instanceTypes.map defaultValue, vm := .none } = T1 at X₁ st1
  have hcat : (Value.ref T.heap.size).category = 1 := rfl
  have hcellA : T1.heap[T.heap.size]? = some (freshCell cX kX) := by rw [← hT1]; exact State.heap_pushCell_size _ _
  have d3' : decode c.code (pc + 3) = .ok (.dup, 1) := by rw [hb]; exact d3
  have d4' : decode c.code (pc + 4) = .ok (.ldc is, 2) := by rw [hb]; exact d4
  have hstr' : vk_R own is text sa s' := vk_R.warm hW0 hstr
  obtain ⟨U, hsteps, hrun, hend, hW, hsame, ce, hce, hO⟩ := X₁.ctorThrowS hexec htr (own := own) (cls := cls) (names := names) (ic := ic) hown' hcls hnames h (fun x hx => nomatch hx) hfX hkX hcellA (by rw [hhp, hT]; exact Nat.le_refl _) (msg := .ref sa) rfl
    (g := { method := m, pc := pc + 6, locals := ls, stack := .ref sa :: .ref T.heap.size :: .ref T.heap.size :: rest, locked := none }) rfl hsize rfl rfl (rest := rest) rfl
    (by rw [hb]; exact d6) (by rw [hb]; exact d9) hout hRframes (by simp only [List.map_cons, List.sum_cons, hcat]; omega) hlocks
  obtain ⟨f1, f2⟩ := vx_frame hsame
  rw [hhp] at f1 f2
  have hWs : s.WarmedH U.vm := State.WarmedH.trans hW0 hW
  have hcl : s.vm.findClass cls = some ce.cls := by
    have h9 := hO.cls
    rw [hvm] at h9
    exact h9
  have hall : s.sameButNew ({ U with vm := s.vm } : State) locs mc ms := by
    subst hA
    obtain ⟨e1, e2⟩ := hsame
    rw [State.setFrames_setFrames] at e1
    have h2 : (T.setVm s.vm).sameButNew ({ U with vm := s.vm } : State) [] (0 + 1) (0 + 6) := ⟨e1, e2⟩
    have h3 := X.same.trans h2
    rw [List.append_nil] at h3
    exact h3.mono hc hs
  refine ⟨U, ?_, .threw T.heap.size, hrun, hend, Or.inr ⟨T.heap.size, rfl, cls, ce, locs, hx U hWs.alike f1 (fun q hq => f2 q hq (fun z hz => nomatch hz)), hce, hO.vm, hcl, hWs, hall, hf⟩⟩
  refine st1 _ ?_
  show Steps p.tables e below (T1.setTop { method := m, pc := pc + 3, locals := ls, stack := .ref T.heap.size :: rest, locked := none }) _
  jvm_step X₁.here [X₁.here.top, hexec, d3', Value.category]
  exact X₁.ldcString hexec (own := own) (text := text) (index := is) (a := sa) hown' hstr'.1 hstr'.2
    (g := { method := m, pc := pc + 4, locals := ls, stack := .ref T.heap.size :: .ref T.heap.size :: rest, locked := none }) rfl d4' _ hsteps
/-- 'throw new E("text")', the text by a wide index -/
theorem vx_throwSW {cc : ByteArray} {pc : Nat} (hexec : p.tables.exec = Jvm.exec) (hb : c.code = cc) (hl : l.stackTraces = false) {own cls text : String} {names : List String} {ik is ic mc ms sa : Nat} {A : Nat → Prop}
    (hown : s.vm.findClass own = some m.cls) (hcls : Bundle.fit cls = true) (hnames : ∀ n ∈ names, Bundle.fit n = true)
    (hk : (Cond.classLink own ik cls).before args s = true) (hini : (Cond.initialized cls).before args s = true) (hstr : vk_R own is text sa s) (hat : ∀ w ∈ vx_atS own ic cls names, w.before args s = true)
    (hgood : ∀ w ∈ Cond.classLink own ik cls :: Cond.initialized cls :: vx_atS own ic cls names, vx_ot w = true)
    (hU : vx_Zq Bundle.tN "UNASSIGNED_STACK" Bundle.steD A s s.heap) (hN : vx_Zq Bundle.tN "SUPPRESSED_SENTINEL" Bundle.listD A s s.heap) (hS : va_S A s.heap H locs) (hsize : ls.size = c.maxLocals)
    (d0 : decode cc pc = .ok (.new ik, 3)) (d3 : decode cc (pc + 3) = .ok (.dup, 1)) (d4 : decode cc (pc + 4) = .ok (.ldc_w is, 3)) (d7 : decode cc (pc + 7) = .ok (.invokespecial ic, 3)) (d10 : decode cc (pc + 10) = .ok (.athrow, 1))
    (hout : ∀ x ∈ c.exceptionTable.toList, covers x (pc + 10) = false)
    (hRframes : names.length + 3 < R.frames) (hRlocals : (rest.map fun v => v.category).sum + (13 * (names.length + 1) + 43) ≤ R.locals) (hRcells : cells + 1 ≤ R.cells) (hRslots : slots + 6 ≤ R.slots) (hlocks : meth.locks = false)
    (hx : ∀ t : State, s.vm.Alike t.vm → H.size ≤ t.heap.size → (∀ q : Nat, q < H.size → t.heap[q]? = H[q]?) → XC cls s t)
    (hf : ∀ z ∈ locs, free z.base) (hc : cells + 1 ≤ mc) (hs : slots + 6 ≤ ms) :
    W p l e R s m args below meth c H locs cells slots (vx_MQ below Qc XC args s mc ms free) (F0 m pc ls rest) := by
  intro T hT X
  have htr : e.platform.stackTraces = false := (show e.platform.stackTraces = l.stackTraces by rw [X.admits.platform]).trans hl
  have Y := vx_rebase X (R' := { frames := R.frames, locals := R.locals, cells := 1, slots := 6 }) (Nat.le_refl _) (Nat.le_refl _) hRcells hRslots
  obtain ⟨s', hA⟩ : ∃ z, z = (T.setVm s.vm).setFrames (.invoking m args :: below) := ⟨_, rfl⟩
  rw [← hA] at Y
  have hvm : s'.vm = s.vm := by rw [hA]; rfl
  have hhp : s'.heap = H := by rw [hA]; exact hT
  have hW0 : s.WarmedH s'.vm := by rw [hvm]; exact State.WarmedH.refl s
  have hat' : ∀ w ∈ vx_atS own ic cls names, w.before args s' = true := fun w hw => vx_ot_at hW0 hvm.symm (hgood w (List.mem_cons_of_mem _ (List.mem_cons_of_mem _ hw))) (hat w hw)
  have hk' : (Cond.classLink own ik cls).before args s' = true := vx_ot_at hW0 hvm.symm (hgood _ List.mem_cons_self) hk
  have hini' : (Cond.initialized cls).before args s' = true := vx_ot_at hW0 hvm.symm (hgood _ (List.mem_cons_of_mem _ List.mem_cons_self)) hini
  have hU' : vx_Zq Bundle.tN "UNASSIGNED_STACK" Bundle.steD A s' s'.heap := by rw [hhp]; exact vx_Zq.moved hW0.alike (hU.kept hS.2.1)
  have hN' : vx_Zq Bundle.tN "SUPPRESSED_SENTINEL" Bundle.listD A s' s'.heap := by rw [hhp]; exact vx_Zq.moved hW0.alike (hN.kept hS.2.1)
  have h : ∀ w ∈ Bundle.ownAtoms own ic cls names, w.before args s' = true := vx_own hat' (vx_isRefq hU'.1) (vx_isRefq hN'.1) hU'.2.word hN'.2.word
  have hown' : s'.vm.findClass own = some m.cls := by rw [hvm]; exact hown
  have hins : (Cond.instantiable cls 6).before args s' = true := h _ (by simp [Bundle.ownAtoms])
  obtain ⟨vm₁, cX, kX, hfX, hkX, -, -, X₁, st1⟩ := Y.newCold hexec (own := own) (C := cls) (index := ik) (n := 6) hown' hk' hins hini'
    (g := F0 m pc ls rest) rfl (by rw [hb]; exact d0) (Nat.le_refl _) (Nat.le_refl _)
  generalize hT1 : (T.setVm vm₁).pushCell { cls := cX, slots := kX.instanceTypes.map defaultValue, vm := .none } = T1 at X₁ st1
  have hcat : (Value.ref T.heap.size).category = 1 := rfl
  have hcellA : T1.heap[T.heap.size]? = some (freshCell cX kX) := by rw [← hT1]; exact State.heap_pushCell_size _ _
  have d3' : decode c.code (pc + 3) = .ok (.dup, 1) := by rw [hb]; exact d3
  have d4' : decode c.code (pc + 4) = .ok (.ldc_w is, 3) := by rw [hb]; exact d4
  have hstr' : vk_R own is text sa s' := vk_R.warm hW0 hstr
  obtain ⟨U, hsteps, hrun, hend, hW, hsame, ce, hce, hO⟩ := X₁.ctorThrowS hexec htr (own := own) (cls := cls) (names := names) (ic := ic) hown' hcls hnames h (fun x hx => nomatch hx) hfX hkX hcellA (by rw [hhp, hT]; exact Nat.le_refl _) (msg := .ref sa) rfl
    (g := { method := m, pc := pc + 7, locals := ls, stack := .ref sa :: .ref T.heap.size :: .ref T.heap.size :: rest, locked := none }) rfl hsize rfl rfl (rest := rest) rfl
    (by rw [hb]; exact d7) (by rw [hb]; exact d10) hout hRframes (by simp only [List.map_cons, List.sum_cons, hcat]; omega) hlocks
  obtain ⟨f1, f2⟩ := vx_frame hsame
  rw [hhp] at f1 f2
  have hWs : s.WarmedH U.vm := State.WarmedH.trans hW0 hW
  have hcl : s.vm.findClass cls = some ce.cls := by
    have h9 := hO.cls
    rw [hvm] at h9
    exact h9
  have hall : s.sameButNew ({ U with vm := s.vm } : State) locs mc ms := by
    subst hA
    obtain ⟨e1, e2⟩ := hsame
    rw [State.setFrames_setFrames] at e1
    have h2 : (T.setVm s.vm).sameButNew ({ U with vm := s.vm } : State) [] (0 + 1) (0 + 6) := ⟨e1, e2⟩
    have h3 := X.same.trans h2
    rw [List.append_nil] at h3
    exact h3.mono hc hs
  refine ⟨U, ?_, .threw T.heap.size, hrun, hend, Or.inr ⟨T.heap.size, rfl, cls, ce, locs, hx U hWs.alike f1 (fun q hq => f2 q hq (fun z hz => nomatch hz)), hce, hO.vm, hcl, hWs, hall, hf⟩⟩
  refine st1 _ ?_
  show Steps p.tables e below (T1.setTop { method := m, pc := pc + 3, locals := ls, stack := .ref T.heap.size :: rest, locked := none }) _
  jvm_step X₁.here [X₁.here.top, hexec, d3', Value.category]
  exact X₁.ldcStringW hexec (own := own) (text := text) (index := is) (a := sa) hown' hstr'.1 hstr'.2
    (g := { method := m, pc := pc + 4, locals := ls, stack := .ref T.heap.size :: .ref T.heap.size :: rest, locked := none }) rfl d4' _ hsteps
end Ends
section Bodies
variable {l : Launch}
theorem vx_ofW {y : MethodName} {ws ws' : List Cond} {rm : Room} {Pc : Array Value → State → Prop} {Qc : Array Value → State → Outcome → State → Prop} {XC : String → State → State → Prop} {mc ms : Nat} {free : Addr → Prop} {cc : ByteArray} {maxL : Nat} {ret : Option FieldType}
    (hy : plainName y.cls = true) (hw : ws = Cond.code y cc maxL ret :: ws')
    (body : ∀ p e s m args below meth c s₁, BodyLoose p l y (headSpec ws rm) cc maxL ret e s m args below meth c s₁ → c.maxLocals = maxL → (∀ x ∈ c.exceptionTable.toList, False) → Pc args s →
      W p l e (headSpec ws rm).room s m args below meth c s.heap [] 0 0 (vx_MQ below Qc XC args s mc ms free) (entryFrame m args maxL)) : vx_Met l y ws rm Pc Qc XC mc ms free := by
  refine MetFree.of_bodyS (code := cc) (maxLocals := maxL) (ret := ret) hy ?_ ?_
  · intro args s m h hn
    obtain ⟨meth, c, h1, h2, h3, h4, h5, h6, -, -⟩ := Cond.code_spec hn (atoms_spec (ws := ws) h _ (by rw [hw]; exact List.mem_cons_self))
    exact ⟨meth, c, h1, h2, h3, h4, h5, h6⟩
  · intro p e s m args below meth c s₁ B hml hP _
    have hh0 : s₁.heap = s.heap := by rw [B.state]; rfl
    have ht : ∀ x ∈ c.exceptionTable.toList, False := by
      obtain ⟨meth9, c9, h1, h2, -, -, -, -, h7, -⟩ := Cond.code_spec B.named (atoms_spec (ws := ws) B.pre _ (by rw [hw]; exact List.mem_cons_self))
      cases Option.some.inj (h1.symm.trans B.method)
      cases Option.some.inj (h2.symm.trans (Stand.of_body B).code)
      intro x hx
      rw [Array.isEmpty_iff.mp h7] at hx
      cases hx
    obtain ⟨t, a1, o, b1, b2, b3⟩ := body p e s m args below meth c s₁ B hml ht hP s₁ hh0 (Stand.of_body B)
    exact ⟨t, o, a1, b1, b2, b3⟩
/-- the table of a body with handlers -/
theorem vx_table {p : Program} {x y : MethodName} {S : Spec} {cc bytes : ByteArray} {maxL maxL' : Nat} {ret ret' : Option FieldType} {e : Env} {s s₁ : State} {m : MethodId} {args : Array Value} {below : List Frame} {meth : Method} {c : Code} {hh : List (Nat × Nat × Nat × Nat)}
    (B : BodyLoose p l y S cc maxL ret e s m args below meth c s₁) (h : (Cond.codeWith y bytes maxL' ret' hh).before args s = true) : c.exceptionTable.toList = tableOf hh := by
  obtain ⟨m9, meth9, c9, hn9, h1, h2, -, -, h6, -⟩ := Cond.codeWith_spec h
  cases Option.some.inj (hn9.symm.trans B.named)
  cases Option.some.inj (h1.symm.trans B.method)
  cases Option.some.inj (h2.symm.trans (Stand.of_body B).code)
  rw [← h6, table_eq]
end Bodies
end VXA
/-! ===== END ===== -/
/-! ===== BEGIN a static call of a method with an exception table ===== -/
section VXS
variable {p : Program} {l : Launch} {e : Env} {R : Room} {s : State} {m : MethodId} {args : Array Value} {below : List Frame} {meth : Method} {c : Code} {T : State} {H : Heap} {locs : List Loc} {cells slots : Nat}
abbrev vx_CSW (R : Room) (s : State) (args : Array Value) (own : String) (index : Nat) (y : MethodName) (bytes : ByteArray) (maxL : Nat) (ret : Option FieldType) (hh : List (Nat × Nat × Nat × Nat)) (ws : List Cond) (rm : Room) (mc ms n : Nat) : Prop :=
  (rm.cells = mc ∧ rm.slots = ms ∧ rm.frames + 1 ≤ R.frames ∧ 8 + (maxL + 11) + rm.locals ≤ R.locals ∧ (∀ w ∈ ws, ∀ (a' : Array Value) (U : State), s.WarmedH U.vm → w.before a' U = true) ∧ Cond.codeWith y bytes maxL ret hh ∈ ws) ∧
  (Cond.codeWith y bytes maxL ret hh).before args s = true ∧ (Cond.initialized y.cls).before args s = true ∧ (y.cls ≠ "java/lang/invoke/MethodHandle" ∧ y.cls ≠ "java/lang/invoke/VarHandle") ∧
  (∀ sig, parseMethodDescriptor y.desc = some sig → n = sig.parameters.length) ∧ (Cond.methodLink own index y).before args s = true ∧ (Cond.static y).before args s = true
theorem vx_cwSW {own : String} {index maxL mc ms : Nat} {y : MethodName} {bytes : ByteArray} {ret : Option FieldType} {hh : List (Nat × Nat × Nat × Nat)} {Ts ws ws' : List Cond} {rm : Room} (n : Nat) (ht : ∀ w ∈ Ts, w.before args s = true) (hT : GoodIn Ts (va_wsS own index y ws)) (hw : ws = Cond.codeWith y bytes maxL ret hh :: ws') (hrc : rm.cells = mc) (hrs : rm.slots = ms)
    (hd : y.cls ≠ "java/lang/invoke/MethodHandle" ∧ y.cls ≠ "java/lang/invoke/VarHandle" ∧ (parseMethodDescriptor y.desc).map (fun d => d.parameters.length) = some n) (hR : rm.frames + 1 ≤ R.frames ∧ 8 + (maxL + 11) + rm.locals ≤ R.locals) :
    vx_CSW R s args own index y bytes maxL ret hh ws rm mc ms n := by
  have ok : ∀ w ∈ va_wsS own index y ws, w.before args s = true := fun w h => ht w (hT w h).1
  have hG : GoodIn Ts ws := fun w h => hT w (by unfold va_wsS; exact List.mem_append_right _ h)
  have hc : Cond.codeWith y bytes maxL ret hh ∈ ws := by rw [hw]; exact List.mem_cons_self
  refine ⟨⟨hrc, hrs, hR.1, hR.2, pay_in ht hG, hc⟩, ht _ (hG _ hc).1, ok _ (by simp [va_wsS]), ⟨hd.1, hd.2.1⟩, fun sig h => ?_, ok _ (by simp [va_wsS]), ok _ (by simp [va_wsS])⟩
  have h2 := hd.2.2
  rw [h] at h2
  exact (Option.some.inj h2).symm
theorem vx_callSW (X : Stand p l e R s m args below meth c T locs cells slots) (hexec : p.tables.exec = Jvm.exec) {own : String} {index : Nat} {y : MethodName} {bytes : ByteArray} {maxL : Nat} {ret : Option FieldType} {hh : List (Nat × Nat × Nat × Nat)}
    (hown : s.vm.findClass own = some m.cls) (hlink : (Cond.methodLink own index y).before args s = true) (hstat : (Cond.static y).before args s = true) (hinit : (Cond.initialized y.cls).before args s = true)
    (hcode : (Cond.codeWith y bytes maxL ret hh).before args s = true) (hy : y.cls ≠ "java/lang/invoke/MethodHandle" ∧ y.cls ≠ "java/lang/invoke/VarHandle")
    {W9 : Nat} {Pre : Pt → Array Value → Prop} {Post : Pt → Array Value → Option Value → Pt → Prop} (hK : Back l R p e below s args y 3 W9 Pre Post)
    {g : JFrame} (hg : g.method = m) (hsize : g.locals.size = c.maxLocals) {argsL rest : List Value} (hlen : ∀ sig, parseMethodDescriptor y.desc = some sig → argsL.length = sig.parameters.length)
    (hstack : g.stack = argsL.reverse ++ rest) (hW : 2 * g.monitorRoom + (rest.map fun v => v.category).sum ≤ W9) (hdg : decode c.code g.pc = .ok (.invokestatic index, 3))
    (hpre : ∀ vm₁, s.WarmedH vm₁ → Pre ⟨T.setVm vm₁, locs, cells, slots⟩ argsL.toArray) :
    ∃ (v : Option Value) (vm₁ : Vm) (B : Pt), s.WarmedH vm₁ ∧ Stand p l e R s m args below meth c B.U B.locs B.cells B.slots ∧ Post ⟨T.setVm vm₁, locs, cells, slots⟩ argsL.toArray v B ∧
      ∀ target, Steps p.tables e below (B.U.setTop { g with pc := g.pc + 3, stack := v.toList ++ rest }) target → Steps p.tables e below (T.setTop g) target := by
  obtain ⟨mk, methM, cM, hnamed, hmethM, -, -, -, -, -, -, hsigM⟩ := Cond.codeWith_spec hcode
  have hstatic : methM.isStatic = true := Cond.static_spec hnamed hmethM hstat
  obtain ⟨kP, hkP, -⟩ := className_of_methodNamed hnamed
  have hinitP : kP.init = .initialized := Cond.initialized_spec (findClass_of_methodNamed hnamed) hkP hinit
  obtain ⟨vm₁, X₁, hstep₁⟩ := X.invokestatic hexec hown hlink hnamed hmethM hstatic hkP hinitP hy (g := g) hg (argsL := argsL) (rest := rest) (hlen _ hsigM) hstack hdg
  obtain ⟨v, B, X', hpost, hsteps⟩ := hK m meth c ⟨T.setVm vm₁, locs, cells, slots⟩ { g with stack := rest } (.invokestatic index) mk argsL.toArray X₁ hg hsize hdg hW (X₁.named hnamed) (hpre vm₁ X₁.warmed)
  exact ⟨v, vm₁, B, X₁.warmed, X', hpost, fun target h => hstep₁ _ fun acts => by rw [doInvoke_state]; exact hsteps.trans h⟩
theorem vx_runSW {y : MethodName} {bytes cc : ByteArray} {maxL nL mc ms n index : Nat} {ret : Option FieldType} {hh : List (Nat × Nat × Nat × Nat)} {ws : List Cond} {rm : Room} {Pc : Array Value → State → Prop} {Qc : Array Value → State → Outcome → State → Prop} {free : Addr → Prop} {Ts : List Cond} {own : String} {As rest : List Value} {g : JFrame}
    (S : CallFix p m c cc nL s args Ts own) (hM : Met l y ws rm Pc Qc mc ms free) (cw : vx_CSW R s args own index y bytes maxL ret hh ws rm mc ms n) (hp : PreS s H Pc As)
    (hg : g.method = m) (hn : As.length = n) (hsize : g.locals.size = nL) (hstack : g.stack = As.reverse ++ rest) (hW : 2 * g.monitorRoom + (rest.map fun v => v.category).sum ≤ 8) (hdg : decode cc g.pc = .ok (.invokestatic index, 3)) (hf : cells + mc ≤ R.cells ∧ slots + ms ≤ R.slots) :
    va_Run p l e R s m args below meth c H locs cells slots mc ms g rest (Qc As.toArray) (free) := by
  obtain ⟨⟨hrc, hrs, hfr, hlo, hws, hcw⟩, hcode, hini, hy, hlen, hl, hstt⟩ := cw
  have hK : Back l R p e below s args y 3 8 (PreOf R mc ms Pc) (PostOf Qc mc ms free) := va_backW (hh := hh) (bytes := bytes) (maxL := maxL) (ret := ret) hM hp.1 hrc hrs hfr hlo hws hcw (fun a' U hW => word_at hW (Or.inl (by first | rfl | simp [Cond.onTables, Cond.keeps, Cond.steady])) hini)
  obtain ⟨hx, hb, hml, ho, -⟩ := S
  intro T hT X
  obtain ⟨v, vm₁, ⟨U', l2, c2, s2⟩, hW₁, X', ⟨g', mk, t, L, e1, e2, hq, h1, hL, h2, h3⟩, st⟩ := vx_callSW X hx (hh := hh) (bytes := bytes) (maxL := maxL) (ret := ret) ho hl hstt hini hcode hy hK hg (hsize.trans hml.symm) (argsL := As) (rest := rest) (fun sig h => hn.trans (hlen sig h)) hstack hW (by rw [hb]; exact hdg)
    (fun vm₁ hW₁ => ⟨hf.1, hf.2, hp.2 (T.setVm vm₁) hT hW₁⟩)
  dsimp only [Pt.U, Pt.locs, Pt.cells, Pt.slots] at X' e1 e2 h1 h2 h3 st
  subst h1; subst h2; subst h3
  exact ⟨v, (T.setVm vm₁).calling g' mk As.toArray, t, U', L, hT, X', hL, e1, e2, hq, st⟩
/-- not caught here, past rows that name other classes: it goes on to the caller -/
theorem vx_outP {p : Program} {l : Launch} {e : Env} {R : Room} {s : State} {m : MethodId} {args : Array Value} {below : List Frame} {meth : Method} {c : Code} {H : Heap} {locs : List Loc} {cells slots : Nat} {free : Addr → Prop} {ls : Array Slot} {rest : List Value} {Qc : Array Value → State → Outcome → State → Prop} {XC : String → State → State → Prop}
    {pc : Nat} {own E : String} {ce : Cell} {q : Addr} {mc ms : Nat} (hown : s.vm.findClass own = some m.cls) (hlocks : meth.locks = false)
    (hpass : ∀ z ∈ c.exceptionTable.toList, covers z pc = false ∨ (z.catchType ≠ 0 ∧ ∃ nm : String, (Cond.classLink own z.catchType nm).before args s = true ∧ va_Nc E nm s)) (hcell : H[q]? = some ce) (hv : ce.vm = .none) (hcl : s.vm.findClass E = some ce.cls)
    (hx : ∀ t : State, t.heap = H → s.vm.Alike t.vm → XC E s t) (hf : ∀ z ∈ locs, free z.base) (hc : cells ≤ mc) (hs : slots ≤ ms) :
    vx_W p l e R s m args below meth c H locs cells slots (vx_MQ below Qc XC args s mc ms free) (F0 m pc ls rest) q := by
  intro T hT X
  have hpl : e.platform.magicAccessors = ({} : Platform).magicAccessors := by rw [X.admits.platform]
  obtain ⟨vm', hW', X', st⟩ := X.outThrough hlocks q (g := F0 m pc ls rest) rfl rfl rfl (cell := ce) (by rw [hT]; exact hcell) (by rw [hv]; rfl)
    (by obtain ⟨k9, h9, -⟩ := Vm.findClass_spec hcl; exact ⟨k9, h9⟩) (fun z hz => by
      rcases hpass z hz with h | ⟨hz0, nm, hl1, hn1⟩
      · exact Or.inl h
      · obtain ⟨c6, hc6, hcl6⟩ := Cond.classLink_spec hown hl1 e.platform hpl
        obtain ⟨a8, b8, h1, h2, h3⟩ := hn1
        cases Option.some.inj (h1.symm.trans hcl)
        cases Option.some.inj (h2.symm.trans hc6)
        exact Or.inr ⟨hz0, _, hcl6, h3⟩)
  obtain ⟨g₀, hfr⟩ := X'.frames_eq
  have hcell9 : ((T.setVm vm').setFrames (.throwing q :: below)).heap[q]? = some ce := by
    show T.heap[q]? = some ce
    rw [hT]; exact hcell
  have hend : Ended ((T.setVm vm').setFrames (.throwing q :: below)) below (.threw q) := State.frames_setFrames _ (State.cur_lt_of_frames hfr)
  refine ⟨(T.setVm vm').setFrames (.throwing q :: below), ?_, .threw q, X'.here.running, hend, Or.inr ⟨q, rfl, E, ce, locs, hx _ hT (X'.ends _).1.alike, hcell9, hv, hcl, (X'.ends _).1, (X'.ends _).2.mono hc hs, hf⟩⟩
  rw [X.pushThrowing_eq]
  exact st
/-- a thing of a world lies in the heap -/
theorem vx_lt {D : va_G} {cl : List vw_C} {ws : va_W} {H1 : Heap} (h : va_P D cl ws H1) {k : Nat} {q : Nat × va_E} (hk : ws[k]? = some q) : q.1 < H1.size := (h k q hk).lt
end VXS
/-! ===== END ===== -/
/-! ===== BEGIN methods with a table of their own: called by a name, returning or throwing ===== -/
section VXH
/-! vx_backW, vx_callVX, vx_callSX, vx_callVW, vx_runVW, vx_runVX, vx_runSX, vx_ofWH follow the same proofs as their sisters above (Free/Laws.lean, Shelf42/LK1.lean); vx_outP calls Shelf42/NT130.lean (outThrough). -/
section
variable {l : Launch} {R : Room} {p : Program} {e : Env} {below : List Frame} {s : State} {sargs : Array Value} {y : MethodName} {len W9 : Nat}
theorem vx_backW {ws : List Cond} {rm : Room} {Pc : Array Value → State → Prop} {Qc : Array Value → State → Outcome → State → Prop} {XC : String → State → State → Prop} {mc ms : Nat} {free : Addr → Prop} {bytes : ByteArray} {maxL : Nat} {ret : Option FieldType} {hh : List (Nat × Nat × Nat × Nat)}
    (hM : vx_Met l y ws rm Pc Qc XC mc ms free) (hblind : FrameBlind Pc) (hrc : rm.cells = mc) (hrs : rm.slots = ms)
    (hframes : rm.frames + 1 ≤ R.frames) (hlocals : W9 + (maxL + 11) + rm.locals ≤ R.locals)
    (hws : ∀ w ∈ ws, ∀ a' U, s.WarmedH U.vm → w.before a' U = true) (hcode : Cond.codeWith y bytes maxL ret hh ∈ ws) (hinit : ∀ a' U, s.WarmedH U.vm → (Cond.initialized y.cls).before a' U = true) :
    vx_Back l R p e below s sargs y len W9 (PreOf R mc ms Pc) (PostOf Qc mc ms free) (vx_Post XC mc ms free) := by
  intro m meth c A g ig mk a X hg hsize hdg hW hn hp
  have h1 : (headSpec ws rm).pre.before a A.U = true := atoms_intro fun w hw => hws w hw _ _ X.warmed
  have h2 : (Cond.codeWith y bytes maxL ret hh).before a A.U = true := hws _ hcode _ _ X.warmed
  have h3 : (Cond.initialized y.cls).before a A.U = true := hinit _ _ X.warmed
  have h4 : A.cells + (headSpec ws rm).room.cells ≤ R.cells := by rw [show (headSpec ws rm).room.cells = mc from hrc]; exact hp.1
  have h5 : A.slots + (headSpec ws rm).room.slots ≤ R.slots := by rw [show (headSpec ws rm).room.slots = ms from hrs]; exact hp.2.1
  have hPc : Pc a (A.U.calling g mk a) := hblind _ _ _ _ hp.2.2
  obtain ⟨U, Ls, c0, s0⟩ := A
  dsimp only [Pt.U, Pt.locs, Pt.cells, Pt.slots] at h1 h2 h3 h4 h5 X hn hPc ⊢
  obtain ⟨m9, methY, cY, hn9, hmY, hcY, -, hlY, -⟩ := Cond.codeWith_spec h2
  cases Option.some.inj (hn9.symm.trans hn)
  obtain ⟨kY, hkY, -⟩ := className_of_methodNamed hn
  have hinitY : kY.init = .initialized := Cond.initialized_spec (findClass_of_methodNamed hn) hkY h3
  have h : At U g.method c below := by rw [hg]; exact X.here
  have hlocals9 : W9 + (maxL + 11) + (headSpec ws rm).room.locals ≤ R.locals := hlocals
  have happ : (headSpec ws rm).appliesLoose y e.platform (U.calling g mk a) = true :=
    Spec.appliesLoose_calling (g := g) h hdg hn hkY hinitY
      (X.room_calling (g := g) (R' := (headSpec ws rm).room) hsize hmY hcY hframes (by rw [hlY]; omega) h4 h5) h1
  obtain ⟨mid, hmid⟩ := h.above
  have hfr : (U.setTop g).frames = (.java g :: mid) ++ below := by rw [State.frames_setTop' g h.top, hmid]; rfl
  obtain ⟨o, s₂, hsteps, -, hend, hq⟩ := Steps.callFree hM p X.admits X.cas X.clock (acts := []) hfr happ hPc trivial
  have hq' : vx_Q Qc XC mc ms free a (U.calling g mk a) o s₂ := hq
  rw [State.frames_setTop' g h.top] at hend
  obtain ⟨g₀, hg0⟩ := Option.isSome_iff_exists.mp h.top
  obtain ⟨r, hr⟩ := State.topJava?_eq_some.mp hg0
  have hr' : (({ U with heap := s₂.heap, slotsUsed := s₂.slotsUsed } : State).setVm s₂.vm).frames = .java g₀ :: r := hr
  rcases hq' with ⟨hqc, L, hfe, hL⟩ | ⟨q, rfl, E, ce, L, hx, hce, hcv, hcl, hW₂, hsm, hL⟩
  · obtain ⟨⟨v, rfl⟩, hW₂, e2, q2, q3, q4, q5, q6⟩ := id hfe
    have e3 : s₂ = ({ (U.calling g mk a).setFrames s₂.frames with heap := s₂.heap, slotsUsed := s₂.slotsUsed } : State).setVm s₂.vm := by
      have : s₂ = ({ s₂ with vm := (U.calling g mk a).vm } : State).setVm s₂.vm := rfl
      rw [e2] at this
      exact this
    obtain ⟨c₂, i₂, len₂, hc₂, hd₂, hf₂⟩ := hend
    have hW' : U.WarmedH s₂.vm := hW₂
    have hcc : c₂ = c := by
      have h1 : s₂.code? g.method = U.code? g.method := by
        rw [State.code?_eq, State.code?_eq, hW'.alike.method?]
      exact Option.some.inj (hc₂.symm.trans (h1.trans h.code))
    subst hcc
    have hlen : len₂ = len := by rw [hdg] at hd₂; cases hd₂; rfl
    subst hlen
    have hs₂ : s₂ = (({ U with heap := s₂.heap, slotsUsed := s₂.slotsUsed } : State).setVm s₂.vm).setTop { g with pc := g.pc + len₂, stack := v.toList ++ g.stack } := by
      refine e3.trans ?_
      rw [hf₂, State.calling_eq h.top, State.setFrames_setFrames, State.setTop_of_frames _ hr', hr]
      rfl
    have hsame : U.sameButNew ({ U with heap := s₂.heap, slotsUsed := s₂.slotsUsed } : State) L mc ms := by
      refine ⟨?_, q2, q3, q4, q5, q6⟩
      obtain ⟨t, ht, -⟩ := State.frames_cons hr
      show ({ U with heap := s₂.heap, slotsUsed := s₂.slotsUsed } : State) = { U.setFrames U.frames with heap := s₂.heap, slotsUsed := s₂.slotsUsed }
      rw [State.setFrames_self ht]
    subst hg
    refine Or.inl ⟨v, ⟨(({ U with heap := s₂.heap, slotsUsed := s₂.slotsUsed } : State).setVm s₂.vm), Ls ++ L, c0 + mc, s0 + ms⟩,
      ⟨X.admits, X.cas, X.clock, X.frames, X.room, X.hears, X.method, X.code, (X.here.setHeapUsed s₂.heap s₂.slotsUsed).setVm hW'.alike, X.tail, State.WarmedH.trans X.warmed hW', X.limits, X.bytes, X.same.trans (hsame.setVm s.vm)⟩,
      ⟨g, mk, s₂, L, rfl, rfl, hqc, rfl, hL, rfl, rfl⟩, ?_⟩
    show Steps p.tables e below _ ((({ U with heap := s₂.heap, slotsUsed := s₂.slotsUsed } : State).setVm s₂.vm).setTop { g with pc := g.pc + len₂, stack := v.toList ++ g.stack })
    rw [← hs₂]
    exact hsteps
  · obtain ⟨e2, q2, q3, q4, q5, q6⟩ := id hsm
    have e3 : s₂ = ({ (U.calling g mk a).setFrames s₂.frames with heap := s₂.heap, slotsUsed := s₂.slotsUsed } : State).setVm s₂.vm := by
      have : s₂ = ({ s₂ with vm := (U.calling g mk a).vm } : State).setVm s₂.vm := rfl
      rw [e2] at this
      exact this
    have hf₂ : s₂.frames = .throwing q :: .java g :: U.frames.tail := hend
    have hW' : U.WarmedH s₂.vm := hW₂
    have hs₂ : s₂ = ((({ U with heap := s₂.heap, slotsUsed := s₂.slotsUsed } : State).setVm s₂.vm).setTop g).pushFrame (.throwing q) := by
      refine e3.trans ?_
      rw [hf₂, State.calling_eq h.top, State.setFrames_setFrames, State.pushFrame, State.frames_setTop _ hr', State.setTop_of_frames _ hr', State.setFrames_setFrames, hr]
      rfl
    have hsame : U.sameButNew ({ U with heap := s₂.heap, slotsUsed := s₂.slotsUsed } : State) L mc ms := by
      refine ⟨?_, q2, q3, q4, q5, q6⟩
      obtain ⟨t, ht, -⟩ := State.frames_cons hr
      show ({ U with heap := s₂.heap, slotsUsed := s₂.slotsUsed } : State) = { U.setFrames U.frames with heap := s₂.heap, slotsUsed := s₂.slotsUsed }
      rw [State.setFrames_self ht]
    subst hg
    refine Or.inr ⟨q, ⟨(({ U with heap := s₂.heap, slotsUsed := s₂.slotsUsed } : State).setVm s₂.vm), Ls ++ L, c0 + mc, s0 + ms⟩,
      ⟨X.admits, X.cas, X.clock, X.frames, X.room, X.hears, X.method, X.code, (X.here.setHeapUsed s₂.heap s₂.slotsUsed).setVm hW'.alike, X.tail, State.WarmedH.trans X.warmed hW', X.limits, X.bytes, X.same.trans (hsame.setVm s.vm)⟩,
      ⟨g, mk, s₂, L, E, ce, rfl, rfl, hx, hce, hcv, hcl, rfl, hL, rfl, rfl⟩, ?_⟩
    show Steps p.tables e below _ (((({ U with heap := s₂.heap, slotsUsed := s₂.slotsUsed } : State).setVm s₂.vm).setTop g).pushFrame (.throwing q))
    rw [← hs₂]
    exact hsteps
end
variable {p : Program} {l : Launch} {e : Env} {R : Room} {s : State} {m : MethodId} {args : Array Value} {below : List Frame} {meth : Method} {c : Code} {T : State} {H : Heap} {locs : List Loc} {cells slots : Nat}
theorem vx_callVX (X : Stand p l e R s m args below meth c T locs cells slots) (hexec : p.tables.exec = Jvm.exec) {own C : String} {index : Nat} {y : MethodName} {bytes : ByteArray} {maxL : Nat} {ret : Option FieldType} {hh : List (Nat × Nat × Nat × Nat)}
    (hown : s.vm.findClass own = some m.cls) (hlink : (Cond.methodLink own index y).before args s = true) (hinst : (Cond.instanceMethod y).before args s = true) (hsel : (Cond.selects C y y).before args s = true)
    (hcode : (Cond.codeWith y bytes maxL ret hh).before args s = true) (hy : y.cls ≠ "java/lang/invoke/MethodHandle" ∧ y.cls ≠ "java/lang/invoke/VarHandle")
    {W9 : Nat} {Pre : Pt → Array Value → Prop} {Post : Pt → Array Value → Option Value → Pt → Prop} {PostX : Pt → Array Value → Addr → Pt → Prop} (hK : vx_Back l R p e below s args y 3 W9 Pre Post PostX)
    {b : Addr} {cellB : Cell} (hcell : T.heap[b]? = some cellB) (hobj : cellB.vm.isStatics = false) (hcls : s.vm.findClass C = some cellB.cls)
    {g : JFrame} (hg : g.method = m) (hsize : g.locals.size = c.maxLocals) {argsL rest : List Value} (hlen : ∀ sig, parseMethodDescriptor y.desc = some sig → argsL.length = sig.parameters.length)
    (hstack : g.stack = argsL.reverse ++ .ref b :: rest) (hW : 2 * g.monitorRoom + (rest.map fun v => v.category).sum ≤ W9) (hdg : decode c.code g.pc = .ok (.invokevirtual index, 3))
    (hpre : ∀ vm₁, s.WarmedH vm₁ → Pre ⟨T.setVm vm₁, locs, cells, slots⟩ (Value.ref b :: argsL).toArray) :
    (∃ (v : Option Value) (vm₁ : Vm) (B : Pt), s.WarmedH vm₁ ∧ Stand p l e R s m args below meth c B.U B.locs B.cells B.slots ∧ Post ⟨T.setVm vm₁, locs, cells, slots⟩ (Value.ref b :: argsL).toArray v B ∧
      ∀ target, Steps p.tables e below (B.U.setTop { g with pc := g.pc + 3, stack := v.toList ++ rest }) target → Steps p.tables e below (T.setTop g) target) ∨
    (∃ (q : Addr) (vm₁ : Vm) (B : Pt), s.WarmedH vm₁ ∧ Stand p l e R s m args below meth c B.U B.locs B.cells B.slots ∧ PostX ⟨T.setVm vm₁, locs, cells, slots⟩ (Value.ref b :: argsL).toArray q B ∧
      Steps p.tables e below (T.setTop g) ((B.U.setTop { g with stack := rest }).pushFrame (.throwing q))) := by
  obtain ⟨mk, methM, hnamed, hmethM, hstM, habM⟩ := Cond.instanceMethod_spec hinst
  obtain ⟨m8, methM', cM, hn8, hmethM', -, -, -, -, -, -, hsigM⟩ := Cond.codeWith_spec hcode
  cases Option.some.inj (hn8.symm.trans hnamed)
  cases hmethM.symm.trans hmethM'
  obtain ⟨c2, r2, m2, q1, q2, q3, q4, kP, hkP, hkPi⟩ := Cond.selects_spec hsel
  cases hcls.symm.trans q1
  cases (State.methodFound?_of_named hnamed hy).symm.trans q2
  cases hnamed.symm.trans q3
  have hselP : selectMethod e.platform s.vm cellB.cls mk = .method mk := by rw [Launch.admits_selectMethod X.admits]; exact q4
  obtain ⟨vm₁, X₁, hstep₁⟩ := X.invokevirtual hexec hown hlink hnamed hmethM hstM hkP hkPi hy (a := b) (cell := cellB) hcell
    (fun z h => by rw [h] at hobj; cases hobj) hselP hmethM habM hkP hkPi (g := g) hg (argsL := argsL) (rest := rest) (hlen _ hsigM) hstack hdg
  rcases hK m meth c ⟨T.setVm vm₁, locs, cells, slots⟩ { g with stack := rest } (.invokevirtual index) mk (Value.ref b :: argsL).toArray X₁ hg hsize hdg hW (X₁.named hnamed) (hpre vm₁ X₁.warmed) with ⟨v, B, X', hpost, hsteps⟩ | ⟨q, B, X', hpost, hsteps⟩
  · exact Or.inl ⟨v, vm₁, B, X₁.warmed, X', hpost, fun target h => hstep₁ _ fun acts => by rw [doInvoke_state]; exact hsteps.trans h⟩
  · exact Or.inr ⟨q, vm₁, B, X₁.warmed, X', hpost, hstep₁ _ fun acts => by rw [doInvoke_state]; exact hsteps⟩
theorem vx_callSX (X : Stand p l e R s m args below meth c T locs cells slots) (hexec : p.tables.exec = Jvm.exec) {own : String} {index : Nat} {y : MethodName} {bytes : ByteArray} {maxL : Nat} {ret : Option FieldType} {hh : List (Nat × Nat × Nat × Nat)}
    (hown : s.vm.findClass own = some m.cls) (hlink : (Cond.methodLink own index y).before args s = true) (hstat : (Cond.static y).before args s = true) (hinit : (Cond.initialized y.cls).before args s = true)
    (hcode : (Cond.codeWith y bytes maxL ret hh).before args s = true) (hy : y.cls ≠ "java/lang/invoke/MethodHandle" ∧ y.cls ≠ "java/lang/invoke/VarHandle")
    {W9 : Nat} {Pre : Pt → Array Value → Prop} {Post : Pt → Array Value → Option Value → Pt → Prop} {PostX : Pt → Array Value → Addr → Pt → Prop} (hK : vx_Back l R p e below s args y 3 W9 Pre Post PostX)
    {g : JFrame} (hg : g.method = m) (hsize : g.locals.size = c.maxLocals) {argsL rest : List Value} (hlen : ∀ sig, parseMethodDescriptor y.desc = some sig → argsL.length = sig.parameters.length)
    (hstack : g.stack = argsL.reverse ++ rest) (hW : 2 * g.monitorRoom + (rest.map fun v => v.category).sum ≤ W9) (hdg : decode c.code g.pc = .ok (.invokestatic index, 3))
    (hpre : ∀ vm₁, s.WarmedH vm₁ → Pre ⟨T.setVm vm₁, locs, cells, slots⟩ argsL.toArray) :
    (∃ (v : Option Value) (vm₁ : Vm) (B : Pt), s.WarmedH vm₁ ∧ Stand p l e R s m args below meth c B.U B.locs B.cells B.slots ∧ Post ⟨T.setVm vm₁, locs, cells, slots⟩ argsL.toArray v B ∧
      ∀ target, Steps p.tables e below (B.U.setTop { g with pc := g.pc + 3, stack := v.toList ++ rest }) target → Steps p.tables e below (T.setTop g) target) ∨
    (∃ (q : Addr) (vm₁ : Vm) (B : Pt), s.WarmedH vm₁ ∧ Stand p l e R s m args below meth c B.U B.locs B.cells B.slots ∧ PostX ⟨T.setVm vm₁, locs, cells, slots⟩ argsL.toArray q B ∧
      Steps p.tables e below (T.setTop g) ((B.U.setTop { g with stack := rest }).pushFrame (.throwing q))) := by
  obtain ⟨mk, methM, cM, hnamed, hmethM, -, -, -, -, -, -, hsigM⟩ := Cond.codeWith_spec hcode
  have hstatic : methM.isStatic = true := Cond.static_spec hnamed hmethM hstat
  obtain ⟨kP, hkP, -⟩ := className_of_methodNamed hnamed
  have hinitP : kP.init = .initialized := Cond.initialized_spec (findClass_of_methodNamed hnamed) hkP hinit
  obtain ⟨vm₁, X₁, hstep₁⟩ := X.invokestatic hexec hown hlink hnamed hmethM hstatic hkP hinitP hy (g := g) hg (argsL := argsL) (rest := rest) (hlen _ hsigM) hstack hdg
  rcases hK m meth c ⟨T.setVm vm₁, locs, cells, slots⟩ { g with stack := rest } (.invokestatic index) mk argsL.toArray X₁ hg hsize hdg hW (X₁.named hnamed) (hpre vm₁ X₁.warmed) with ⟨v, B, X', hpost, hsteps⟩ | ⟨q, B, X', hpost, hsteps⟩
  · exact Or.inl ⟨v, vm₁, B, X₁.warmed, X', hpost, fun target h => hstep₁ _ fun acts => by rw [doInvoke_state]; exact hsteps.trans h⟩
  · exact Or.inr ⟨q, vm₁, B, X₁.warmed, X', hpost, hstep₁ _ fun acts => by rw [doInvoke_state]; exact hsteps⟩
theorem vx_callVW (X : Stand p l e R s m args below meth c T locs cells slots) (hexec : p.tables.exec = Jvm.exec) {own C : String} {index : Nat} {y : MethodName} {bytes : ByteArray} {maxL : Nat} {ret : Option FieldType} {hh : List (Nat × Nat × Nat × Nat)}
    (hown : s.vm.findClass own = some m.cls) (hlink : (Cond.methodLink own index y).before args s = true) (hinst : (Cond.instanceMethod y).before args s = true) (hsel : (Cond.selects C y y).before args s = true)
    (hcode : (Cond.codeWith y bytes maxL ret hh).before args s = true) (hy : y.cls ≠ "java/lang/invoke/MethodHandle" ∧ y.cls ≠ "java/lang/invoke/VarHandle")
    {W9 : Nat} {Pre : Pt → Array Value → Prop} {Post : Pt → Array Value → Option Value → Pt → Prop} (hK : Back l R p e below s args y 3 W9 Pre Post)
    {b : Addr} {cellB : Cell} (hcell : T.heap[b]? = some cellB) (hobj : cellB.vm.isStatics = false) (hcls : s.vm.findClass C = some cellB.cls)
    {g : JFrame} (hg : g.method = m) (hsize : g.locals.size = c.maxLocals) {argsL rest : List Value} (hlen : ∀ sig, parseMethodDescriptor y.desc = some sig → argsL.length = sig.parameters.length)
    (hstack : g.stack = argsL.reverse ++ .ref b :: rest) (hW : 2 * g.monitorRoom + (rest.map fun v => v.category).sum ≤ W9) (hdg : decode c.code g.pc = .ok (.invokevirtual index, 3))
    (hpre : ∀ vm₁, s.WarmedH vm₁ → Pre ⟨T.setVm vm₁, locs, cells, slots⟩ (Value.ref b :: argsL).toArray) :
    ∃ (v : Option Value) (vm₁ : Vm) (B : Pt), s.WarmedH vm₁ ∧ Stand p l e R s m args below meth c B.U B.locs B.cells B.slots ∧ Post ⟨T.setVm vm₁, locs, cells, slots⟩ (Value.ref b :: argsL).toArray v B ∧
      ∀ target, Steps p.tables e below (B.U.setTop { g with pc := g.pc + 3, stack := v.toList ++ rest }) target → Steps p.tables e below (T.setTop g) target := by
  obtain ⟨mk, methM, hnamed, hmethM, hstM, habM⟩ := Cond.instanceMethod_spec hinst
  obtain ⟨m8, methM', cM, hn8, hmethM', -, -, -, -, -, -, hsigM⟩ := Cond.codeWith_spec hcode
  cases Option.some.inj (hn8.symm.trans hnamed)
  cases hmethM.symm.trans hmethM'
  obtain ⟨c2, r2, m2, q1, q2, q3, q4, kP, hkP, hkPi⟩ := Cond.selects_spec hsel
  cases hcls.symm.trans q1
  cases (State.methodFound?_of_named hnamed hy).symm.trans q2
  cases hnamed.symm.trans q3
  have hselP : selectMethod e.platform s.vm cellB.cls mk = .method mk := by rw [Launch.admits_selectMethod X.admits]; exact q4
  obtain ⟨vm₁, X₁, hstep₁⟩ := X.invokevirtual hexec hown hlink hnamed hmethM hstM hkP hkPi hy (a := b) (cell := cellB) hcell
    (fun z h => by rw [h] at hobj; cases hobj) hselP hmethM habM hkP hkPi (g := g) hg (argsL := argsL) (rest := rest) (hlen _ hsigM) hstack hdg
  obtain ⟨v, B, X', hpost, hsteps⟩ := hK m meth c ⟨T.setVm vm₁, locs, cells, slots⟩ { g with stack := rest } (.invokevirtual index) mk (Value.ref b :: argsL).toArray X₁ hg hsize hdg hW (X₁.named hnamed) (hpre vm₁ X₁.warmed)
  exact ⟨v, vm₁, B, X₁.warmed, X', hpost, fun target h => hstep₁ _ fun acts => by rw [doInvoke_state]; exact hsteps.trans h⟩
abbrev vx_CVW (R : Room) (s : State) (args : Array Value) (own C : String) (index : Nat) (y : MethodName) (bytes : ByteArray) (maxL : Nat) (ret : Option FieldType) (hh : List (Nat × Nat × Nat × Nat)) (ws : List Cond) (rm : Room) (mc ms n : Nat) : Prop :=
  (rm.cells = mc ∧ rm.slots = ms ∧ rm.frames + 1 ≤ R.frames ∧ 8 + (maxL + 11) + rm.locals ≤ R.locals ∧ (∀ w ∈ ws, ∀ (a' : Array Value) (U : State), s.WarmedH U.vm → w.before a' U = true) ∧ Cond.codeWith y bytes maxL ret hh ∈ ws) ∧
  (Cond.codeWith y bytes maxL ret hh).before args s = true ∧ (Cond.initialized y.cls).before args s = true ∧ (y.cls ≠ "java/lang/invoke/MethodHandle" ∧ y.cls ≠ "java/lang/invoke/VarHandle") ∧
  (∀ sig, parseMethodDescriptor y.desc = some sig → n = sig.parameters.length) ∧ (Cond.methodLink own index y).before args s = true ∧ (Cond.instanceMethod y).before args s = true ∧ (Cond.selects C y y).before args s = true
theorem vx_cwVW {own C : String} {index maxL mc ms : Nat} {y : MethodName} {bytes : ByteArray} {ret : Option FieldType} {hh : List (Nat × Nat × Nat × Nat)} {Ts ws ws' : List Cond} {rm : Room} (n : Nat) (ht : ∀ w ∈ Ts, w.before args s = true) (hT : GoodIn Ts (wsV own index C y ws)) (hw : ws = Cond.codeWith y bytes maxL ret hh :: ws') (hrc : rm.cells = mc) (hrs : rm.slots = ms)
    (hd : y.cls = C ∧ y.cls ≠ "java/lang/invoke/MethodHandle" ∧ y.cls ≠ "java/lang/invoke/VarHandle" ∧ (parseMethodDescriptor y.desc).map (fun d => d.parameters.length) = some n) (hR : rm.frames + 1 ≤ R.frames ∧ 8 + (maxL + 11) + rm.locals ≤ R.locals) :
    vx_CVW R s args own C index y bytes maxL ret hh ws rm mc ms n := by
  obtain ⟨hC, hd⟩ := hd
  subst hC
  have ok : ∀ w ∈ wsV own index y.cls y ws, w.before args s = true := fun w h => ht w (hT w h).1
  have hG : GoodIn Ts ws := fun w h => hT w (by unfold wsV; exact List.mem_append_right _ h)
  have hc : Cond.codeWith y bytes maxL ret hh ∈ ws := by rw [hw]; exact List.mem_cons_self
  refine ⟨⟨hrc, hrs, hR.1, hR.2, pay_in ht hG, hc⟩, ht _ (hG _ hc).1, ok _ (by simp [wsV]), ⟨hd.1, hd.2.1⟩, fun sig h => ?_, ok _ (by simp [wsV]), ok _ (by simp [wsV]), ok _ (by simp [wsV])⟩
  have h2 := hd.2.2
  rw [h] at h2
  exact (Option.some.inj h2).symm
theorem vx_runVW {y : MethodName} {bytes cc : ByteArray} {maxL nL mc ms n index : Nat} {ret : Option FieldType} {hh : List (Nat × Nat × Nat × Nat)} {ws : List Cond} {rm : Room} {Pc : Array Value → State → Prop} {Qc : Array Value → State → Outcome → State → Prop} {free : Addr → Prop} {Ts : List Cond} {own C : String} {b : Addr} {As rest : List Value} {g : JFrame}
    (S : CallFix p m c cc nL s args Ts own) (hM : Met l y ws rm Pc Qc mc ms free) (cw : vx_CVW R s args own C index y bytes maxL ret hh ws rm mc ms n) (hp : PreV s H C b Pc As)
    (hg : g.method = m) (hn : As.length = n) (hsize : g.locals.size = nL) (hstack : g.stack = As.reverse ++ .ref b :: rest) (hW : 2 * g.monitorRoom + (rest.map fun v => v.category).sum ≤ 8) (hdg : decode cc g.pc = .ok (.invokevirtual index, 3)) (hf : cells + mc ≤ R.cells ∧ slots + ms ≤ R.slots) :
    va_Run p l e R s m args below meth c H locs cells slots mc ms g rest (Qc (Value.ref b :: As).toArray) free := by
  obtain ⟨⟨hrc, hrs, hfr, hlo, hws, hcw⟩, hcode, hini, hy, hlen, hl, hin, hse⟩ := cw
  have hK : Back l R p e below s args y 3 8 (PreOf R mc ms Pc) (PostOf Qc mc ms free) := va_backW (hh := hh) (bytes := bytes) (maxL := maxL) (ret := ret) hM hp.1 hrc hrs hfr hlo hws hcw (fun a' U hW => word_at hW (Or.inl (by first | rfl | simp [Cond.onTables, Cond.keeps, Cond.steady])) hini)
  obtain ⟨hx, hb, hml, ho, -⟩ := S
  obtain ⟨-, ⟨cellB, hcB, hoB, hclB⟩, hPc⟩ := hp
  intro T hT X
  obtain ⟨v, vm₁, ⟨U', l2, c2, s2⟩, hW₁, X', ⟨g', mk, t, L, e1, e2, hq, h1, hL, h2, h3⟩, st⟩ := vx_callVW X hx (C := C) (hh := hh) (bytes := bytes) (maxL := maxL) (ret := ret) ho hl hin hse hcode hy hK (by rw [hT]; exact hcB) hoB hclB hg (hsize.trans hml.symm) (argsL := As) (rest := rest) (fun sig h => hn.trans (hlen sig h)) hstack hW (by rw [hb]; exact hdg)
    (fun vm₁ hW₁ => ⟨hf.1, hf.2, hPc (T.setVm vm₁) hT hW₁⟩)
  dsimp only [Pt.U, Pt.locs, Pt.cells, Pt.slots] at X' e1 e2 h1 h2 h3 st
  subst h1; subst h2; subst h3
  exact ⟨v, (T.setVm vm₁).calling g' mk (Value.ref b :: As).toArray, t, U', L, hT, X', hL, e1, e2, hq, st⟩
section
variable {y : MethodName} {bytes cc : ByteArray} {maxL nL mc ms n index : Nat} {ret : Option FieldType} {ws : List Cond} {rm : Room} {Pc : Array Value → State → Prop} {Qc : Array Value → State → Outcome → State → Prop} {XC : String → State → State → Prop} {free : Addr → Prop} {Ts : List Cond} {own C : String} {b : Addr} {As rest : List Value} {g : JFrame}
theorem vx_runVX {hh : List (Nat × Nat × Nat × Nat)} (S : CallFix p m c cc nL s args Ts own) (hM : vx_Met l y ws rm Pc Qc XC mc ms free) (cw : vx_CVW R s args own C index y bytes maxL ret hh ws rm mc ms n) (hp : PreV s H C b Pc As)
    (hg : g.method = m) (hn : As.length = n) (hsize : g.locals.size = nL) (hstack : g.stack = As.reverse ++ .ref b :: rest) (hW : 2 * g.monitorRoom + (rest.map fun v => v.category).sum ≤ 8) (hdg : decode cc g.pc = .ok (.invokevirtual index, 3)) (hf : cells + mc ≤ R.cells ∧ slots + ms ≤ R.slots) :
    vx_Run p l e R s m args below meth c H locs cells slots mc ms g rest (Qc (Value.ref b :: As).toArray) XC free := by
  obtain ⟨⟨hrc, hrs, hfr, hlo, hws, hcw⟩, hcode, hini, hy, hlen, hl, hin, hse⟩ := cw
  have hK : vx_Back l R p e below s args y 3 8 (PreOf R mc ms Pc) (PostOf Qc mc ms free) (vx_Post XC mc ms free) := vx_backW (hh := hh) (bytes := bytes) (maxL := maxL) (ret := ret) hM hp.1 hrc hrs hfr hlo hws hcw (fun a' U hW => word_at hW (Or.inl (by first | rfl | simp [Cond.onTables, Cond.keeps, Cond.steady])) hini)
  obtain ⟨hx, hb, hml, ho, -⟩ := S
  obtain ⟨-, ⟨cellB, hcB, hoB, hclB⟩, hPc⟩ := hp
  intro T hT X
  rcases vx_callVX X hx (C := C) (hh := hh) (bytes := bytes) (maxL := maxL) (ret := ret) ho hl hin hse hcode hy hK (by rw [hT]; exact hcB) hoB hclB hg (hsize.trans hml.symm) (argsL := As) (rest := rest) (fun sig h => hn.trans (hlen sig h)) hstack hW (by rw [hb]; exact hdg)
    (fun vm₁ hW₁ => ⟨hf.1, hf.2, hPc (T.setVm vm₁) hT hW₁⟩) with ⟨v, vm₁, ⟨U', l2, c2, s2⟩, hW₁, X', ⟨g', mk, t, L, e1, e2, hq, h1, hL, h2, h3⟩, st⟩ | ⟨q, vm₁, ⟨U', l2, c2, s2⟩, hW₁, X', ⟨g', mk, t, L, E, ce, e1, e2, hq, hce, hcv, hcl, h1, hL, h2, h3⟩, st⟩
  · dsimp only [Pt.U, Pt.locs, Pt.cells, Pt.slots] at X' e1 e2 h1 h2 h3 st
    subst h1; subst h2; subst h3
    exact Or.inl ⟨v, (T.setVm vm₁).calling g' mk (Value.ref b :: As).toArray, t, U', L, hT, X', hL, e1, e2, hq, st⟩
  · dsimp only [Pt.U, Pt.locs, Pt.cells, Pt.slots] at X' e1 e2 h1 h2 h3 st hcl
    subst h1; subst h2; subst h3
    exact Or.inr ⟨q, (T.setVm vm₁).calling g' mk (Value.ref b :: As).toArray, t, U', L, E, ce, hT, X', hL, e1, e2, hq, hce, hcv, vx_cls hW₁ hcl, st⟩
theorem vx_runSX {hh : List (Nat × Nat × Nat × Nat)} (S : CallFix p m c cc nL s args Ts own) (hM : vx_Met l y ws rm Pc Qc XC mc ms free) (cw : vx_CSW R s args own index y bytes maxL ret hh ws rm mc ms n) (hp : PreS s H Pc As)
    (hg : g.method = m) (hn : As.length = n) (hsize : g.locals.size = nL) (hstack : g.stack = As.reverse ++ rest) (hW : 2 * g.monitorRoom + (rest.map fun v => v.category).sum ≤ 8) (hdg : decode cc g.pc = .ok (.invokestatic index, 3)) (hf : cells + mc ≤ R.cells ∧ slots + ms ≤ R.slots) :
    vx_Run p l e R s m args below meth c H locs cells slots mc ms g rest (Qc As.toArray) XC free := by
  obtain ⟨⟨hrc, hrs, hfr, hlo, hws, hcw⟩, hcode, hini, hy, hlen, hl, hstt⟩ := cw
  have hK : vx_Back l R p e below s args y 3 8 (PreOf R mc ms Pc) (PostOf Qc mc ms free) (vx_Post XC mc ms free) := vx_backW (hh := hh) (bytes := bytes) (maxL := maxL) (ret := ret) hM hp.1 hrc hrs hfr hlo hws hcw (fun a' U hW => word_at hW (Or.inl (by first | rfl | simp [Cond.onTables, Cond.keeps, Cond.steady])) hini)
  obtain ⟨hx, hb, hml, ho, -⟩ := S
  intro T hT X
  rcases vx_callSX X hx (hh := hh) (bytes := bytes) (maxL := maxL) (ret := ret) ho hl hstt hini hcode hy hK hg (hsize.trans hml.symm) (argsL := As) (rest := rest) (fun sig h => hn.trans (hlen sig h)) hstack hW (by rw [hb]; exact hdg)
    (fun vm₁ hW₁ => ⟨hf.1, hf.2, hp.2 (T.setVm vm₁) hT hW₁⟩) with ⟨v, vm₁, ⟨U', l2, c2, s2⟩, hW₁, X', ⟨g', mk, t, L, e1, e2, hq, h1, hL, h2, h3⟩, st⟩ | ⟨q, vm₁, ⟨U', l2, c2, s2⟩, hW₁, X', ⟨g', mk, t, L, E, ce, e1, e2, hq, hce, hcv, hcl, h1, hL, h2, h3⟩, st⟩
  · dsimp only [Pt.U, Pt.locs, Pt.cells, Pt.slots] at X' e1 e2 h1 h2 h3 st
    subst h1; subst h2; subst h3
    exact Or.inl ⟨v, (T.setVm vm₁).calling g' mk As.toArray, t, U', L, hT, X', hL, e1, e2, hq, st⟩
  · dsimp only [Pt.U, Pt.locs, Pt.cells, Pt.slots] at X' e1 e2 h1 h2 h3 st hcl
    subst h1; subst h2; subst h3
    exact Or.inr ⟨q, (T.setVm vm₁).calling g' mk As.toArray, t, U', L, E, ce, hT, X', hL, e1, e2, hq, hce, hcv, vx_cls hW₁ hcl, st⟩
end
end VXH
theorem vx_ofWH {l : Launch} {y : MethodName} {ws ws' : List Cond} {rm : Room} {Pc : Array Value → State → Prop} {Qc : Array Value → State → Outcome → State → Prop} {XC : String → State → State → Prop} {mc ms : Nat} {free : Addr → Prop} {cc : ByteArray} {maxL : Nat} {ret : Option FieldType} {hh : List (Nat × Nat × Nat × Nat)}
    (hy : plainName y.cls = true) (hw : ws = Cond.codeWith y cc maxL ret hh :: ws')
    (body : ∀ p e s m args below meth c s₁, BodyLoose p l y (headSpec ws rm) cc maxL ret e s m args below meth c s₁ → c.maxLocals = maxL → Pc args s →
      W p l e (headSpec ws rm).room s m args below meth c s.heap [] 0 0 (vx_MQ below Qc XC args s mc ms free) (entryFrame m args maxL)) : vx_Met l y ws rm Pc Qc XC mc ms free := by
  refine MetFree.of_bodyS (code := cc) (maxLocals := maxL) (ret := ret) hy ?_ ?_
  · intro args s m h hn
    obtain ⟨m9, meth, c, hn9, h1, h2, h3, h4, -, h5, h6, -⟩ := Cond.codeWith_spec (atoms_spec (ws := ws) h _ (by rw [hw]; exact List.mem_cons_self))
    cases hn.symm.trans hn9
    exact ⟨meth, c, h1, h2, h3, h4, h5, h6⟩
  · intro p e s m args below meth c s₁ B hml hP _
    have hh0 : s₁.heap = s.heap := by rw [B.state]; rfl
    obtain ⟨t, a1, o, b1, b2, b3⟩ := body p e s m args below meth c s₁ B hml hP s₁ hh0 (Stand.of_body B)
    exact ⟨t, o, a1, b1, b2, b3⟩
/-! ===== END ===== -/
end
section
/-! THE SMALL MACHINE: one frame's instructions over numbers, with a memory by cells; its calls go to a relation O -/
abbrev ma_V := Int ⊕ Int ⊕ (Nat × Int) ⊕ UInt64 ⊕ UInt32 ⊕ Nat ⊕ Unit
abbrev ma_I (n : Int) : ma_V := .inl n
abbrev ma_L (n : Int) : ma_V := .inr (.inl n)
abbrev ma_Rf (k : Nat) (r : Int) : ma_V := .inr (.inr (.inl (k, r)))
abbrev ma_D (b : UInt64) : ma_V := .inr (.inr (.inr (.inl b)))
abbrev ma_F (b : UInt32) : ma_V := .inr (.inr (.inr (.inr (.inl b))))
abbrev ma_X (e : Nat) : ma_V := .inr (.inr (.inr (.inr (.inr (.inl e)))))
abbrev ma_U : ma_V := .inr (.inr (.inr (.inr (.inr (.inr ())))))
/-- memory: cell, row, place -/
abbrev ma_M := Nat → Int → Int → Int
/-- a method's end: an answer or none, or the number of a thrown class -/
abbrev ma_R := Option ma_V ⊕ Nat
/-- what a call may rely on: it comes to an end that the last argument holds of -/
abbrev ma_O := Nat → List ma_V → ma_M → (ma_R → ma_M → Prop) → Prop
def ma_c2 : ma_V → Bool
  | .inr (.inl _) => true
  | .inr (.inr (.inr (.inl _))) => true
  | _ => false
def ma_up (μ : ma_M) (k : Nat) (r i v : Int) : ma_M := fun k' r' i' => if k' = k ∧ r' = r ∧ i' = i then v else μ k' r' i'
def ma_cpy (μ : ma_M) (k1 : Nat) (r1 sp : Int) (k2 : Nat) (r2 dp n : Int) : ma_M := fun k' r' i' => if k' = k2 ∧ r' = r2 ∧ dp ≤ i' ∧ i' < dp + n then μ k1 r1 (sp + (i' - dp)) else μ k' r' i'
def ma_wI (n : Int) : Int := Int.bmod n 4294967296
def ma_wL (n : Int) : Int := Int.bmod n 18446744073709551616
def ma_and (x y : Int) : Int := (Int32.ofInt x &&& Int32.ofInt y).toInt
def ma_or (x y : Int) : Int := (Int32.ofInt x ||| Int32.ofInt y).toInt
def ma_xor (x y : Int) : Int := (Int32.ofInt x ^^^ Int32.ofInt y).toInt
def ma_shl (x y : Int) : Int := (Int32.ofInt x <<< (Int32.ofInt y &&& 31)).toInt
def ma_shr (x y : Int) : Int := (Int32.ofInt x >>> (Int32.ofInt y &&& 31)).toInt
def ma_ushr (x y : Int) : Int := (((Int32.ofInt x).toUInt32 >>> ((Int32.ofInt y).toUInt32 &&& Int32.toUInt32 31)).toInt32).toInt
def ma_land (x y : Int) : Int := (Int64.ofInt x &&& Int64.ofInt y).toInt
def ma_lor (x y : Int) : Int := (Int64.ofInt x ||| Int64.ofInt y).toInt
def ma_lxor (x y : Int) : Int := (Int64.ofInt x ^^^ Int64.ofInt y).toInt
def ma_lshl (x y : Int) : Int := (Int64.ofInt x <<< ((Int32.ofInt y).toInt64 &&& 63)).toInt
def ma_lshr (x y : Int) : Int := (Int64.ofInt x >>> ((Int32.ofInt y).toInt64 &&& 63)).toInt
def ma_lushr (x y : Int) : Int := (((Int64.ofInt x).toUInt64 >>> ((Int32.ofInt y).toInt64.toUInt64 &&& Int64.toUInt64 63)).toInt64).toInt
def ma_st1 : List ma_V → Nat → ma_V → List ma_V
  | [], _, _ => []
  | _ :: ls, 0, v => v :: ls
  | x :: ls, 1, v => (match ma_c2 x with | true => ma_U | false => x) :: ma_st1 ls 0 v
  | x :: ls, n + 2, v => x :: ma_st1 ls (n + 1) v
def ma_st2 : List ma_V → Nat → ma_V → List ma_V
  | _ :: _ :: ls, 0, v => v :: ma_U :: ls
  | x :: ls, 1, v => (match ma_c2 x with | true => ma_U | false => x) :: ma_st2 ls 0 v
  | x :: ls, n + 2, v => x :: ma_st2 ls (n + 1) v
  | _, _, _ => []
/-- the dead locals are forgotten -/
def ma_msk : List Bool → List ma_V → List ma_V
  | true :: bs, v :: ls => v :: ma_msk bs ls
  | false :: bs, _ :: ls => ma_U :: ma_msk bs ls
  | _, _ => []
/-- the arguments of a call: the n topmost, in their order; and what is left -/
def ma_pop : Nat → List ma_V → List ma_V → Option (List ma_V × List ma_V)
  | 0, st, acc => some (acc, st)
  | n + 1, v :: st, acc => ma_pop n st (v :: acc)
  | _ + 1, [], _ => none
def ma_slots : List ma_V → List ma_V
  | [] => []
  | v :: vs => match ma_c2 v with | true => v :: ma_U :: ma_slots vs | false => v :: ma_slots vs
def ma_entry (n : Nat) (as : List ma_V) : List ma_V := ma_slots as ++ List.replicate (n - (ma_slots as).length) ma_U
def ma_r32 (n : Int) : Prop := -2147483648 ≤ n ∧ n < 2147483648
/-- what lies on the stack, by kinds -/
def ma_pI (st : List ma_V) (f : Int → List ma_V → Prop) : Prop := match st with | .inl n :: st => f n st | _ => False
def ma_pL (st : List ma_V) (f : Int → List ma_V → Prop) : Prop := match st with | .inr (.inl n) :: st => f n st | _ => False
def ma_pR (st : List ma_V) (f : Nat → Int → List ma_V → Prop) : Prop := match st with | .inr (.inr (.inl a)) :: st => f a.1 a.2 st | _ => False
def ma_pD (st : List ma_V) (f : UInt64 → List ma_V → Prop) : Prop := match st with | .inr (.inr (.inr (.inl n))) :: st => f n st | _ => False
def ma_pF (st : List ma_V) (f : UInt32 → List ma_V → Prop) : Prop := match st with | .inr (.inr (.inr (.inr (.inl n)))) :: st => f n st | _ => False
def ma_pA (st : List ma_V) (f : ma_V → List ma_V → Prop) : Prop := match st with | v :: st => ma_c2 v = false ∧ v ≠ ma_U ∧ f v st | _ => False
def ma_p0 (st : List ma_V) (f : Prop) : Prop := match st with | [] => f | _ => False
def ma_gI (v : ma_V) (f : Int → Prop) : Prop := match v with | .inl n => f n | _ => False
def ma_gL (v : ma_V) (f : Int → Prop) : Prop := match v with | .inr (.inl n) => f n | _ => False
def ma_gR (v : ma_V) (f : Nat → Int → Prop) : Prop := match v with | .inr (.inr (.inl a)) => f a.1 a.2 | _ => False
def ma_gD (v : ma_V) (f : UInt64 → Prop) : Prop := match v with | .inr (.inr (.inr (.inl n))) => f n | _ => False
def ma_gF (v : ma_V) (f : UInt32 → Prop) : Prop := match v with | .inr (.inr (.inr (.inr (.inl n)))) => f n | _ => False
def ma_cmp (c : Jvm.ClassFile.Cond) (x y : Int) : Prop := match c with
  | .eq => x = y
  | .ne => ¬ x = y
  | .lt => x < y
  | .ge => y ≤ x
  | .gt => y < x
  | .le => x ≤ y
/-- which handler takes an exception: from, to, handler, class -/
def ma_catch : List (Nat × Nat × Nat × Nat) → Nat → Nat → Option Nat
  | [], _, _ => none
  | (f, t, h, c) :: hh, pc, e => if f ≤ pc ∧ pc < t ∧ c = e then some h else ma_catch hh pc e
def ma_tgt (pc : Nat) (off : Int) : Nat := ((pc : Int) + off).toNat
/-- an instruction: its length, itself, two numbers that the tables say of it -/
abbrev ma_AI := Nat × Instr × Nat × Int
/-- what a body knows: the script's length, its handlers, the kind of its answer (0 none, 1 int, 2 boolean, 3 char, 4 long, 5 float, 6 double), how many cells it may make -/
abbrev ma_E := Nat × List (Nat × Nat × Nat × Nat) × Nat × Nat
/-- a cell's length: the script's is LS -/
def ma_len (LS k : Nat) : Nat := if k = 0 then LS else (ma_ck k).2.1
/-- a place of an array -/
def ma_in (LS k : Nat) (i : Int) : Prop := 0 ≤ i ∧ i < (ma_len LS k : Int)
def ma_resI (n : Nat) (v : Int) : Prop := n = 1 ∨ (n = 2 ∧ (v = 0 ∨ v = 1)) ∨ (n = 3 ∧ 0 ≤ v ∧ v < 65536)
abbrev ma_K := List ma_V → List ma_V → Nat → ma_M → Prop
abbrev ma_J := Nat → List ma_V → List ma_V → Nat → ma_M → Prop
abbrev ma_Dn := ma_R → Nat → ma_M → Prop
/-- behind a call -/
def ma_cont (E : ma_E) (pc : Nat) (ls rest : List ma_V) (k : Nat) (K : ma_K) (J : ma_J) (D : ma_Dn) (r : ma_R) (μ' : ma_M) : Prop := match r with
  | .inl none => K ls rest k μ'
  | .inl (some v) => K ls (v :: rest) k μ'
  | .inr e => match ma_catch E.2.1 pc e with
    | some h => J h ls [ma_X e] k μ'
    | none => D (.inr e) k μ'
def ma_call (O : ma_O) (E : ma_E) (pc : Nat) (ls : List ma_V) (y : Nat) (as rest : List ma_V) (k : Nat) (μ : ma_M) (K : ma_K) (J : ma_J) (D : ma_Dn) : Prop :=
  rest.length ≤ 4 ∧ k + ma_wc y ≤ E.2.2.2 ∧ O y as μ (ma_cont E pc ls rest (k + ma_wc y) K J D)
def ma_step (O : ma_O) (E : ma_E) (ins : Instr) (p : Nat) (q : Int) (pc : Nat) (ls st : List ma_V) (k : Nat) (μ : ma_M) (K : ma_K) (J : ma_J) (D : ma_Dn) : Prop :=
  match ins with
  | .iload_n i => ma_gI (ls.getD i.val ma_U) fun n => K ls (ma_I n :: st) k μ
  | .iload i => ma_gI (ls.getD i ma_U) fun n => K ls (ma_I n :: st) k μ
  | .lload_n i => ma_gL (ls.getD i.val ma_U) fun n => K ls (ma_L n :: st) k μ
  | .lload i => ma_gL (ls.getD i ma_U) fun n => K ls (ma_L n :: st) k μ
  | .aload_n i => ma_gR (ls.getD i.val ma_U) fun a r => K ls (ma_Rf a r :: st) k μ
  | .aload i => ma_gR (ls.getD i ma_U) fun a r => K ls (ma_Rf a r :: st) k μ
  | .dload_n i => ma_gD (ls.getD i.val ma_U) fun b => K ls (ma_D b :: st) k μ
  | .dload i => ma_gD (ls.getD i ma_U) fun b => K ls (ma_D b :: st) k μ
  | .fload i => ma_gF (ls.getD i ma_U) fun b => K ls (ma_F b :: st) k μ
  | .istore_n i => ma_pI st fun n st => i.val < ls.length ∧ K (ma_st1 ls i.val (ma_I n)) st k μ
  | .istore i => ma_pI st fun n st => i < ls.length ∧ K (ma_st1 ls i (ma_I n)) st k μ
  | .lstore_n i => ma_pL st fun n st => i.val + 1 < ls.length ∧ K (ma_st2 ls i.val (ma_L n)) st k μ
  | .lstore i => ma_pL st fun n st => i + 1 < ls.length ∧ K (ma_st2 ls i (ma_L n)) st k μ
  | .dstore_n i => ma_pD st fun b st => i.val + 1 < ls.length ∧ K (ma_st2 ls i.val (ma_D b)) st k μ
  | .dstore i => ma_pD st fun b st => i + 1 < ls.length ∧ K (ma_st2 ls i (ma_D b)) st k μ
  | .fstore i => ma_pF st fun b st => i < ls.length ∧ K (ma_st1 ls i (ma_F b)) st k μ
  | .astore_n i => match st with
    | .inr (.inr (.inl a)) :: st => i.val < ls.length ∧ K (ma_st1 ls i.val (ma_Rf a.1 a.2)) st k μ
    | .inr (.inr (.inr (.inr (.inr (.inl e))))) :: st => i.val < ls.length ∧ K (ma_st1 ls i.val (ma_X e)) st k μ
    | _ => False
  | .astore i => match st with
    | .inr (.inr (.inl a)) :: st => i < ls.length ∧ K (ma_st1 ls i (ma_Rf a.1 a.2)) st k μ
    | .inr (.inr (.inr (.inr (.inr (.inl e))))) :: st => i < ls.length ∧ K (ma_st1 ls i (ma_X e)) st k μ
    | _ => False
  | .iconst _ => K ls (ma_I q :: st) k μ
  | .bipush _ => K ls (ma_I q :: st) k μ
  | .sipush _ => K ls (ma_I q :: st) k μ
  | .lconst _ => K ls (ma_L q :: st) k μ
  | .dconst n => K ls (ma_D (if n.val = 0 then 0 else 4607182418800017408) :: st) k μ
  | .fconst n => K ls (ma_F (if n.val = 0 then 0 else if n.val = 1 then 1065353216 else 1073741824) :: st) k μ
  | .ldc _ => if p = 0 then K ls (ma_I q :: st) k μ else K ls (ma_F (UInt32.ofNat q.toNat) :: st) k μ
  | .ldc_w _ => if p = 0 then K ls (ma_I q :: st) k μ else K ls (ma_F (UInt32.ofNat q.toNat) :: st) k μ
  | .ldc2_w _ => if p = 0 then K ls (ma_L q :: st) k μ else K ls (ma_D (UInt64.ofNat q.toNat) :: st) k μ
  | .iadd => ma_pI st fun y st => ma_pI st fun x st => if p = 1 then K ls (ma_I (ma_wI (x + y)) :: st) k μ else ma_r32 (x + y) ∧ K ls (ma_I (x + y) :: st) k μ
  | .isub => ma_pI st fun y st => ma_pI st fun x st => ma_r32 (x - y) ∧ K ls (ma_I (x - y) :: st) k μ
  | .imul => ma_pI st fun y st => ma_pI st fun x st => if p = 1 then K ls (ma_I (ma_wI (x * y)) :: st) k μ else ma_r32 (x * y) ∧ K ls (ma_I (x * y) :: st) k μ
  | .idiv => ma_pI st fun y st => ma_pI st fun x st => y ≠ 0 ∧ ma_r32 (x.tdiv y) ∧ K ls (ma_I (x.tdiv y) :: st) k μ
  | .irem => ma_pI st fun y st => ma_pI st fun x st => y ≠ 0 ∧ K ls (ma_I (x.tmod y) :: st) k μ
  | .iand => ma_pI st fun y st => ma_pI st fun x st => K ls (ma_I (ma_and x y) :: st) k μ
  | .ior => ma_pI st fun y st => ma_pI st fun x st => K ls (ma_I (ma_or x y) :: st) k μ
  | .ixor => ma_pI st fun y st => ma_pI st fun x st => K ls (ma_I (ma_xor x y) :: st) k μ
  | .ishl => ma_pI st fun y st => ma_pI st fun x st => K ls (ma_I (ma_shl x y) :: st) k μ
  | .ishr => ma_pI st fun y st => ma_pI st fun x st => K ls (ma_I (ma_shr x y) :: st) k μ
  | .iushr => ma_pI st fun y st => ma_pI st fun x st => K ls (ma_I (ma_ushr x y) :: st) k μ
  | .ladd => ma_pL st fun y st => ma_pL st fun x st => K ls (ma_L (ma_wL (x + y)) :: st) k μ
  | .lsub => ma_pL st fun y st => ma_pL st fun x st => K ls (ma_L (ma_wL (x - y)) :: st) k μ
  | .lmul => ma_pL st fun y st => ma_pL st fun x st => K ls (ma_L (ma_wL (x * y)) :: st) k μ
  | .ldiv => ma_pL st fun y st => ma_pL st fun x st => y ≠ 0 ∧ K ls (ma_L (ma_wL (x.tdiv y)) :: st) k μ
  | .lrem => ma_pL st fun y st => ma_pL st fun x st => y ≠ 0 ∧ K ls (ma_L (x.tmod y) :: st) k μ
  | .land => ma_pL st fun y st => ma_pL st fun x st => K ls (ma_L (ma_land x y) :: st) k μ
  | .lor => ma_pL st fun y st => ma_pL st fun x st => K ls (ma_L (ma_lor x y) :: st) k μ
  | .lshl => ma_pI st fun y st => ma_pL st fun x st => K ls (ma_L (ma_lshl x y) :: st) k μ
  | .lshr => ma_pI st fun y st => ma_pL st fun x st => K ls (ma_L (ma_lshr x y) :: st) k μ
  | .lushr => ma_pI st fun y st => ma_pL st fun x st => K ls (ma_L (ma_lushr x y) :: st) k μ
  | .i2l => ma_pI st fun x st => K ls (ma_L x :: st) k μ
  | .l2i => ma_pL st fun x st => K ls (ma_I (ma_wI x) :: st) k μ
  | .i2c => ma_pI st fun x st => K ls (ma_I (x % 65536) :: st) k μ
  | .i2d => ma_pI st fun x st => K ls (ma_D (FP.i2d (Int32.ofInt x)) :: st) k μ
  | .i2f => ma_pI st fun x st => K ls (ma_F (FP.i2f (Int32.ofInt x)) :: st) k μ
  | .f2d => ma_pF st fun x st => vf_n64 (FP.f2d x) ∧ K ls (ma_D (FP.f2d x) :: st) k μ
  | .ddiv => ma_pD st fun y st => ma_pD st fun x st => vf_n64 (FP.ddiv x y) ∧ K ls (ma_D (FP.ddiv x y) :: st) k μ
  | .fdiv => ma_pF st fun y st => ma_pF st fun x st => vf_n32 (FP.fdiv x y) ∧ K ls (ma_F (FP.fdiv x y) :: st) k μ
  | .lcmp => ma_pL st fun y st => ma_pL st fun x st => K ls (ma_I (if y < x then 1 else if x = y then 0 else -1) :: st) k μ
  | .dcmp op => ma_pD st fun y st => ma_pD st fun x st => K ls (ma_I (Op.cmpValue (FP.dcmp x y) op).toInt :: st) k μ
  | .fcmp op => ma_pF st fun y st => ma_pF st fun x st => K ls (ma_I (Op.cmpValue (FP.fcmp x y) op).toInt :: st) k μ
  | .dup => ma_pA st fun v st => K ls (v :: v :: st) k μ
  | .pop => ma_pA st fun _ st => K ls st k μ
  | .dup_x1 => ma_pA st fun v st => ma_pA st fun w st => K ls (v :: w :: v :: st) k μ
  | .dup2 => ma_pA st fun v st => ma_pA st fun w st => K ls (v :: w :: v :: w :: st) k μ
  | .iinc i c => ma_gI (ls.getD i ma_U) fun n => ma_r32 (n + c) ∧ K (ma_st1 ls i (ma_I (n + c))) st k μ
  | .goto off => J (ma_tgt pc off) ls st k μ
  | .ifCond c off => ma_pI st fun x st => (ma_cmp c x 0 → J (ma_tgt pc off) ls st k μ) ∧ (¬ ma_cmp c x 0 → K ls st k μ)
  | .if_icmp c off => ma_pI st fun y st => ma_pI st fun x st => (ma_cmp c x y → J (ma_tgt pc off) ls st k μ) ∧ (¬ ma_cmp c x y → K ls st k μ)
  | .tableswitch d lo hi offs => ma_pI st fun x st => ((x < lo ∨ hi < x) → J (ma_tgt pc d) ls st k μ) ∧ (¬ (x < lo ∨ hi < x) → ∃ off, offs[(x - lo).toNat]? = some off ∧ J (ma_tgt pc off) ls st k μ)
  | .getfield _ => ma_pR st fun a r st => (ma_ck a).1 = 10 + p ∧ (match ma_fk p q.toNat with
      | 0 => K ls (ma_I (μ a r q) :: st) k μ
      | 1 => K ls (ma_L (μ a r q) :: st) k μ
      | 2 => K ls (ma_I (μ a r q) :: st) k μ
      | 3 => K ls (ma_Rf (ma_rf a q.toNat) 0 :: st) k μ
      | 4 => K ls (ma_Rf (μ a r q).toNat 0 :: st) k μ
      | _ => False)
  | .putfield _ => match st with
    | .inl v :: .inr (.inr (.inl a)) :: st => (ma_ck a.1).1 = 10 + p ∧ (ma_fk p q.toNat = 0 ∨ (ma_fk p q.toNat = 2 ∧ (v = 0 ∨ v = 1))) ∧ K ls st k (ma_up μ a.1 a.2 q v)
    | .inr (.inl v) :: .inr (.inr (.inl a)) :: st => (ma_ck a.1).1 = 10 + p ∧ ma_fk p q.toNat = 1 ∧ K ls st k (ma_up μ a.1 a.2 q v)
    | .inr (.inr (.inl b)) :: .inr (.inr (.inl a)) :: st => (ma_ck a.1).1 = 10 + p ∧ ma_fk p q.toNat = 4 ∧ (ma_ck b.1).1 = 2 ∧ b.2 = 0 ∧ K ls st k (ma_up μ a.1 a.2 q b.1)
    | _ => False
  | .getstatic _ => K ls (ma_Rf 1 0 :: st) k μ
  | .arraylength => ma_pR st fun a _ st => ((ma_ck a).1 ≤ 4 ∨ (ma_ck a).1 = 8) ∧ K ls (ma_I (ma_len E.1 a : Int) :: st) k μ
  | .iaload => ma_pI st fun i st => ma_pR st fun a r st => ma_in E.1 a i ∧ (((ma_ck a).1 = 0 ∨ (ma_ck a).1 = 7) ∧ K ls (ma_I (μ a r i) :: st) k μ ∨ (ma_ck a).1 = 8 ∧ (ma_r32 (μ a r i) → K ls (ma_I (μ a r i) :: st) k μ))
  | .laload => ma_pI st fun i st => ma_pR st fun a r st => ma_in E.1 a i ∧ (ma_ck a).1 = 1 ∧ K ls (ma_L (μ a r i) :: st) k μ
  | .baload => ma_pI st fun i st => ma_pR st fun a r st => ma_in E.1 a i ∧ (ma_ck a).1 = 2 ∧ K ls (ma_I (μ a r i) :: st) k μ
  | .caload => ma_pI st fun i st => ma_pR st fun a r st => ma_in E.1 a i ∧ (ma_ck a).1 = 3 ∧ K ls (ma_I (μ a r i) :: st) k μ
  | .daload => ma_pI st fun i st => ma_pR st fun a r st => ma_in E.1 a i ∧ (ma_ck a).1 = 4 ∧ K ls (ma_D (UInt64.ofNat (μ a r i).toNat) :: st) k μ
  | .aaload => ma_pI st fun i st => ma_pR st fun a _ st => ma_in E.1 a i ∧ ((ma_ck a).1 = 5 ∨ (ma_ck a).1 = 6) ∧ K ls (ma_Rf (a + 1) i :: st) k μ
  | .iastore => ma_pI st fun v st => ma_pI st fun i st => ma_pR st fun a r st => ma_in E.1 a i ∧ (ma_ck a).1 = 0 ∧ K ls st k (ma_up μ a r i v)
  | .lastore => ma_pL st fun v st => ma_pI st fun i st => ma_pR st fun a r st => ma_in E.1 a i ∧ (ma_ck a).1 = 1 ∧ K ls st k (ma_up μ a r i v)
  | .bastore => ma_pI st fun v st => ma_pI st fun i st => ma_pR st fun a r st => ma_in E.1 a i ∧ (ma_ck a).1 = 2 ∧ (v = 0 ∨ v = 1) ∧ K ls st k (ma_up μ a r i v)
  | .castore => ma_pI st fun v st => ma_pI st fun i st => ma_pR st fun a r st => ma_in E.1 a i ∧ (ma_ck a).1 = 3 ∧ (0 ≤ v ∧ v < 65536) ∧ K ls st k (ma_up μ a r i v)
  | .dastore => ma_pD st fun v st => ma_pI st fun i st => ma_pR st fun a r st => ma_in E.1 a i ∧ (ma_ck a).1 = 4 ∧ K ls st k (ma_up μ a r i (v.toNat : Int))
  | .invokevirtual _ => match ma_pop (ma_na p) st [] with
    | some (as, .inr (.inr (.inl a)) :: rest) => (ma_ck a.1).1 = 10 + q.toNat ∧ ma_call O E pc ls p (ma_Rf a.1 a.2 :: as) rest k μ K J D
    | _ => False
  | .invokestatic _ => if p = 10002 then ma_pI st fun y st => ma_pI st fun x st => st.length ≤ 4 ∧ k ≤ E.2.2.2 ∧ K ls (ma_I (if x < y then y else x) :: st) k μ
    else if p = 10003 then ma_pI st fun y st => ma_pI st fun x st => st.length ≤ 4 ∧ k ≤ E.2.2.2 ∧ K ls (ma_I (if y < x then y else x) :: st) k μ
    else if p = 10004 then ma_pD st fun y st => ma_pD st fun x st => st.length ≤ 4 ∧ k ≤ E.2.2.2 ∧ Op.cmpValue (FP.dcmp x x) .l = 0 ∧ Op.cmpValue (FP.dcmp y y) .l = 0 ∧ Op.cmpValue (FP.dcmp x 0) .l ≠ 0 ∧ K ls (ma_D (if Op.cmpValue (FP.dcmp x y) .l < 0 then y else x) :: st) k μ
    else if p = 10000 then match st with
    | .inl n :: .inl dp :: .inr (.inr (.inl b)) :: .inl sp :: .inr (.inr (.inl a)) :: rest => rest.length ≤ 4 ∧ (ma_ck a.1).1 = 0 ∧ (ma_ck b.1).1 = 0 ∧ a.1 ≠ b.1 ∧ 0 ≤ n ∧ 0 ≤ sp ∧ 0 ≤ dp ∧ sp + n ≤ (ma_ck a.1).2.1 ∧ dp + n ≤ (ma_ck b.1).2.1 ∧ K ls rest k (ma_cpy μ a.1 a.2 sp b.1 b.2 dp n)
    | _ => False
    else match ma_pop (ma_na p) st [] with
    | some (as, rest) => ma_call O E pc ls p as rest k μ K J D
    | _ => False
  | .athrow => ma_p0 st (E.2.1 = [] ∧ k + 1 ≤ E.2.2.2 ∧ D (.inr p) (k + 1) μ)
  | .ireturn => ma_pI st fun v st => ma_p0 st (ma_resI E.2.2.1 v ∧ D (.inl (some (ma_I v))) k μ)
  | .lreturn => ma_pL st fun v st => ma_p0 st (E.2.2.1 = 4 ∧ D (.inl (some (ma_L v))) k μ)
  | .freturn => ma_pF st fun v st => ma_p0 st (E.2.2.1 = 5 ∧ D (.inl (some (ma_F v))) k μ)
  | .dreturn => ma_pD st fun v st => ma_p0 st (E.2.2.1 = 6 ∧ D (.inl (some (ma_D v))) k μ)
  | .return_ => ma_p0 st (E.2.2.1 = 0 ∧ D (.inl none) k μ)
  | _ => False
def ma_den (O : ma_O) (E : ma_E) : List ma_AI → Nat → List ma_V → List ma_V → Nat → ma_M → ma_J → ma_Dn → Prop
  | [], pc, ls, st, k, μ, J, _ => J pc ls st k μ
  | a :: cs, pc, ls, st, k, μ, J, D => ma_step O E a.2.1 a.2.2.1 a.2.2.2 pc ls st k μ (fun ls' st' k' μ' => ma_den O E cs (pc + a.1) ls' st' k' μ' J D) J D
/-- the blocks of a body, by where they begin: the locals that live there, and the instructions -/
abbrev ma_B := Nat → Option (List Bool × List ma_AI)
/-- what is closed under the blocks of a body -/
def ma_cl (O : ma_O) (E : ma_E) (bl : ma_B) (D : ma_Dn) (R : ma_J) : Prop := ∀ (pc : Nat) (b : List Bool × List ma_AI) (ls st : List ma_V) (k : Nat) (μ : ma_M), bl pc = some b → ma_den O E b.2 pc (ma_msk b.1 ls) st k μ R D → R pc ls st k μ
/-- the run of a body: in everything that is closed under its blocks -/
def ma_run (O : ma_O) (E : ma_E) (bl : ma_B) (D : ma_Dn) (pc : Nat) (ls st : List ma_V) (k : Nat) (μ : ma_M) : Prop := ∀ R : ma_J, ma_cl O E bl D R → R pc ls st k μ
end
section
/-! THE SMALL MACHINE IS TRUE TO THE JVM: what stands for what -/
/-- where the cells lie; the array classes, the classes, their fields' slots; the heap's size at the law's entry; the script's length -/
abbrev ma_G : Type := (Nat → Int → Nat) × (Nat → ClassId) × (Nat → ClassId) × (Nat → Nat → Nat) × Nat × Nat × (Nat → Bool)
abbrev ma_G.ad (G : ma_G) : Nat → Int → Nat := G.1
abbrev ma_G.dA (G : ma_G) : Nat → ClassId := G.2.1
abbrev ma_G.dC (G : ma_G) : Nat → ClassId := G.2.2.1
abbrev ma_G.dI (G : ma_G) : Nat → Nat → Nat := G.2.2.2.1
abbrev ma_G.h0 (G : ma_G) : Nat := G.2.2.2.2.1
abbrev ma_G.LS (G : ma_G) : Nat := G.2.2.2.2.2.1
/-- which cells are there -/
abbrev ma_G.lv (G : ma_G) : Nat → Bool := G.2.2.2.2.2.2
def ma_val (G : ma_G) (k : Nat) (r : Int) : Prop := k < ma_cells.length ∧ 0 ≤ r ∧ r < ((ma_ck k).2.2 : Int) ∧ G.lv k = true
def ma_fat (t : Nat) : FieldType := match t with | 0 => .int | 1 => .long | 2 => .boolean | 3 => .char | 4 => .double | 5 => .array .int | _ => .array .long
def ma_cv (t : Nat) (n : Int) : Value := if t = 1 then .long (Int64.ofInt n) else if t = 4 then .double (UInt64.ofNat n.toNat) else .int (Int32.ofInt n)
def ma_can (t : Nat) (n : Int) : Prop := if t = 1 then -9223372036854775808 ≤ n ∧ n < 9223372036854775808 else if t = 4 then 0 ≤ n ∧ n < 18446744073709551616 else -2147483648 ≤ n ∧ n < 2147483648
def ma_fv (G : ma_G) (μ : ma_M) (k : Nat) (r : Int) (ci f : Nat) : Value :=
  if ma_fk ci f = 1 then .long (Int64.ofInt (μ k r f)) else if ma_fk ci f = 3 then .ref (G.ad (ma_rf k f) 0) else if ma_fk ci f = 4 then .ref (G.ad (μ k r f).toNat 0) else .int (Int32.ofInt (μ k r f))
def ma_fcan (G : ma_G) (k ci f : Nat) (n : Int) : Prop :=
  if ma_fk ci f = 1 then -9223372036854775808 ≤ n ∧ n < 9223372036854775808 else if ma_fk ci f = 3 then ma_val G (ma_rf k f) 0 else if ma_fk ci f = 4 then ma_val G n.toNat 0 else -2147483648 ≤ n ∧ n < 2147483648
def ma_Rv (G : ma_G) (v : ma_V) (w : Value) : Prop := match v with
  | .inl n => ∃ x : Int32, w = .int x ∧ x.toInt = n
  | .inr (.inl n) => ∃ x : Int64, w = .long x ∧ x.toInt = n
  | .inr (.inr (.inl a)) => w = .ref (G.ad a.1 a.2) ∧ ma_val G a.1 a.2
  | .inr (.inr (.inr (.inl b))) => w = .double b
  | .inr (.inr (.inr (.inr (.inl b)))) => w = .float b
  | .inr (.inr (.inr (.inr (.inr (.inl _))))) => ∃ q : Nat, w = .ref q
  | .inr (.inr (.inr (.inr (.inr (.inr _))))) => True
def ma_RS (G : ma_G) : List ma_V → List Value → Prop
  | [], [] => True
  | v :: vs, w :: ws => ma_Rv G v w ∧ ma_RS G vs ws
  | _, _ => False
def ma_RL (G : ma_G) (nL : Nat) (al : List ma_V) (ls : Array Slot) : Prop := al.length = nL ∧ ls.size = nL ∧ lv_wf ls ∧ ∀ (i : Nat) (v : ma_V), al[i]? = some v → v = ma_U ∨ ∃ w, ls[i]? = some (.val w) ∧ ma_Rv G v w
/-- the heap holds the memory -/
def ma_HR (G : ma_G) (U : State) (μ : ma_M) (H : Heap) : Prop := ∀ (k : Nat) (r : Int), ma_val G k r →
  ((ma_ck k).1 ≤ 4 → H[G.ad k r]? = some (arrV (G.dA (ma_ck k).1) (ma_ck k).2.1 (fun j => ma_cv (ma_ck k).1 (μ k r j))) ∧ ∀ i : Int, 0 ≤ i → i < ((ma_ck k).2.1 : Int) → ma_can (ma_ck k).1 (μ k r i)) ∧
  ((ma_ck k).1 = 5 ∨ (ma_ck k).1 = 6 → H[G.ad k r]? = some (arrV (G.dA (ma_ck k).1) (ma_ck k).2.1 (fun j => .ref (G.ad (k + 1) j)))) ∧
  ((ma_ck k).1 = 7 ∨ (ma_ck k).1 = 8 → ∃ cell : Cell, H[G.ad k r]? = some cell ∧ U.isArrayOf cell .int ∧ cell.vm ≠ .unknown ∧ ma_len G.LS k ≤ cell.slots.size ∧ ((ma_ck k).1 = 8 → cell.slots.size = G.LS) ∧ ∀ i : Int, 0 ≤ i → i < (ma_len G.LS k : Int) → ma_can 0 (μ k r i) ∧ cell.slots[i.toNat]? = some (.int (Int32.ofInt (μ k r i)))) ∧
  (∀ ci : Nat, (ma_ck k).1 = 10 + ci → t_OB (G.ad k r) (G.dC ci) (ma_N ci) (G.dI ci) H (fun f => ma_fv G μ k r ci f) ∧ ∀ f : Nat, f < ma_N ci → ma_fcan G k ci f (μ k r f))
/-- the addresses are apart; all but the script and the static row are new -/
def ma_AD (G : ma_G) : Prop := (∀ (k k' : Nat) (r r' : Int), ma_val G k r → ma_val G k' r' → G.ad k r = G.ad k' r' → k = k' ∧ r = r') ∧ (∀ (k : Nat) (r : Int), ma_val G k r → 2 ≤ k → G.h0 ≤ G.ad k r) ∧ G.LS < 2147483648 ∧ G.lv 0 = true ∧ G.lv 1 = true ∧ ∀ a : Nat, ((ma_ck a).1 = 5 ∨ (ma_ck a).1 = 6) → G.lv a = true → G.lv (a + 1) = true
def ma_A (G : ma_G) : Nat → Prop := fun q => G.h0 ≤ q
def ma_WG : List Cond := lw_tbl.filter goodWord
theorem ma_WG_in {w : Cond} (h : w ∈ lw_tbl) (g : goodWord w = true) : w ∈ ma_WG := List.mem_filter.mpr ⟨h, g⟩
/-- what the tables say of the classes -/
def ma_KK (G : ma_G) (U : State) : Prop := (∀ t, t ≤ 6 → ArrOfT U (G.dA t) (ma_fat t)) ∧ va_RA U (G.dA 0) .int ∧ (∀ ci, ci < 11 → u_Kn U (ma_C ci) (ma_T ci) (ma_N ci) (G.dC ci) (G.dI ci))
theorem ma_KK.moved {G : ma_G} {u U : State} (hvm : u.vm.Alike U.vm) (h : ma_KK G u) : ma_KK G U := ⟨fun t ht => arrOfT_moved hvm (h.1 t ht), h.2.1.moved hvm, fun ci hc => u_Kn_moved hvm (h.2.2 ci hc)⟩
theorem ma_HR.moved {G : ma_G} {u U : State} {μ : ma_M} {H : Heap} (hvm : u.vm.Alike U.vm) (h : ma_HR G u μ H) : ma_HR G U μ H := fun k r hv => by
  obtain ⟨h1, h2, h3, h4⟩ := h k r hv
  refine ⟨h1, h2, fun hk => ?_, h4⟩
  obtain ⟨cell, q1, q2, q3⟩ := h3 hk
  exact ⟨cell, q1, State.isArrayOf_alike hvm q2, q3⟩
/-- one cell changes -/
theorem ma_HR.keep {G : ma_G} {U : State} {μ μ' : ma_M} {H H1 : Heap} {a : Nat} {k0 : Nat} {r0 : Int} (hA : ma_AD G) (h : ma_HR G U μ H) (hv0 : ma_val G k0 r0) (ha : a = G.ad k0 r0) (oq : ∀ q : Nat, q ≠ a → H1[q]? = H[q]?)
    (hμ : ∀ (k : Nat) (r i : Int), ¬ (k = k0 ∧ r = r0) → μ' k r i = μ k r i)
    (h0 : ((ma_ck k0).1 ≤ 4 → H1[G.ad k0 r0]? = some (arrV (G.dA (ma_ck k0).1) (ma_ck k0).2.1 (fun j => ma_cv (ma_ck k0).1 (μ' k0 r0 j))) ∧ ∀ i : Int, 0 ≤ i → i < ((ma_ck k0).2.1 : Int) → ma_can (ma_ck k0).1 (μ' k0 r0 i)) ∧
      (∀ ci : Nat, (ma_ck k0).1 = 10 + ci → t_OB (G.ad k0 r0) (G.dC ci) (ma_N ci) (G.dI ci) H1 (fun f => ma_fv G μ' k0 r0 ci f) ∧ ∀ f : Nat, f < ma_N ci → ma_fcan G k0 ci f (μ' k0 r0 f)))
    (hk0 : (ma_ck k0).1 ≤ 4 ∨ 10 ≤ (ma_ck k0).1) : ma_HR G U μ' H1 := by
  intro k r hv
  by_cases hkr : k = k0 ∧ r = r0
  · obtain ⟨rfl, rfl⟩ := hkr
    exact ⟨h0.1, fun z => by omega, fun z => by omega, h0.2⟩
  · have hne : G.ad k r ≠ a := fun z => hkr (hA.1 k k0 r r0 hv hv0 (z.trans ha))
    have e1 := oq _ hne
    have e2 : ∀ i, μ' k r i = μ k r i := fun i => hμ k r i hkr
    obtain ⟨h1, h2, h3, h4⟩ := h k r hv
    refine ⟨fun z => ?_, fun z => by rw [e1]; exact h2 z, fun z => ?_, fun ci z => ?_⟩
    · rw [e1]; simp only [e2]; exact h1 z
    · rw [e1]; simp only [e2]; exact h3 z
    · obtain ⟨q1, q2⟩ := h4 ci z
      refine ⟨?_, by simp only [e2]; exact q2⟩
      have := q1.kept e1
      simpa only [ma_fv, e2] using this
section LOC
theorem ma_lvfull {ls : Array Slot} {nL : Nat} (h1 : ls.size = nL) (h2 : lv_wf ls) : ∃ lv : List (Nat × Value), lv_has ls nL lv ∧ ∀ (i : Nat) (w : Value), ls[i]? = some (.val w) → (i, w) ∈ lv := by
  refine ⟨(List.range nL).filterMap (fun i => match (ls[i]? : Option Slot) with | some (Slot.val w) => some (i, w) | _ => none), ⟨h1, h2, ?_⟩, ?_⟩
  · intro q hq
    obtain ⟨i, -, hi⟩ := List.mem_filterMap.mp hq
    cases hs : ls[i]? with
    | none => rw [hs] at hi; cases hi
    | some z =>
      rw [hs] at hi
      cases z with
      | val w => cases hi; exact hs
      | unset => cases hi
      | second => cases hi
  · intro i w hi
    have hlt : i < nL := by rw [← h1]; exact lv_lt hi
    exact List.mem_filterMap.mpr ⟨i, List.mem_range.mpr hlt, by rw [hi]⟩
theorem ma_st1_len : ∀ (ls : List ma_V) (i : Nat) (v : ma_V), (ma_st1 ls i v).length = ls.length
  | [], i, v => by cases i <;> rfl
  | x :: ls, 0, v => rfl
  | x :: ls, 1, v => by simp only [ma_st1, List.length_cons, ma_st1_len ls 0 v]
  | x :: ls, n + 2, v => by simp only [ma_st1, List.length_cons, ma_st1_len ls (n + 1) v]
theorem ma_st1_at : ∀ (ls : List ma_V) (i : Nat) (v : ma_V) (j : Nat) (w : ma_V), (ma_st1 ls i v)[j]? = some w → (j = i ∧ w = v) ∨ (j ≠ i ∧ ls[j]? = some w ∧ ¬ (j + 1 = i ∧ ma_c2 w = true)) ∨ w = ma_U
  | [], i, v, j, w, h => by cases i <;> simp [ma_st1] at h
  | x :: ls, 0, v, j, w, h => by
    cases j with
    | zero => simp [ma_st1] at h; exact Or.inl ⟨rfl, h.symm⟩
    | succ j => simp [ma_st1] at h; exact Or.inr (Or.inl ⟨by omega, by simpa using h, by omega⟩)
  | x :: ls, 1, v, j, w, h => by
    cases j with
    | zero =>
      cases hc : ma_c2 x with
      | true => simp [ma_st1, hc] at h; exact Or.inr (Or.inr h.symm)
      | false => simp [ma_st1, hc] at h; subst h; exact Or.inr (Or.inl ⟨by omega, rfl, by simp [hc]⟩)
    | succ j =>
      rw [ma_st1, List.getElem?_cons_succ] at h
      rcases ma_st1_at ls 0 v j w h with ⟨a, b⟩ | ⟨a, b, d⟩ | a
      · exact Or.inl ⟨by omega, b⟩
      · exact Or.inr (Or.inl ⟨by omega, by rw [List.getElem?_cons_succ]; exact b, by omega⟩)
      · exact Or.inr (Or.inr a)
  | x :: ls, n + 2, v, j, w, h => by
    cases j with
    | zero => simp [ma_st1] at h; subst h; exact Or.inr (Or.inl ⟨by omega, rfl, by omega⟩)
    | succ j =>
      rw [ma_st1, List.getElem?_cons_succ] at h
      rcases ma_st1_at ls (n + 1) v j w h with ⟨a, b⟩ | ⟨a, b, d⟩ | a
      · exact Or.inl ⟨by omega, b⟩
      · exact Or.inr (Or.inl ⟨by omega, by rw [List.getElem?_cons_succ]; exact b, fun z => d ⟨by omega, z.2⟩⟩)
      · exact Or.inr (Or.inr a)
theorem ma_st2_len : ∀ (ls : List ma_V) (i : Nat) (v : ma_V), i + 1 < ls.length → (ma_st2 ls i v).length = ls.length
  | [], i, v, h => by simp at h
  | [x], 0, v, h => by simp at h
  | x :: y :: ls, 0, v, h => rfl
  | x :: ls, 1, v, h => by simp only [ma_st2, List.length_cons, ma_st2_len ls 0 v (by simp only [List.length_cons] at h; omega)]
  | x :: ls, n + 2, v, h => by simp only [ma_st2, List.length_cons, ma_st2_len ls (n + 1) v (by simp only [List.length_cons] at h; omega)]
theorem ma_st2_at : ∀ (ls : List ma_V) (i : Nat) (v : ma_V) (j : Nat) (w : ma_V), i + 1 < ls.length → (ma_st2 ls i v)[j]? = some w → (j = i ∧ w = v) ∨ (j ≠ i ∧ j ≠ i + 1 ∧ ls[j]? = some w ∧ ¬ (j + 1 = i ∧ ma_c2 w = true)) ∨ w = ma_U
  | [], i, v, j, w, hi, h => by simp at hi
  | [x], 0, v, j, w, hi, h => by simp at hi
  | x :: y :: ls, 0, v, j, w, hi, h => by
    cases j with
    | zero => simp [ma_st2] at h; exact Or.inl ⟨rfl, h.symm⟩
    | succ j =>
      cases j with
      | zero => simp [ma_st2] at h; exact Or.inr (Or.inr h.symm)
      | succ j => simp [ma_st2] at h; exact Or.inr (Or.inl ⟨by omega, by omega, by simpa using h, by omega⟩)
  | x :: ls, 1, v, j, w, hi, h => by
    cases j with
    | zero =>
      cases hc : ma_c2 x with
      | true => simp [ma_st2, hc] at h; exact Or.inr (Or.inr h.symm)
      | false => simp [ma_st2, hc] at h; subst h; exact Or.inr (Or.inl ⟨by omega, by omega, rfl, by simp [hc]⟩)
    | succ j =>
      rw [ma_st2, List.getElem?_cons_succ] at h
      rcases ma_st2_at ls 0 v j w (by simp only [List.length_cons] at hi; omega) h with ⟨a, b⟩ | ⟨a, a', b, d⟩ | a
      · exact Or.inl ⟨by omega, b⟩
      · exact Or.inr (Or.inl ⟨by omega, by omega, by rw [List.getElem?_cons_succ]; exact b, by omega⟩)
      · exact Or.inr (Or.inr a)
  | x :: ls, n + 2, v, j, w, hi, h => by
    cases j with
    | zero => simp [ma_st2] at h; subst h; exact Or.inr (Or.inl ⟨by omega, by omega, rfl, by omega⟩)
    | succ j =>
      rw [ma_st2, List.getElem?_cons_succ] at h
      rcases ma_st2_at ls (n + 1) v j w (by simp only [List.length_cons] at hi; omega) h with ⟨a, b⟩ | ⟨a, a', b, d⟩ | a
      · exact Or.inl ⟨by omega, b⟩
      · exact Or.inr (Or.inl ⟨by omega, by omega, by rw [List.getElem?_cons_succ]; exact b, fun z => d ⟨by omega, z.2⟩⟩)
      · exact Or.inr (Or.inr a)
theorem ma_Rv_cat {G : ma_G} {v : ma_V} {w : Value} (h : ma_Rv G v w) (hu : v ≠ ma_U) : (ma_c2 v = true ↔ w.category = 2) := by
  rcases v with n | n | a | b | b | q | u
  · obtain ⟨x, rfl, -⟩ := h; simp [ma_c2, Value.category]
  · obtain ⟨x, rfl, -⟩ := h; simp [ma_c2, Value.category]
  · obtain ⟨rfl, -⟩ := h; simp [ma_c2, Value.category]
  · cases h; simp [ma_c2, Value.category]
  · cases h; simp [ma_c2, Value.category]
  · obtain ⟨x, rfl⟩ := h; simp [ma_c2, Value.category]
  · exact absurd rfl hu
theorem ma_Rv_c1 {G : ma_G} {v : ma_V} {w : Value} (h : ma_Rv G v w) (hu : v ≠ ma_U) (hc : ma_c2 v = false) : w.category = 1 := by
  rcases lv_cat w with h1 | h1
  · exact h1
  · have := (ma_Rv_cat h hu).mpr h1
    rw [hc] at this; cases this
/-- a store into a local -/
theorem ma_RL.st1 {G : ma_G} {nL : Nat} {al : List ma_V} {ls ls1 : Array Slot} {lv lv' : List (Nat × Value)} {i : Nat} {v : ma_V} {w : Value} (h : ma_RL G nL al ls) (hf : ∀ (i : Nat) (w : Value), ls[i]? = some (.val w) → (i, w) ∈ lv)
    (hl : (i, w) :: lv.filter (fun q => !(q.1 == i) && !(q.1 + 1 == i && q.2.category == 2)) = lv') (h1 : lv_has ls1 nL lv') (hv : ma_Rv G v w) : ma_RL G nL (ma_st1 al i v) ls1 := by
  subst hl
  refine ⟨by rw [ma_st1_len]; exact h.1, h1.1, h1.2.1, fun j x hj => ?_⟩
  rcases ma_st1_at al i v j x hj with ⟨rfl, rfl⟩ | ⟨hne, hx, hcat⟩ | hu
  · exact Or.inr ⟨w, h1.2.2 _ List.mem_cons_self, hv⟩
  · rcases h.2.2.2 j x hx with rfl | ⟨y, hy, hxy⟩
    · exact Or.inl rfl
    · by_cases hu : x = ma_U
      · exact Or.inl hu
      · refine Or.inr ⟨y, h1.2.2 (j, y) (List.mem_cons_of_mem _ (List.mem_filter.mpr ⟨hf j y hy, ?_⟩)), hxy⟩
        have e1 : (j == i) = false := by simpa using hne
        have e2 : (j + 1 == i && y.category == 2) = false := by
          by_cases hji : j + 1 = i
          · have hc : ¬ ma_c2 x = true := fun z => hcat ⟨hji, z⟩
            have hy2 : ¬ y.category = 2 := fun z => hc ((ma_Rv_cat hxy hu).mpr z)
            simp [hji, hy2]
          · simp [hji]
        show (!(j == i) && !(j + 1 == i && y.category == 2)) = true
        rw [e1, e2]; rfl
  · exact Or.inl hu
theorem ma_RL.st2 {G : ma_G} {nL : Nat} {al : List ma_V} {ls ls1 : Array Slot} {lv lv' : List (Nat × Value)} {i : Nat} {v : ma_V} {w : Value} (h : ma_RL G nL al ls) (hf : ∀ (i : Nat) (w : Value), ls[i]? = some (.val w) → (i, w) ∈ lv) (hi : i + 1 < al.length)
    (hl : (i, w) :: lv.filter (fun q => !(q.1 == i) && (!(q.1 == i + 1) && !(q.1 + 1 == i && q.2.category == 2))) = lv') (h1 : lv_has ls1 nL lv') (hv : ma_Rv G v w) : ma_RL G nL (ma_st2 al i v) ls1 := by
  subst hl
  refine ⟨by rw [ma_st2_len _ _ _ hi]; exact h.1, h1.1, h1.2.1, fun j x hj => ?_⟩
  rcases ma_st2_at al i v j x hi hj with ⟨rfl, rfl⟩ | ⟨hne, hne1, hx, hcat⟩ | hu
  · exact Or.inr ⟨w, h1.2.2 _ List.mem_cons_self, hv⟩
  · rcases h.2.2.2 j x hx with rfl | ⟨y, hy, hxy⟩
    · exact Or.inl rfl
    · by_cases hu : x = ma_U
      · exact Or.inl hu
      · refine Or.inr ⟨y, h1.2.2 (j, y) (List.mem_cons_of_mem _ (List.mem_filter.mpr ⟨hf j y hy, ?_⟩)), hxy⟩
        have e1 : (j == i) = false := by simpa using hne
        have e3 : (j == i + 1) = false := by simpa using hne1
        have e2 : (j + 1 == i && y.category == 2) = false := by
          by_cases hji : j + 1 = i
          · have hc : ¬ ma_c2 x = true := fun z => hcat ⟨hji, z⟩
            have hy2 : ¬ y.category = 2 := fun z => hc ((ma_Rv_cat hxy hu).mpr z)
            simp [hji, hy2]
          · simp [hji]
        show (!(j == i) && (!(j == i + 1) && !(j + 1 == i && y.category == 2))) = true
        rw [e1, e2, e3]; rfl
  · exact Or.inl hu
theorem ma_getD {al : List ma_V} {i : Nat} {v : ma_V} (h : al.getD i ma_U = v) (hv : v ≠ ma_U) : al[i]? = some v := by
  rw [List.getD_eq_getElem?_getD] at h
  cases hq : al[i]? with
  | none => rw [hq] at h; exact absurd h.symm hv
  | some x => rw [hq] at h; rw [← h]; rfl
theorem ma_RL.get {G : ma_G} {nL : Nat} {al : List ma_V} {ls : Array Slot} {i : Nat} {v : ma_V} (h : ma_RL G nL al ls) (hi : al.getD i ma_U = v) (hv : v ≠ ma_U) : ∃ w, ls[i]? = some (.val w) ∧ ma_Rv G v w := by
  rcases h.2.2.2 i v (ma_getD hi hv) with q | q
  · exact absurd q hv
  · exact q
theorem ma_msk_at : ∀ (bs : List Bool) (al : List ma_V) (j : Nat) (x : ma_V), (ma_msk bs al)[j]? = some x → x = ma_U ∨ al[j]? = some x
  | [], al, j, x, h => by cases al <;> simp [ma_msk] at h
  | true :: bs, [], j, x, h => by simp [ma_msk] at h
  | false :: bs, [], j, x, h => by simp [ma_msk] at h
  | true :: bs, v :: al, j, x, h => by
    cases j with
    | zero => simp [ma_msk] at h; exact Or.inr (by rw [h]; rfl)
    | succ j => rw [ma_msk, List.getElem?_cons_succ] at h; rw [List.getElem?_cons_succ]; exact ma_msk_at bs al j x h
  | false :: bs, v :: al, j, x, h => by
    cases j with
    | zero => simp [ma_msk] at h; exact Or.inl h.symm
    | succ j => rw [ma_msk, List.getElem?_cons_succ] at h; rw [List.getElem?_cons_succ]; exact ma_msk_at bs al j x h
theorem ma_msk_len : ∀ (bs : List Bool) (al : List ma_V), bs.length = al.length → (ma_msk bs al).length = al.length
  | [], [], _ => rfl
  | [], _ :: _, h => by simp at h
  | _ :: _, [], h => by simp at h
  | true :: bs, v :: al, h => by rw [ma_msk, List.length_cons, List.length_cons, ma_msk_len bs al (by simpa using h)]
  | false :: bs, v :: al, h => by rw [ma_msk, List.length_cons, List.length_cons, ma_msk_len bs al (by simpa using h)]
theorem ma_RL.msk {G : ma_G} {nL : Nat} {al : List ma_V} {ls : Array Slot} {bs : List Bool} (h : ma_RL G nL al ls) (hb : bs.length = nL) : ma_RL G nL (ma_msk bs al) ls := by
  refine ⟨by rw [ma_msk_len bs al (hb.trans h.1.symm)]; exact h.1, h.2.1, h.2.2.1, fun i v hi => ?_⟩
  rcases ma_msk_at bs al i v hi with q | q
  · exact Or.inl q
  · exact h.2.2.2 i v q
end LOC
end
section
/-! what the constant pools say, as numbers; each word lies among the tables' words, at the place that is told -/
theorem ma_mem (ws : List Cond) (ps : List Nat) (h : (ws.zip ps).all (fun q => decide (lw_tbl[q.2]? = some q.1)) && decide (ws.length ≤ ps.length) = true) : ∀ w ∈ ws, w ∈ lw_tbl := by
  intro w hw
  simp only [Bool.and_eq_true, decide_eq_true_eq] at h
  obtain ⟨i, hi, rfl⟩ := List.getElem_of_mem hw
  have h2 : i < ps.length := Nat.lt_of_lt_of_le hi h.2
  have h3 : (ws[i], ps[i]) ∈ ws.zip ps := List.mem_of_getElem? (i := i) (by simp [List.getElem?_zip_eq_some, hi, h2])
  have h4 := List.all_eq_true.mp h.1 _ h3
  simp only [decide_eq_true_eq] at h4
  exact List.mem_of_getElem? h4
theorem ma_memr (ws : List Cond) (ps : List Nat) (h : ws = ps.filterMap (fun i => lw_tbl[i]?)) : ∀ w ∈ ws, w ∈ lw_tbl := by
  intro w hw
  rw [h] at hw
  obtain ⟨i, -, hi⟩ := List.mem_filterMap.mp hw
  exact List.mem_of_getElem? hi
def ma_kI : List (Nat × Nat × Int) := [(3, 56, 65535), (11, 17, -900001), (11, 24, -900002), (12, 265, 1431655765), (12, 266, 858993459), (12, 267, 252645135), (11, 31, -900003), (5, 32, 65521), (11, 7, 69069), (11, 8, 1103515245), (11, 113, 2147483647)]
theorem ma_kI_in : ∀ w ∈ ma_kI.map (fun q => Cond.constant (ma_own q.1) q.2.1 (Int32.ofInt q.2.2)), w ∈ lw_tbl := ma_mem _ [636, 665, 666, 732, 733, 734, 980, 1094, 1151, 1152, 1153] (by decide +kernel)
theorem ma_kI_good : ∀ w ∈ ma_kI.map (fun q => Cond.constant (ma_own q.1) q.2.1 (Int32.ofInt q.2.2)), goodWord w = true := List.all_eq_true.mp (by decide +kernel)
def ma_kL : List (Nat × Nat × Int) := [(13, 314, 6148914691236517205), (13, 316, 3689348814741910323), (13, 318, 1085102592571150095), (6, 163, 1103515245), (6, 165, 12345), (6, 167, 2147483648), (6, 169, 65536), (6, 171, 36), (11, 73, -900001), (11, 75, -900002)]
theorem ma_kL_in : ∀ w ∈ ma_kL.map (fun q => Cond.constantLong (ma_own q.1) q.2.1 (Int64.ofInt q.2.2)), w ∈ lw_tbl := ma_mem _ [589, 590, 591, 701, 702, 703, 707, 708, 1057, 1058] (by decide +kernel)
theorem ma_kL_good : ∀ w ∈ ma_kL.map (fun q => Cond.constantLong (ma_own q.1) q.2.1 (Int64.ofInt q.2.2)), goodWord w = true := List.all_eq_true.mp (by decide +kernel)
def ma_kD : List (Nat × Nat × Int) := []
theorem ma_kD_in : ∀ w ∈ ma_kD.map (fun q => Cond.constantDouble (ma_own q.1) q.2.1 (UInt64.ofNat q.2.2.toNat)), w ∈ lw_tbl := ma_mem _ [] (by decide +kernel)
theorem ma_kD_good : ∀ w ∈ ma_kD.map (fun q => Cond.constantDouble (ma_own q.1) q.2.1 (UInt64.ofNat q.2.2.toNat)), goodWord w = true := List.all_eq_true.mp (by decide +kernel)
def ma_kF : List (Nat × Nat × Int) := []
theorem ma_kF_in : ∀ w ∈ ma_kF.map (fun q => Cond.constantFloat (ma_own q.1) q.2.1 (UInt32.ofNat q.2.2.toNat)), w ∈ lw_tbl := ma_mem _ [] (by decide +kernel)
theorem ma_kF_good : ∀ w ∈ ma_kF.map (fun q => Cond.constantFloat (ma_own q.1) q.2.1 (UInt32.ofNat q.2.2.toNat)), goodWord w = true := List.all_eq_true.mp (by decide +kernel)
def ma_fl : List (Nat × Nat × Nat × Nat) := [(3, 9, 3, 0), (8, 37, 3, 0), (4, 52, 3, 0), (10, 125, 3, 0), (6, 60, 3, 0), (3, 15, 3, 1), (4, 46, 3, 1), (3, 19, 3, 2), (4, 49, 3, 2), (3, 22, 3, 3), (0, 92, 3, 3), (8, 58, 3, 3), (10, 129, 3, 3), (3, 25, 3, 4), (8, 31, 3, 4), (1, 97, 3, 4), (10, 292, 3, 4), (3, 28, 3, 5), (1, 100, 3, 5), (8, 55, 3, 5), (6, 139, 3, 5), (3, 31, 3, 6), (8, 41, 3, 6), (6, 66, 3, 6), (3, 34, 3, 7), (6, 79, 3, 7), (3, 37, 3, 8), (8, 28, 3, 8), (0, 62, 3, 8), (6, 136, 3, 8), (10, 285, 3, 8), (3, 40, 3, 9), (1, 57, 3, 9), (0, 85, 3, 9), (8, 48, 3, 9), (6, 112, 3, 9), (10, 91, 3, 10), (3, 43, 3, 10), (4, 32, 3, 10), (1, 46, 3, 10), (0, 69, 3, 10), (8, 34, 3, 10), (7, 60, 3, 10), (6, 88, 3, 10), (10, 94, 3, 11), (3, 47, 3, 11), (6, 76, 3, 11), (8, 22, 3, 12), (0, 57, 3, 12), (10, 107, 3, 12), (3, 50, 3, 12), (6, 133, 3, 12), (1, 54, 3, 13), (0, 82, 3, 13), (10, 133, 3, 13), (3, 53, 3, 13), (6, 109, 3, 13), (4, 11, 4, 0), (4, 18, 4, 1), (4, 21, 4, 2), (4, 25, 4, 3), (4, 28, 4, 4), (0, 9, 0, 0), (6, 82, 0, 0), (0, 15, 0, 1), (1, 94, 0, 1), (6, 85, 0, 1), (0, 18, 0, 2), (1, 78, 0, 2), (0, 21, 0, 3), (1, 85, 0, 3), (6, 99, 0, 3), (10, 173, 0, 3), (0, 26, 0, 4), (1, 88, 0, 4), (6, 101, 0, 4), (10, 178, 0, 4), (0, 29, 0, 5), (6, 57, 0, 5), (0, 32, 0, 6), (0, 47, 0, 7), (1, 36, 0, 7), (6, 51, 0, 7), (10, 147, 0, 7), (0, 36, 0, 8), (0, 39, 0, 9), (6, 9, 6, 0), (1, 75, 6, 0), (10, 197, 6, 0), (6, 15, 6, 1), (6, 18, 6, 2), (6, 22, 6, 3), (6, 25, 6, 4), (6, 28, 6, 5), (6, 31, 6, 6), (6, 34, 6, 7), (6, 37, 6, 8), (6, 41, 6, 9), (7, 11, 7, 0), (1, 103, 7, 0), (7, 16, 7, 1), (6, 91, 7, 1), (7, 20, 7, 2), (7, 23, 7, 3), (7, 27, 7, 4), (7, 30, 7, 5), (7, 33, 7, 6), (7, 36, 7, 7), (7, 40, 7, 8), (7, 100, 7, 9), (7, 56, 7, 10), (7, 43, 7, 11), (9, 9, 9, 0), (9, 15, 9, 1), (9, 19, 9, 2), (9, 23, 9, 3), (9, 27, 9, 4), (5, 11, 5, 0), (1, 61, 5, 0), (2, 73, 5, 0), (10, 273, 5, 0), (1, 9, 1, 0), (1, 15, 1, 1), (1, 19, 1, 2), (1, 23, 1, 3), (1, 27, 1, 4), (2, 12, 2, 0), (10, 321, 2, 0), (2, 18, 2, 1), (10, 295, 2, 1), (2, 22, 2, 2), (10, 288, 2, 2), (2, 44, 2, 3), (10, 303, 2, 3), (2, 25, 2, 4), (2, 28, 2, 5), (2, 31, 2, 6), (8, 9, 8, 0), (10, 337, 8, 0), (8, 15, 8, 1), (8, 18, 8, 2), (10, 10, 10, 0), (10, 21, 10, 1), (10, 28, 10, 2), (10, 37, 10, 3), (10, 44, 10, 4), (10, 53, 10, 5), (10, 60, 10, 6), (10, 69, 10, 7), (10, 76, 10, 8), (10, 83, 10, 9), (10, 87, 10, 10)]
theorem ma_fl_in : ∀ w ∈ ma_fl.map (fun q => Cond.fieldLink (ma_own q.1) q.2.1 (ma_C q.2.2.1) (ma_T q.2.2.1 q.2.2.2).2.1 (ma_T q.2.2.1 q.2.2.2).2.2.1), w ∈ lw_tbl := ma_mem _ [73, 74, 75, 76, 77, 78, 79, 80, 81, 82, 83, 84, 85, 86, 87, 88, 89, 90, 91, 92, 93, 94, 95, 96, 97, 98, 99, 100, 101, 102, 103, 104, 105, 106, 107, 108, 109, 110, 111, 112, 113, 114, 115, 116, 117, 118, 119, 120, 121, 122, 123, 124, 125, 126, 127, 128, 129, 171, 172, 173, 174, 175, 195, 196, 197, 198, 199, 200, 201, 202, 203, 204, 205, 206, 207, 208, 209, 210, 211, 212, 213, 214, 215, 216, 217, 218, 247, 248, 249, 250, 251, 252, 253, 254, 255, 256, 257, 258, 287, 288, 289, 290, 291, 292, 293, 294, 295, 296, 297, 298, 299, 300, 332, 333, 334, 335, 336, 355, 356, 357, 358, 368, 369, 370, 371, 372, 392, 393, 394, 395, 396, 397, 398, 399, 400, 401, 402, 424, 425, 426, 427, 435, 436, 437, 438, 439, 440, 441, 442, 443, 444, 445] (by decide +kernel)
theorem ma_fl_good : ∀ w ∈ ma_fl.map (fun q => Cond.fieldLink (ma_own q.1) q.2.1 (ma_C q.2.2.1) (ma_T q.2.2.1 q.2.2.2).2.1 (ma_T q.2.2.1 q.2.2.2).2.2.1), goodWord w = true := List.all_eq_true.mp (by decide +kernel)
def ma_sl : List (Nat × Nat) := [(0, 103)]
theorem ma_sl_in : ∀ w ∈ ma_sl.map (fun q => Cond.fieldLink (ma_own q.1) q.2 "Latticefit$Blocks" "PATTERNS" "[I"), w ∈ lw_tbl := ma_mem _ [630] (by decide +kernel)
theorem ma_sl_good : ∀ w ∈ ma_sl.map (fun q => Cond.fieldLink (ma_own q.1) q.2 "Latticefit$Blocks" "PATTERNS" "[I"), goodWord w = true := List.all_eq_true.mp (by decide +kernel)
theorem ma_u_0 : ∀ w ∈ u_ws (ma_C 0) (ma_T 0) (ma_N 0), w ∈ lw_tbl := ma_mem _ [219, 221, 223, 225, 227, 229, 231, 233, 235, 237] (by decide +kernel)
theorem ma_ug_0 : ∀ w ∈ u_ws (ma_C 0) (ma_T 0) (ma_N 0), goodWord w = true := List.all_eq_true.mp (by decide +kernel)
theorem ma_u_1 : ∀ w ∈ u_ws (ma_C 1) (ma_T 1) (ma_N 1), w ∈ lw_tbl := ma_mem _ [373, 375, 377, 379, 381] (by decide +kernel)
theorem ma_ug_1 : ∀ w ∈ u_ws (ma_C 1) (ma_T 1) (ma_N 1), goodWord w = true := List.all_eq_true.mp (by decide +kernel)
theorem ma_u_2 : ∀ w ∈ u_ws (ma_C 2) (ma_T 2) (ma_N 2), w ∈ lw_tbl := ma_mem _ [403, 405, 407, 409, 411, 413, 415] (by decide +kernel)
theorem ma_ug_2 : ∀ w ∈ u_ws (ma_C 2) (ma_T 2) (ma_N 2), goodWord w = true := List.all_eq_true.mp (by decide +kernel)
theorem ma_u_3 : ∀ w ∈ u_ws (ma_C 3) (ma_T 3) (ma_N 3), w ∈ lw_tbl := ma_mem _ [130, 132, 134, 136, 138, 140, 142, 144, 146, 148, 150, 152, 154, 156] (by decide +kernel)
theorem ma_ug_3 : ∀ w ∈ u_ws (ma_C 3) (ma_T 3) (ma_N 3), goodWord w = true := List.all_eq_true.mp (by decide +kernel)
theorem ma_u_4 : ∀ w ∈ u_ws (ma_C 4) (ma_T 4) (ma_N 4), w ∈ lw_tbl := ma_mem _ [176, 178, 180, 182, 184] (by decide +kernel)
theorem ma_ug_4 : ∀ w ∈ u_ws (ma_C 4) (ma_T 4) (ma_N 4), goodWord w = true := List.all_eq_true.mp (by decide +kernel)
theorem ma_u_5 : ∀ w ∈ u_ws (ma_C 5) (ma_T 5) (ma_N 5), w ∈ lw_tbl := ma_mem _ [359] (by decide +kernel)
theorem ma_ug_5 : ∀ w ∈ u_ws (ma_C 5) (ma_T 5) (ma_N 5), goodWord w = true := List.all_eq_true.mp (by decide +kernel)
theorem ma_u_6 : ∀ w ∈ u_ws (ma_C 6) (ma_T 6) (ma_N 6), w ∈ lw_tbl := ma_mem _ [259, 261, 263, 265, 267, 269, 271, 273, 275, 277] (by decide +kernel)
theorem ma_ug_6 : ∀ w ∈ u_ws (ma_C 6) (ma_T 6) (ma_N 6), goodWord w = true := List.all_eq_true.mp (by decide +kernel)
theorem ma_u_7 : ∀ w ∈ u_ws (ma_C 7) (ma_T 7) (ma_N 7), w ∈ lw_tbl := ma_mem _ [301, 303, 305, 307, 309, 311, 313, 315, 317, 319, 321, 323] (by decide +kernel)
theorem ma_ug_7 : ∀ w ∈ u_ws (ma_C 7) (ma_T 7) (ma_N 7), goodWord w = true := List.all_eq_true.mp (by decide +kernel)
theorem ma_u_8 : ∀ w ∈ u_ws (ma_C 8) (ma_T 8) (ma_N 8), w ∈ lw_tbl := ma_mem _ [428, 430, 432] (by decide +kernel)
theorem ma_ug_8 : ∀ w ∈ u_ws (ma_C 8) (ma_T 8) (ma_N 8), goodWord w = true := List.all_eq_true.mp (by decide +kernel)
theorem ma_u_9 : ∀ w ∈ u_ws (ma_C 9) (ma_T 9) (ma_N 9), w ∈ lw_tbl := ma_mem _ [337, 339, 341, 343, 345] (by decide +kernel)
theorem ma_ug_9 : ∀ w ∈ u_ws (ma_C 9) (ma_T 9) (ma_N 9), goodWord w = true := List.all_eq_true.mp (by decide +kernel)
theorem ma_u_10 : ∀ w ∈ u_ws (ma_C 10) (ma_T 10) (ma_N 10), w ∈ lw_tbl := ma_mem _ [446, 448, 450, 452, 454, 456, 458, 460, 462, 464, 466] (by decide +kernel)
theorem ma_ug_10 : ∀ w ∈ u_ws (ma_C 10) (ma_T 10) (ma_N 10), goodWord w = true := List.all_eq_true.mp (by decide +kernel)
theorem ma_u_in : ∀ ci, ci < 11 → ∀ w ∈ u_ws (ma_C ci) (ma_T ci) (ma_N ci), w ∈ ma_WG := by
  intro ci hc w hw
  match ci, hc with
  | 0, _ => exact ma_WG_in (ma_u_0 w hw) (ma_ug_0 w hw)
  | 1, _ => exact ma_WG_in (ma_u_1 w hw) (ma_ug_1 w hw)
  | 2, _ => exact ma_WG_in (ma_u_2 w hw) (ma_ug_2 w hw)
  | 3, _ => exact ma_WG_in (ma_u_3 w hw) (ma_ug_3 w hw)
  | 4, _ => exact ma_WG_in (ma_u_4 w hw) (ma_ug_4 w hw)
  | 5, _ => exact ma_WG_in (ma_u_5 w hw) (ma_ug_5 w hw)
  | 6, _ => exact ma_WG_in (ma_u_6 w hw) (ma_ug_6 w hw)
  | 7, _ => exact ma_WG_in (ma_u_7 w hw) (ma_ug_7 w hw)
  | 8, _ => exact ma_WG_in (ma_u_8 w hw) (ma_ug_8 w hw)
  | 9, _ => exact ma_WG_in (ma_u_9 w hw) (ma_ug_9 w hw)
  | 10, _ => exact ma_WG_in (ma_u_10 w hw) (ma_ug_10 w hw)
  | n + 11, h => omega
theorem ma_ty_ok : ∀ ci, ci < 11 → ∀ k, k < ma_N ci → parseFieldDescriptor (ma_T ci k).2.2.1 = some (ma_fty ci k) := by decide +kernel
theorem ma_nm_ok : ∀ ci, ci < 11 → ∀ a, a < ma_N ci → ∀ b, b < ma_N ci → a ≠ b → (ma_T ci a).2.1 ≠ (ma_T ci b).2.1 := by decide +kernel
theorem ma_decl_ok : ∀ ci, ci < 11 → ∀ k, k < ma_N ci → (ma_T ci k).1 = ma_C ci := by decide +kernel
theorem ma_fk_ok : ∀ ci, ci < 11 → ∀ k, k < ma_N ci → (ma_fk ci k = 0 → ma_fty ci k = .int) ∧ (ma_fk ci k = 1 → ma_fty ci k = .long) ∧ (ma_fk ci k = 2 → ma_fty ci k = .boolean) ∧ (ma_fk ci k = 4 → ma_fty ci k = .array .boolean) := by decide +kernel
def ma_cw (y : Nat) : Cond := if (ma_hc y).isEmpty then .code (ma_y y) (ma_b y) (ma_nL y) (ma_ret y) else .codeWith (ma_y y) (ma_b y) (ma_nL y) (ma_ret y) (ma_hc y)
def ma_ms (a n : Nat) : List Nat := (List.range n).map (· + a)
theorem ma_iw0_in : ∀ w ∈ (ma_ms 0 60).map (fun y => Cond.initialized (ma_y y).cls), w ∈ lw_tbl := ma_mem _ [33, 33, 34, 34, 34, 37, 38, 32, 33, 35, 35, 35, 52, 35, 36, 36, 35, 36, 36, 54, 36, 36, 34, 37, 38, 54, 32, 33, 33, 37, 37, 37, 37, 37, 37, 37, 37, 56, 37, 37, 37, 37, 37, 37, 37, 32, 33, 37, 38, 38, 38, 33, 38, 38, 38, 38, 38, 38, 38, 38] (by decide +kernel)
theorem ma_iw0_good : ∀ w ∈ (ma_ms 0 60).map (fun y => Cond.initialized (ma_y y).cls), goodWord w = true := List.all_eq_true.mp (by decide +kernel)
theorem ma_sw0_in : ∀ w ∈ (ma_ms 0 60).map (fun y => if ma_stat y then Cond.static (ma_y y) else Cond.instanceMethod (ma_y y)), w ∈ lw_tbl := ma_mem _ [470, 474, 478, 482, 486, 490, 494, 498, 503, 574, 580, 584, 587, 594, 600, 605, 609, 614, 617, 620, 624, 628, 633, 653, 658, 663, 668, 672, 692, 695, 699, 705, 711, 714, 719, 722, 726, 730, 737, 741, 745, 749, 755, 758, 762, 766, 769, 773, 777, 781, 786, 789, 793, 797, 801, 805, 809, 813, 817, 821] (by decide +kernel)
theorem ma_sw0_good : ∀ w ∈ (ma_ms 0 60).map (fun y => if ma_stat y then Cond.static (ma_y y) else Cond.instanceMethod (ma_y y)), goodWord w = true := List.all_eq_true.mp (by decide +kernel)
theorem ma_vw0_in : ∀ w ∈ ((ma_ms 0 60).filter (fun y => !ma_stat y)).map (fun y => Cond.selects (ma_y y).cls (ma_y y) (ma_y y)), w ∈ lw_tbl := ma_mem _ [471, 475, 479, 483, 487, 491, 495, 504, 575, 1, 2, 3, 601, 4, 610, 5, 6, 7, 634, 654, 659, 673, 8, 696, 9, 715, 10, 723, 727, 738, 742, 11, 759, 763, 770, 774, 778, 782, 12, 13, 14, 15, 16, 17, 18, 19, 20] (by decide +kernel)
theorem ma_vw0_good : ∀ w ∈ ((ma_ms 0 60).filter (fun y => !ma_stat y)).map (fun y => Cond.selects (ma_y y).cls (ma_y y) (ma_y y)), goodWord w = true := List.all_eq_true.mp (by decide +kernel)
theorem ma_iw1_in : ∀ w ∈ (ma_ms 60 60).map (fun y => Cond.initialized (ma_y y).cls), w ∈ lw_tbl := ma_mem _ [38, 38, 38, 38, 32, 33, 41, 40, 41, 40, 41, 37, 38, 38, 41, 40, 40, 40, 40, 32, 33, 33, 40, 32, 33, 42, 40, 43, 32, 33, 43, 43, 42, 42, 42, 40, 40, 40, 40, 42, 42, 32, 33, 33, 37, 32, 33, 32, 33, 40, 32, 33, 32, 33, 33, 43, 32, 33, 42, 32] (by decide +kernel)
theorem ma_iw1_good : ∀ w ∈ (ma_ms 60 60).map (fun y => Cond.initialized (ma_y y).cls), goodWord w = true := List.all_eq_true.mp (by decide +kernel)
theorem ma_sw1_in : ∀ w ∈ (ma_ms 60 60).map (fun y => if ma_stat y then Cond.static (ma_y y) else Cond.instanceMethod (ma_y y)), w ∈ lw_tbl := ma_mem _ [825, 828, 831, 836, 840, 843, 847, 851, 857, 860, 866, 870, 874, 878, 883, 887, 891, 895, 899, 903, 940, 945, 963, 982, 985, 989, 993, 1001, 1006, 1009, 1013, 1017, 1022, 1026, 1031, 1034, 1038, 1042, 1045, 1050, 1055, 1060, 1063, 1067, 1072, 1076, 1079, 1083, 1086, 1090, 1097, 1100, 1104, 1107, 1112, 1116, 1120, 1123, 1128, 1132] (by decide +kernel)
theorem ma_sw1_good : ∀ w ∈ (ma_ms 60 60).map (fun y => if ma_stat y then Cond.static (ma_y y) else Cond.instanceMethod (ma_y y)), goodWord w = true := List.all_eq_true.mp (by decide +kernel)
theorem ma_vw1_in : ∀ w ∈ ((ma_ms 60 60).filter (fun y => !ma_stat y)).map (fun y => Cond.selects (ma_y y).cls (ma_y y) (ma_y y)), w ∈ lw_tbl := ma_mem _ [21, 22, 844, 848, 852, 23, 861, 24, 871, 875, 879, 25, 888, 900, 941, 26, 986, 990, 994, 1002, 1010, 1014, 1018, 1023, 1027, 27, 1035, 1039, 1046, 28, 29, 1064, 1073, 1080, 1087, 1091, 1101, 1108, 30, 1117, 1124, 1129] (by decide +kernel)
theorem ma_vw1_good : ∀ w ∈ ((ma_ms 60 60).filter (fun y => !ma_stat y)).map (fun y => Cond.selects (ma_y y).cls (ma_y y) (ma_y y)), goodWord w = true := List.all_eq_true.mp (by decide +kernel)
theorem ma_iw2_in : ∀ w ∈ (ma_ms 120 35).map (fun y => Cond.initialized (ma_y y).cls), w ∈ lw_tbl := ma_mem _ [33, 32, 33, 32, 32, 32, 32, 32, 32, 33, 34, 32, 33, 34, 32, 33, 34, 32, 33, 32, 33, 34, 32, 32, 32, 32, 33, 32, 32, 32, 32, 33, 33, 32, 33] (by decide +kernel)
theorem ma_iw2_good : ∀ w ∈ (ma_ms 120 35).map (fun y => Cond.initialized (ma_y y).cls), goodWord w = true := List.all_eq_true.mp (by decide +kernel)
theorem ma_sw2_in : ∀ w ∈ (ma_ms 120 35).map (fun y => if ma_stat y then Cond.static (ma_y y) else Cond.instanceMethod (ma_y y)), w ∈ lw_tbl := ma_mem _ [1135, 1139, 1142, 1146, 1149, 1155, 1158, 1161, 1164, 1167, 1171, 1175, 1178, 1182, 1186, 1189, 1194, 1198, 1201, 1205, 1208, 1212, 1216, 1219, 1222, 1225, 1228, 1232, 1235, 1238, 1241, 1244, 1249, 1252, 1255] (by decide +kernel)
theorem ma_sw2_good : ∀ w ∈ (ma_ms 120 35).map (fun y => if ma_stat y then Cond.static (ma_y y) else Cond.instanceMethod (ma_y y)), goodWord w = true := List.all_eq_true.mp (by decide +kernel)
theorem ma_vw2_in : ∀ w ∈ ((ma_ms 120 35).filter (fun y => !ma_stat y)).map (fun y => Cond.selects (ma_y y).cls (ma_y y) (ma_y y)), w ∈ lw_tbl := ma_mem _ [1136, 1143, 1168, 1172, 1179, 1183, 1190, 1195, 1202, 1209, 1213, 1229, 1245, 31, 1256] (by decide +kernel)
theorem ma_vw2_good : ∀ w ∈ ((ma_ms 120 35).filter (fun y => !ma_stat y)).map (fun y => Cond.selects (ma_y y).cls (ma_y y) (ma_y y)), goodWord w = true := List.all_eq_true.mp (by decide +kernel)
theorem ma_iw_ok (y : Nat) (h : y < ma_nM) : Cond.initialized (ma_y y).cls ∈ ma_WG := by
  have h : y < 155 := h
  by_cases h0 : y < 60
  · exact ma_WG_in (ma_iw0_in _ (List.mem_map.mpr ⟨y, List.mem_map.mpr ⟨y - 0, List.mem_range.mpr (by omega), by omega⟩, rfl⟩)) (ma_iw0_good _ (List.mem_map.mpr ⟨y, List.mem_map.mpr ⟨y - 0, List.mem_range.mpr (by omega), by omega⟩, rfl⟩))
  by_cases h1 : y < 120
  · exact ma_WG_in (ma_iw1_in _ (List.mem_map.mpr ⟨y, List.mem_map.mpr ⟨y - 60, List.mem_range.mpr (by omega), by omega⟩, rfl⟩)) (ma_iw1_good _ (List.mem_map.mpr ⟨y, List.mem_map.mpr ⟨y - 60, List.mem_range.mpr (by omega), by omega⟩, rfl⟩))
  by_cases h2 : y < 155
  · exact ma_WG_in (ma_iw2_in _ (List.mem_map.mpr ⟨y, List.mem_map.mpr ⟨y - 120, List.mem_range.mpr (by omega), by omega⟩, rfl⟩)) (ma_iw2_good _ (List.mem_map.mpr ⟨y, List.mem_map.mpr ⟨y - 120, List.mem_range.mpr (by omega), by omega⟩, rfl⟩))
  omega
theorem ma_sw_ok (y : Nat) (h : y < ma_nM) : (if ma_stat y then Cond.static (ma_y y) else Cond.instanceMethod (ma_y y)) ∈ ma_WG := by
  have h : y < 155 := h
  by_cases h0 : y < 60
  · exact ma_WG_in (ma_sw0_in _ (List.mem_map.mpr ⟨y, List.mem_map.mpr ⟨y - 0, List.mem_range.mpr (by omega), by omega⟩, rfl⟩)) (ma_sw0_good _ (List.mem_map.mpr ⟨y, List.mem_map.mpr ⟨y - 0, List.mem_range.mpr (by omega), by omega⟩, rfl⟩))
  by_cases h1 : y < 120
  · exact ma_WG_in (ma_sw1_in _ (List.mem_map.mpr ⟨y, List.mem_map.mpr ⟨y - 60, List.mem_range.mpr (by omega), by omega⟩, rfl⟩)) (ma_sw1_good _ (List.mem_map.mpr ⟨y, List.mem_map.mpr ⟨y - 60, List.mem_range.mpr (by omega), by omega⟩, rfl⟩))
  by_cases h2 : y < 155
  · exact ma_WG_in (ma_sw2_in _ (List.mem_map.mpr ⟨y, List.mem_map.mpr ⟨y - 120, List.mem_range.mpr (by omega), by omega⟩, rfl⟩)) (ma_sw2_good _ (List.mem_map.mpr ⟨y, List.mem_map.mpr ⟨y - 120, List.mem_range.mpr (by omega), by omega⟩, rfl⟩))
  omega
theorem ma_vw_ok (y : Nat) (h : y < ma_nM) (hs : ma_stat y = false) : Cond.selects (ma_y y).cls (ma_y y) (ma_y y) ∈ ma_WG := by
  have h : y < 155 := h
  by_cases h0 : y < 60
  · exact ma_WG_in (ma_vw0_in _ (List.mem_map.mpr ⟨y, List.mem_filter.mpr ⟨List.mem_map.mpr ⟨y - 0, List.mem_range.mpr (by omega), by omega⟩, by rw [hs]; rfl⟩, rfl⟩)) (ma_vw0_good _ (List.mem_map.mpr ⟨y, List.mem_filter.mpr ⟨List.mem_map.mpr ⟨y - 0, List.mem_range.mpr (by omega), by omega⟩, by rw [hs]; rfl⟩, rfl⟩))
  by_cases h1 : y < 120
  · exact ma_WG_in (ma_vw1_in _ (List.mem_map.mpr ⟨y, List.mem_filter.mpr ⟨List.mem_map.mpr ⟨y - 60, List.mem_range.mpr (by omega), by omega⟩, by rw [hs]; rfl⟩, rfl⟩)) (ma_vw1_good _ (List.mem_map.mpr ⟨y, List.mem_filter.mpr ⟨List.mem_map.mpr ⟨y - 60, List.mem_range.mpr (by omega), by omega⟩, by rw [hs]; rfl⟩, rfl⟩))
  by_cases h2 : y < 155
  · exact ma_WG_in (ma_vw2_in _ (List.mem_map.mpr ⟨y, List.mem_filter.mpr ⟨List.mem_map.mpr ⟨y - 120, List.mem_range.mpr (by omega), by omega⟩, by rw [hs]; rfl⟩, rfl⟩)) (ma_vw2_good _ (List.mem_map.mpr ⟨y, List.mem_filter.mpr ⟨List.mem_map.mpr ⟨y - 120, List.mem_range.mpr (by omega), by omega⟩, by rw [hs]; rfl⟩, rfl⟩))
  omega
theorem ma_cls_ok : ∀ y, y < ma_nM → plainName (ma_y y).cls = true ∧ (ma_y y).cls ≠ "java/lang/invoke/MethodHandle" ∧ (ma_y y).cls ≠ "java/lang/invoke/VarHandle" ∧ (parseMethodDescriptor (ma_y y).desc).map (fun d => d.parameters.length) = some (ma_na y) ∧ ma_nL y ≤ 24 := by decide +kernel
def ma_ml : List (Nat × Nat × Nat) := [(11, 171, 0), (11, 208, 1), (10, 341, 2), (3, 57, 3), (3, 61, 4), (10, 344, 5), (10, 224, 6), (11, 40, 8), (10, 140, 9), (4, 38, 3), (4, 42, 10), (4, 56, 11), (4, 72, 13), (10, 143, 14), (0, 43, 15), (0, 88, 3), (0, 72, 16), (0, 95, 17), (0, 65, 20), (0, 78, 21), (0, 106, 22), (10, 153, 23), (10, 156, 24), (11, 50, 27), (10, 207, 28), (10, 210, 29), (6, 155, 32), (6, 173, 33), (6, 159, 34), (6, 177, 35), (6, 69, 36), (6, 181, 38), (6, 96, 39), (6, 118, 41), (6, 121, 43), (6, 184, 44), (11, 57, 46), (10, 217, 47), (6, 105, 48), (10, 221, 49), (7, 65, 50), (7, 69, 52), (7, 89, 53), (7, 93, 54), (7, 97, 55), (7, 103, 56), (7, 107, 57), (7, 113, 58), (7, 117, 59), (7, 110, 60), (7, 72, 6), (7, 76, 63), (11, 60, 65), (10, 263, 66), (1, 31, 67), (1, 42, 68), (1, 81, 69), (1, 71, 70), (1, 119, 71), (1, 122, 72), (7, 127, 73), (1, 51, 74), (1, 115, 75), (10, 266, 78), (11, 63, 80), (10, 269, 81), (11, 66, 84), (10, 279, 85), (2, 34, 86), (10, 283, 87), (10, 289, 36), (11, 69, 89), (10, 297, 90), (8, 51, 91), (8, 44, 22), (10, 301, 92), (2, 77, 93), (2, 48, 94), (2, 55, 95), (2, 59, 96), (5, 48, 98), (2, 51, 99), (2, 69, 100), (11, 77, 102), (10, 324, 95), (10, 327, 96), (10, 330, 104), (11, 80, 106), (11, 83, 108), (10, 276, 109), (10, 333, 86), (11, 86, 111), (11, 90, 113), (10, 307, 114), (10, 310, 91), (10, 314, 115), (11, 94, 117), (10, 317, 93), (10, 320, 118), (11, 97, 120), (11, 100, 122), (11, 9, 129), (10, 100, 130), (11, 18, 132), (10, 110, 133), (11, 25, 135), (10, 114, 4), (10, 121, 136), (11, 32, 138), (11, 36, 140), (10, 136, 141), (11, 103, 146), (11, 45, 151), (10, 166, 152), (11, 54, 154), (11, 164, 7), (4, 66, 12), (0, 99, 18), (0, 51, 19), (6, 45, 19), (7, 47, 19), (7, 53, 25), (11, 166, 26), (6, 147, 30), (6, 151, 31), (6, 142, 37), (6, 73, 40), (6, 115, 42), (11, 169, 45), (7, 121, 61), (7, 124, 62), (11, 174, 64), (5, 16, 19), (1, 91, 40), (1, 112, 61), (5, 33, 76), (5, 39, 62), (5, 36, 77), (1, 65, 42), (11, 200, 79), (10, 272, 82), (11, 176, 83), (2, 38, 19), (11, 193, 88), (5, 44, 97), (11, 158, 101), (10, 188, 103), (11, 202, 105), (11, 206, 107), (5, 28, 82), (11, 186, 110), (11, 148, 112), (11, 150, 116), (11, 211, 119), (11, 204, 121), (11, 127, 123), (11, 107, 124), (11, 160, 125), (11, 131, 126), (11, 114, 127), (11, 117, 128), (11, 120, 131), (11, 123, 134), (11, 135, 137), (11, 138, 139), (11, 196, 142), (11, 144, 143), (11, 141, 144), (11, 152, 145), (11, 182, 147), (11, 189, 148), (11, 178, 149), (11, 154, 150), (11, 156, 153)]
theorem ma_ml_in : ∀ w ∈ ma_ml.map (fun q => Cond.methodLink (ma_own q.1) q.2.1 (ma_y q.2.2)), w ∈ lw_tbl := ma_mem _ [469, 473, 477, 481, 485, 489, 493, 502, 573, 577, 578, 582, 592, 599, 603, 607, 608, 612, 622, 626, 632, 652, 657, 671, 690, 694, 709, 713, 717, 721, 725, 736, 740, 747, 757, 761, 768, 772, 776, 780, 784, 791, 795, 799, 803, 807, 811, 815, 819, 823, 833, 834, 842, 846, 850, 855, 859, 864, 869, 873, 877, 881, 886, 898, 939, 943, 984, 988, 992, 1000, 1004, 1008, 1012, 1016, 1020, 1021, 1025, 1029, 1033, 1037, 1044, 1048, 1053, 1062, 1069, 1070, 1071, 1078, 1085, 1089, 1095, 1099, 1106, 1110, 1114, 1115, 1122, 1126, 1127, 1134, 1141, 1166, 1170, 1177, 1181, 1188, 1192, 1193, 1200, 1207, 1211, 1227, 1243, 1247, 1254, 497, 586, 616, 619, 656, 661, 662, 667, 698, 704, 729, 744, 754, 765, 827, 830, 839, 854, 863, 885, 890, 893, 894, 897, 902, 962, 981, 999, 1005, 1041, 1059, 1066, 1075, 1082, 1093, 1096, 1103, 1119, 1131, 1138, 1145, 1148, 1154, 1157, 1160, 1163, 1174, 1185, 1197, 1204, 1215, 1218, 1221, 1224, 1231, 1234, 1237, 1240, 1251] (by decide +kernel)
theorem ma_ml_good : ∀ w ∈ ma_ml.map (fun q => Cond.methodLink (ma_own q.1) q.2.1 (ma_y q.2.2)), goodWord w = true := List.all_eq_true.mp (by decide +kernel)
def ma_cp : List (Nat × Nat) := [(5, 22), (2, 63)]
theorem ma_cp_in : ∀ w ∈ ma_cp.map (fun q => Cond.methodLink (ma_own q.1) q.2 arraycopyName), w ∈ lw_tbl := ma_mem _ [996, 1052] (by decide +kernel)
theorem ma_cp_good : ∀ w ∈ ma_cp.map (fun q => Cond.methodLink (ma_own q.1) q.2 arraycopyName), goodWord w = true := List.all_eq_true.mp (by decide +kernel)
theorem ma_ac_in : ∀ w ∈ ([.native arraycopyName, .static arraycopyName, .initialized "java/lang/System"] : List Cond), w ∈ lw_tbl := ma_mem _ [998, 997, 57] (by decide +kernel)
theorem ma_ac_good : ∀ w ∈ ([.native arraycopyName, .static arraycopyName, .initialized "java/lang/System"] : List Cond), goodWord w = true := List.all_eq_true.mp (by decide +kernel)
def ma_mx : List (Nat × Nat) := [(4, 60), (6, 130), (7, 79)]
theorem ma_mx_in : ∀ w ∈ ma_mx.map (fun q => Cond.methodLink (ma_own q.1) q.2 ⟨"java/lang/Math", "max", "(II)I"⟩), w ∈ lw_tbl := ma_mem _ [596, 735, 838] (by decide +kernel)
theorem ma_mx_good : ∀ w ∈ ma_mx.map (fun q => Cond.methodLink (ma_own q.1) q.2 ⟨"java/lang/Math", "max", "(II)I"⟩), goodWord w = true := List.all_eq_true.mp (by decide +kernel)
theorem ma_mxs_in : ∀ w ∈ ([.static ⟨"java/lang/Math", "max", "(II)I"⟩, .initialized "java/lang/Math"] : List Cond), w ∈ lw_tbl := ma_mem _ [597, 53] (by decide +kernel)
theorem ma_mxs_good : ∀ w ∈ ([.static ⟨"java/lang/Math", "max", "(II)I"⟩, .initialized "java/lang/Math"] : List Cond), goodWord w = true := List.all_eq_true.mp (by decide +kernel)
def ma_mn : List (Nat × Nat) := [(6, 124)]
theorem ma_mn_in : ∀ w ∈ ma_mn.map (fun q => Cond.methodLink (ma_own q.1) q.2 ⟨"java/lang/Math", "min", "(II)I"⟩), w ∈ lw_tbl := ma_mem _ [751] (by decide +kernel)
theorem ma_mn_good : ∀ w ∈ ma_mn.map (fun q => Cond.methodLink (ma_own q.1) q.2 ⟨"java/lang/Math", "min", "(II)I"⟩), goodWord w = true := List.all_eq_true.mp (by decide +kernel)
theorem ma_mns_in : ∀ w ∈ ([.static ⟨"java/lang/Math", "min", "(II)I"⟩, .initialized "java/lang/Math"] : List Cond), w ∈ lw_tbl := ma_mem _ [752, 53] (by decide +kernel)
theorem ma_mns_good : ∀ w ∈ ([.static ⟨"java/lang/Math", "min", "(II)I"⟩, .initialized "java/lang/Math"] : List Cond), goodWord w = true := List.all_eq_true.mp (by decide +kernel)
def ma_md : List (Nat × Nat) := []
def ma_mN : List (Nat × Nat × Nat) := [(7, 85, 51), (1, 108, 51)]
def ma_nests : List Cond := ma_mN.map (fun q => Cond.methodLinkNest (ma_own q.1) q.2.1 (ma_y q.2.2) "Latticefit")
theorem ma_nests_in : ∀ w ∈ ma_nests, w ∈ lw_tbl := ma_mem _ [788, 868] (by decide +kernel)
def ma_thr : List (Nat × Nat × Nat × Nat) := [(10, 97, 99, 0), (10, 150, 152, 1), (10, 104, 106, 2), (10, 118, 120, 3), (10, 175, 177, 4)]
theorem ma_thr_in : ∀ w ∈ ma_thr.map (fun q => Cond.classLink (ma_own q.1) q.2.1 (ma_ex q.2.2.2)), w ∈ lw_tbl := ma_mem _ [506, 637, 675, 947, 965] (by decide +kernel)
theorem ma_thr_good : ∀ w ∈ ma_thr.map (fun q => Cond.classLink (ma_own q.1) q.2.1 (ma_ex q.2.2.2)), goodWord w = true := List.all_eq_true.mp (by decide +kernel)
def ma_hl : List (Nat × Nat) := [(15, 0), (43, 1), (22, 2), (29, 3), (48, 4)]
theorem ma_hl_in : ∀ w ∈ ma_hl.map (fun q => Cond.classLink "LatticefitLaw" q.1 (ma_ex q.2)), w ∈ lw_tbl := ma_mem _ [500, 501, 670, 905, 938] (by decide +kernel)
theorem ma_hl_good : ∀ w ∈ ma_hl.map (fun q => Cond.classLink "LatticefitLaw" q.1 (ma_ex q.2)), goodWord w = true := List.all_eq_true.mp (by decide +kernel)
def ma_cst : List (String × String) := [("java/lang/IllegalStateException", "java/lang/IllegalStateException"), ("java/lang/UnsupportedOperationException", "java/lang/UnsupportedOperationException"), ("java/lang/IllegalArgumentException", "java/lang/IllegalArgumentException"), ("java/lang/ArrayIndexOutOfBoundsException", "java/lang/ArrayIndexOutOfBoundsException"), ("java/lang/IndexOutOfBoundsException", "java/lang/IndexOutOfBoundsException"), ("java/util/NoSuchElementException", "java/util/NoSuchElementException"), ("java/lang/ArrayIndexOutOfBoundsException", "java/lang/IndexOutOfBoundsException"), ("Latticefit", "java/lang/Object"), ("Latticefit$Circuit", "java/lang/Object"), ("Latticefit$Cuts", "java/lang/Object"), ("Latticefit$Blocks", "java/lang/Object"), ("Latticefit$Places", "java/lang/Object"), ("Latticefit$Routes", "java/lang/Object"), ("Latticefit$Times", "java/lang/Object"), ("Latticefit$Frames", "java/lang/Object"), ("Latticefit$Builder", "java/lang/Object"), ("Latticefit$Chip", "java/lang/Object"), ("Latticefit$Runner", "java/lang/Object"), ("java/lang/IllegalStateException", "java/lang/Object"), ("java/lang/IllegalArgumentException", "java/lang/Object"), ("java/lang/ArrayIndexOutOfBoundsException", "java/lang/Object"), ("java/lang/IndexOutOfBoundsException", "java/lang/Object"), ("java/lang/UnsupportedOperationException", "java/lang/Object"), ("java/util/NoSuchElementException", "java/lang/Object"), ("java/lang/Throwable", "java/lang/Object"), ("java/lang/String", "java/lang/Object")]
def ma_casts : List Cond := ma_cst.map (fun q => Cond.castable q.1 q.2)
theorem ma_casts_in : ∀ w ∈ ma_casts, w ∈ lw_tbl := ma_mem _ [508, 639, 677, 928, 949, 967, 1259, 1260, 1261, 1262, 1263, 1264, 1265, 1266, 1267, 1268, 1269, 1270, 1271, 1272, 1273, 1274, 1275, 1276, 1277, 1278] (by decide +kernel)
def ma_dcl : List (MethodName) := [⟨"java/lang/RuntimeException", "<init>", "()V"⟩, ⟨"java/lang/RuntimeException", "<init>", "(Ljava/lang/String;)V"⟩, ⟨"java/lang/Exception", "<init>", "()V"⟩, ⟨"java/lang/Exception", "<init>", "(Ljava/lang/String;)V"⟩, ⟨"java/lang/Throwable", "<init>", "()V"⟩, ⟨"java/lang/Throwable", "<init>", "(Ljava/lang/String;)V"⟩, ⟨"java/lang/IndexOutOfBoundsException", "<init>", "()V"⟩, ⟨"java/lang/IndexOutOfBoundsException", "<init>", "(Ljava/lang/String;)V"⟩]
def ma_decls : List Cond := ma_dcl.map (fun q => Cond.declares q)
theorem ma_decls_in : ∀ w ∈ ma_decls, w ∈ lw_tbl := ma_mem _ [509, 510, 511, 512, 513, 514, 929, 930] (by decide +kernel)
end
section
set_option maxRecDepth 100000 in
set_option maxHeartbeats 4000000 in
theorem ma_cw0_in : ∀ w ∈ (ma_ms 0 60).map ma_cw, w ∈ lw_tbl := ma_memr _ [472, 476, 480, 484, 488, 492, 496, 499, 505, 576, 581, 585, 588, 595, 602, 606, 611, 615, 618, 621, 625, 629, 635, 655, 660, 664, 669, 674, 693, 697, 700, 706, 712, 716, 720, 724, 728, 731, 739, 743, 746, 750, 756, 760, 764, 767, 771, 775, 779, 783, 787, 790, 794, 798, 802, 806, 810, 814, 818, 822] rfl
theorem ma_cw0_good : ∀ w ∈ (ma_ms 0 60).map ma_cw, goodWord w = true := List.all_eq_true.mp (by decide +kernel)
set_option maxRecDepth 100000 in
set_option maxHeartbeats 4000000 in
theorem ma_cw1_in : ∀ w ∈ (ma_ms 60 60).map ma_cw, w ∈ lw_tbl := ma_memr _ [826, 829, 832, 837, 841, 845, 849, 853, 858, 862, 867, 872, 876, 880, 884, 889, 892, 896, 901, 904, 942, 946, 964, 983, 987, 991, 995, 1003, 1007, 1011, 1015, 1019, 1024, 1028, 1032, 1036, 1040, 1043, 1047, 1051, 1056, 1061, 1065, 1068, 1074, 1077, 1081, 1084, 1088, 1092, 1098, 1102, 1105, 1109, 1113, 1118, 1121, 1125, 1130, 1133] rfl
theorem ma_cw1_good : ∀ w ∈ (ma_ms 60 60).map ma_cw, goodWord w = true := List.all_eq_true.mp (by decide +kernel)
set_option maxRecDepth 100000 in
set_option maxHeartbeats 4000000 in
theorem ma_cw2_in : ∀ w ∈ (ma_ms 120 35).map ma_cw, w ∈ lw_tbl := ma_memr _ [1137, 1140, 1144, 1147, 1150, 1156, 1159, 1162, 1165, 1169, 1173, 1176, 1180, 1184, 1187, 1191, 1196, 1199, 1203, 1206, 1210, 1214, 1217, 1220, 1223, 1226, 1230, 1233, 1236, 1239, 1242, 1246, 1250, 1253, 1257] rfl
theorem ma_cw2_good : ∀ w ∈ (ma_ms 120 35).map ma_cw, goodWord w = true := List.all_eq_true.mp (by decide +kernel)
theorem ma_cw_ok (y : Nat) (h : y < ma_nM) : ma_cw y ∈ ma_WG := by
  have h : y < 155 := h
  by_cases h0 : y < 60
  · exact ma_WG_in (ma_cw0_in _ (List.mem_map.mpr ⟨y, List.mem_map.mpr ⟨y - 0, List.mem_range.mpr (by omega), by omega⟩, rfl⟩)) (ma_cw0_good _ (List.mem_map.mpr ⟨y, List.mem_map.mpr ⟨y - 0, List.mem_range.mpr (by omega), by omega⟩, rfl⟩))
  by_cases h1 : y < 120
  · exact ma_WG_in (ma_cw1_in _ (List.mem_map.mpr ⟨y, List.mem_map.mpr ⟨y - 60, List.mem_range.mpr (by omega), by omega⟩, rfl⟩)) (ma_cw1_good _ (List.mem_map.mpr ⟨y, List.mem_map.mpr ⟨y - 60, List.mem_range.mpr (by omega), by omega⟩, rfl⟩))
  by_cases h2 : y < 155
  · exact ma_WG_in (ma_cw2_in _ (List.mem_map.mpr ⟨y, List.mem_map.mpr ⟨y - 120, List.mem_range.mpr (by omega), by omega⟩, rfl⟩)) (ma_cw2_good _ (List.mem_map.mpr ⟨y, List.mem_map.mpr ⟨y - 120, List.mem_range.mpr (by omega), by omega⟩, rfl⟩))
  omega
set_option maxRecDepth 100000 in
theorem ma_mxc_in : ∀ w ∈ ([.code ⟨"java/lang/Math", "max", "(II)I"⟩ prog_22_method_65_code 2 (Option.some FieldType.int)] : List Cond), w ∈ lw_tbl := ma_memr _ [598] rfl
set_option maxRecDepth 100000 in
theorem ma_mnc_in : ∀ w ∈ ([.code ⟨"java/lang/Math", "min", "(II)I"⟩ prog_22_method_69_code 2 (Option.some FieldType.int)] : List Cond), w ∈ lw_tbl := ma_memr _ [753] rfl
end
section
/-! one instruction of the small machine stands for one of the JVM -/
theorem ma_RS_cons {G : ma_G} {v : ma_V} {st : List ma_V} {vs : List Value} (h : ma_RS G (v :: st) vs) : ∃ w ws, vs = w :: ws ∧ ma_Rv G v w ∧ ma_RS G st ws := by
  cases vs with
  | nil => exact h.elim
  | cons w ws => exact ⟨w, ws, rfl, h.1, h.2⟩
theorem ma_RS_nil {G : ma_G} {vs : List Value} (h : ma_RS G [] vs) : vs = [] := by
  cases vs with
  | nil => rfl
  | cons w ws => exact h.elim
theorem ma_RS_app {G : ma_G} : ∀ {as st : List ma_V} {vs : List Value}, ma_RS G (as ++ st) vs → ∃ ws rest, vs = ws ++ rest ∧ ma_RS G as ws ∧ ma_RS G st rest
  | [], st, vs, h => ⟨[], vs, rfl, trivial, h⟩
  | a :: as, st, vs, h => by
    obtain ⟨w, ws, rfl, h1, h2⟩ := ma_RS_cons (v := a) (st := as ++ st) h
    obtain ⟨ws', rest, rfl, h3, h4⟩ := ma_RS_app (as := as) h2
    exact ⟨w :: ws', rest, rfl, ⟨h1, h3⟩, h4⟩
theorem ma_RS_mk {G : ma_G} : ∀ {as st : List ma_V} {ws rest : List Value}, ma_RS G as ws → ma_RS G st rest → ma_RS G (as ++ st) (ws ++ rest)
  | [], st, ws, rest, h, h2 => by rw [ma_RS_nil h]; exact h2
  | a :: as, st, ws, rest, h, h2 => by
    obtain ⟨w, ws', rfl, h3, h4⟩ := ma_RS_cons h
    exact ⟨h3, ma_RS_mk h4 h2⟩
theorem ma_RS_len {G : ma_G} : ∀ {st : List ma_V} {vs : List Value}, ma_RS G st vs → vs.length = st.length
  | [], vs, h => by rw [ma_RS_nil h]; rfl
  | a :: as, vs, h => by
    obtain ⟨w, ws', rfl, h3, h4⟩ := ma_RS_cons h
    rw [List.length_cons, List.length_cons, ma_RS_len h4]
theorem ma_RS_rev {G : ma_G} {st : List ma_V} {vs : List Value} (h : ma_RS G st vs) : ma_RS G st.reverse vs.reverse := by
  induction st generalizing vs with
  | nil => rw [ma_RS_nil h]; exact trivial
  | cons a as ih =>
    obtain ⟨w, ws', rfl, h3, h4⟩ := ma_RS_cons h
    rw [List.reverse_cons, List.reverse_cons]
    exact ma_RS_mk (ih h4) ⟨h3, trivial⟩
theorem ma_cats {vs : List Value} : (vs.map fun v => v.category).sum ≤ 2 * vs.length := by
  induction vs with
  | nil => simp
  | cons v vs ih =>
    simp only [List.map_cons, List.sum_cons, List.length_cons]
    rcases lv_cat v with h | h <;> omega
def ma_W (p : Program) (l : Launch) (e : Env) (R : Room) (s : State) (m : MethodId) (args : Array Value) (below : List Frame) (meth : Method) (c : Code) (Q : State → Prop) (G : ma_G) (nL c0 s0 : Nat) (pc : Nat) (ls st : List ma_V) (k : Nat) (μ : ma_M) : Prop :=
  ∀ (H : Heap) (locs : List Loc) (als : Array Slot) (vs : List Value), ma_HR G s μ H → va_S (ma_A G) s.heap H locs → ma_RL G nL ls als → ma_RS G st vs → W p l e R s m args below meth c H locs (c0 + k) (s0 + 6 * k) Q (F0 m pc als vs)
/-- the words that no table list carries, the statics, the classes that don't take each other -/
def ma_EX (G : ma_G) (U : State) : Prop := (∀ w ∈ ma_nests ++ (ma_casts ++ ma_decls), va_Nw w U) ∧ vx_Zq Bundle.tN "UNASSIGNED_STACK" Bundle.steD (ma_A G) U U.heap ∧ vx_Zq Bundle.tN "SUPPRESSED_SENTINEL" Bundle.listD (ma_A G) U U.heap ∧ va_Z "Latticefit$Blocks" "PATTERNS" "[I" (.ref (G.ad 1 0)) (ma_A G) U U.heap ∧ (∀ i j, i < 5 → j < 5 → i ≠ j → va_Nc (ma_ex i) (ma_ex j) U)
theorem ma_nests_moved {s U : State} (hW : s.WarmedH U.vm) (h : ∀ w ∈ ma_nests ++ (ma_casts ++ ma_decls), va_Nw w s) : ∀ w ∈ ma_nests ++ (ma_casts ++ ma_decls), va_Nw w U := by
  intro w hw
  have h1 := h w hw
  rcases List.mem_append.mp hw with q | q
  · obtain ⟨x, -, rfl⟩ := List.mem_map.mp q
    exact va_Nw.warmM hW h1
  · rcases List.mem_append.mp q with q | q
    · obtain ⟨x, -, rfl⟩ := List.mem_map.mp q
      exact va_Nw.warmC hW h1
    · obtain ⟨x, -, rfl⟩ := List.mem_map.mp q
      exact va_Nw.warmD hW h1
def ma_KX (G : ma_G) (U : State) : Prop := ma_KK G U ∧ ma_AD G ∧ G.h0 ≤ U.heap.size ∧ ma_EX G U
theorem ma_KX.moved {G : ma_G} {s U : State} {locs : List Loc} (hW : s.WarmedH U.vm) (hS : va_S (ma_A G) s.heap U.heap locs) (h : ma_KX G s) : ma_KX G U := by
  obtain ⟨h1, h2, h3, e1, e2, e3, e4, e5⟩ := h
  have hvm := hW.alike
  exact ⟨h1.moved hvm, h2, Nat.le_trans h3 hS.1, ma_nests_moved hW e1, vx_Zq.moved hvm (e2.kept hS.2.1), vx_Zq.moved hvm (e3.kept hS.2.1), va_Z.moved hvm (e4.kept hS.2.1), fun i j hi hj hij => va_Nc.moved hvm (e5 i j hi hj hij)⟩
theorem ma_KX.blind {G : ma_G} {U : State} {g : JFrame} {mk : MethodId} {a : Array Value} (h : ma_KX G U) : ma_KX G (U.calling g mk a) := by
  obtain ⟨h1, h2, h3, e1, e2, e3, e4, e5⟩ := h
  have hvm : U.vm.Alike (U.calling g mk a).vm := Vm.Alike.refl U.vm
  refine ⟨h1.moved hvm, h2, h3, fun w hw => ?_, vx_Zq.moved hvm e2, vx_Zq.moved hvm e3, va_Z.moved hvm e4, fun i j hi hj hij => va_Nc.moved hvm (e5 i j hi hj hij)⟩
  have hq : w.onTables = true := by
    rcases List.mem_append.mp hw with q | q
    · obtain ⟨x, -, rfl⟩ := List.mem_map.mp q; rfl
    · rcases List.mem_append.mp q with q | q
      · obtain ⟨x, -, rfl⟩ := List.mem_map.mp q; rfl
      · obtain ⟨x, -, rfl⟩ := List.mem_map.mp q; rfl
  exact va_Nw.same (u := U) hq rfl (e1 w hw)
def ma_Cx (p : Program) (s : State) (m : MethodId) (args : Array Value) (c : Code) (G : ma_G) (cc : ByteArray) (o nL : Nat) : Prop :=
  p.tables.exec = Jvm.exec ∧ c.code = cc ∧ c.maxLocals = nL ∧ s.vm.findClass (ma_own o) = some m.cls ∧ (∀ w ∈ ma_WG, w.before args s = true) ∧ ma_KK G s ∧ ma_AD G ∧ G.h0 ≤ s.heap.size ∧ ma_EX G s
section STP
variable {p : Program} {l : Launch} {e : Env} {R : Room} {s : State} {m : MethodId} {args : Array Value} {below : List Frame} {meth : Method} {c : Code} {Q : State → Prop} {G : ma_G} {cc : ByteArray} {o nL c0 s0 pc pc' k : Nat} {ls st : List ma_V} {μ : ma_M}
/-- the heap stays, the locals stay -/
theorem ma_pure {as bs : List ma_V} (hrow : ∀ (H : Heap) (locs : List Loc) (als : Array Slot) (ws : List Value), ma_HR G s μ H → va_S (ma_A G) s.heap H locs → ma_RL G nL ls als → ma_RS G as ws → ∃ bs', ma_RS G bs bs' ∧ ∀ (cells slots : Nat) (rest : List Value), W p l e R s m args below meth c H locs cells slots Q (F0 m pc' als (bs' ++ rest)) → W p l e R s m args below meth c H locs cells slots Q (F0 m pc als (ws ++ rest)))
    (hk : ma_W p l e R s m args below meth c Q G nL c0 s0 pc' ls (bs ++ st) k μ) : ma_W p l e R s m args below meth c Q G nL c0 s0 pc ls (as ++ st) k μ := by
  intro H locs als vs hH hS hL hR
  obtain ⟨ws, rest, rfl, h1, h2⟩ := ma_RS_app hR
  obtain ⟨bs', h3, h4⟩ := hrow H locs als ws hH hS hL h1
  exact h4 _ _ _ (hk H locs als _ hH hS hL (ma_RS_mk h3 h2))
theorem ma_bI {f : Int → Int → Int} {F : Int32 → Int32 → Int32} {x y : Int} (hF : ∀ a b, (F a b).toInt = f a.toInt b.toInt) (row : ∀ (a b : Int32), a.toInt = x → b.toInt = y → ∀ (H : Heap) (locs : List Loc) (als : Array Slot) (cells slots : Nat) (rest : List Value), W p l e R s m args below meth c H locs cells slots Q (F0 m pc' als (.int (F a b) :: rest)) → W p l e R s m args below meth c H locs cells slots Q (F0 m pc als (.int b :: .int a :: rest)))
    (hk : ma_W p l e R s m args below meth c Q G nL c0 s0 pc' ls (ma_I (f x y) :: st) k μ) : ma_W p l e R s m args below meth c Q G nL c0 s0 pc ls (ma_I y :: ma_I x :: st) k μ := by
  intro H locs als vs hH hS hL hR
  obtain ⟨_, vs2, rfl, ⟨b, rfl, hb⟩, hR2⟩ := ma_RS_cons hR
  obtain ⟨_, vs3, rfl, ⟨a, rfl, ha⟩, hR3⟩ := ma_RS_cons hR2
  exact row a b ha hb _ _ _ _ _ _ (hk H locs als _ hH hS hL ⟨⟨_, rfl, by rw [hF, ha, hb]⟩, hR3⟩)
theorem ma_bL {f : Int → Int → Int} {F : Int64 → Int64 → Int64} {x y : Int} (hF : ∀ a b, (F a b).toInt = f a.toInt b.toInt) (row : ∀ (a b : Int64), a.toInt = x → b.toInt = y → ∀ (H : Heap) (locs : List Loc) (als : Array Slot) (cells slots : Nat) (rest : List Value), W p l e R s m args below meth c H locs cells slots Q (F0 m pc' als (.long (F a b) :: rest)) → W p l e R s m args below meth c H locs cells slots Q (F0 m pc als (.long b :: .long a :: rest)))
    (hk : ma_W p l e R s m args below meth c Q G nL c0 s0 pc' ls (ma_L (f x y) :: st) k μ) : ma_W p l e R s m args below meth c Q G nL c0 s0 pc ls (ma_L y :: ma_L x :: st) k μ := by
  intro H locs als vs hH hS hL hR
  obtain ⟨_, vs2, rfl, ⟨b, rfl, hb⟩, hR2⟩ := ma_RS_cons hR
  obtain ⟨_, vs3, rfl, ⟨a, rfl, ha⟩, hR3⟩ := ma_RS_cons hR2
  exact row a b ha hb _ _ _ _ _ _ (hk H locs als _ hH hS hL ⟨⟨_, rfl, by rw [hF, ha, hb]⟩, hR3⟩)
theorem ma_bS {f : Int → Int → Int} {F : Int64 → Int32 → Int64} {x y : Int} (hF : ∀ a b, (F a b).toInt = f a.toInt b.toInt) (row : ∀ (a : Int64) (b : Int32) (H : Heap) (locs : List Loc) (als : Array Slot) (cells slots : Nat) (rest : List Value), W p l e R s m args below meth c H locs cells slots Q (F0 m pc' als (.long (F a b) :: rest)) → W p l e R s m args below meth c H locs cells slots Q (F0 m pc als (.int b :: .long a :: rest)))
    (hk : ma_W p l e R s m args below meth c Q G nL c0 s0 pc' ls (ma_L (f x y) :: st) k μ) : ma_W p l e R s m args below meth c Q G nL c0 s0 pc ls (ma_I y :: ma_L x :: st) k μ := by
  intro H locs als vs hH hS hL hR
  obtain ⟨_, vs2, rfl, ⟨b, rfl, hb⟩, hR2⟩ := ma_RS_cons hR
  obtain ⟨_, vs3, rfl, ⟨a, rfl, ha⟩, hR3⟩ := ma_RS_cons hR2
  exact row a b _ _ _ _ _ _ (hk H locs als _ hH hS hL ⟨⟨_, rfl, by rw [hF, ha, hb]⟩, hR3⟩)
theorem ma_oI (x : Int32) : Int32.ofInt x.toInt = x := by simp
theorem ma_oL (x : Int64) : Int64.ofInt x.toInt = x := by simp
theorem ma_f_add (a b : Int32) : (a + b).toInt = ma_wI (a.toInt + b.toInt) := by simp [ma_wI]
theorem ma_f_sub (a b : Int32) : (a - b).toInt = ma_wI (a.toInt - b.toInt) := by simp [ma_wI]
theorem ma_f_mul (a b : Int32) : (a * b).toInt = ma_wI (a.toInt * b.toInt) := by simp [ma_wI]
theorem ma_f_div (a b : Int32) : (a / b).toInt = ma_wI (a.toInt.tdiv b.toInt) := by simp [ma_wI, Int32.toInt_div]
theorem ma_f_rem (a b : Int32) : (a % b).toInt = a.toInt.tmod b.toInt := by simp
theorem ma_f_and (a b : Int32) : (a &&& b).toInt = ma_and a.toInt b.toInt := by simp only [ma_and, ma_oI]
theorem ma_f_or (a b : Int32) : (a ||| b).toInt = ma_or a.toInt b.toInt := by simp only [ma_or, ma_oI]
theorem ma_f_xor (a b : Int32) : (a ^^^ b).toInt = ma_xor a.toInt b.toInt := by simp only [ma_xor, ma_oI]
theorem ma_f_shl (a b : Int32) : (a <<< (b &&& 31)).toInt = ma_shl a.toInt b.toInt := by simp only [ma_shl, ma_oI]
theorem ma_f_shr (a b : Int32) : (a >>> (b &&& 31)).toInt = ma_shr a.toInt b.toInt := by simp only [ma_shr, ma_oI]
theorem ma_f_ushr (a b : Int32) : ((a.toUInt32 >>> (b.toUInt32 &&& Int32.toUInt32 31)).toInt32).toInt = ma_ushr a.toInt b.toInt := by simp only [ma_ushr, ma_oI]
theorem ma_f_ladd (a b : Int64) : (a + b).toInt = ma_wL (a.toInt + b.toInt) := by simp [ma_wL]
theorem ma_f_lsub (a b : Int64) : (a - b).toInt = ma_wL (a.toInt - b.toInt) := by simp [ma_wL]
theorem ma_f_lmul (a b : Int64) : (a * b).toInt = ma_wL (a.toInt * b.toInt) := by simp [ma_wL]
theorem ma_f_ldiv (a b : Int64) : (a / b).toInt = ma_wL (a.toInt.tdiv b.toInt) := by simp [ma_wL, Int64.toInt_div]
theorem ma_f_lrem (a b : Int64) : (a % b).toInt = a.toInt.tmod b.toInt := by simp
theorem ma_f_land (a b : Int64) : (a &&& b).toInt = ma_land a.toInt b.toInt := by simp only [ma_land, ma_oL]
theorem ma_f_lor (a b : Int64) : (a ||| b).toInt = ma_lor a.toInt b.toInt := by simp only [ma_lor, ma_oL]
theorem ma_f_lshl (a : Int64) (b : Int32) : (a <<< (b.toInt64 &&& 63)).toInt = ma_lshl a.toInt b.toInt := by simp only [ma_lshl, ma_oL, ma_oI]
theorem ma_f_lshr (a : Int64) (b : Int32) : (a >>> (b.toInt64 &&& 63)).toInt = ma_lshr a.toInt b.toInt := by simp only [ma_lshr, ma_oL, ma_oI]
theorem ma_f_lushr (a : Int64) (b : Int32) : ((a.toUInt64 >>> (b.toInt64.toUInt64 &&& Int64.toUInt64 63)).toInt64).toInt = ma_lushr a.toInt b.toInt := by simp only [ma_lushr, ma_oL, ma_oI]
theorem ma_ne0 {b : Int32} {y : Int} (h : b.toInt = y) (hy : y ≠ 0) : ¬ b = 0 := fun z => hy (by rw [← h, z]; rfl)
theorem ma_ne0L {b : Int64} {y : Int} (h : b.toInt = y) (hy : y ≠ 0) : ¬ b = 0 := fun z => hy (by rw [← h, z]; rfl)
theorem ma_f_i2c (a : Int32) : ((a.toUInt32 % 65536).toInt32).toInt = a.toInt % 65536 := by
  have h1 := Int32.toInt_lt a
  have h2 := Int32.le_toInt a
  have e : a.toUInt32.toNat = (a.toInt % 4294967296).toNat := by
    have : a.toInt = (a.toUInt32.toNat : Int).bmod 4294967296 := by
      show a.toBitVec.toInt = _
      rw [BitVec.toInt_eq_toNat_bmod]; rfl
    have h3 : a.toUInt32.toNat < 4294967296 := a.toUInt32.toNat_lt
    rw [this]
    simp only [Int.bmod_def]
    omega
  have h4 : (a.toUInt32 % 65536).toNat = a.toUInt32.toNat % 65536 := by simp
  have h5 : ((a.toUInt32 % 65536).toInt32).toInt = ((a.toUInt32 % 65536).toNat : Int) := by
    have h6 : (a.toUInt32 % 65536).toNat < 65536 := by rw [h4]; omega
    show (a.toUInt32 % 65536).toBitVec.toInt = _
    rw [BitVec.toInt_eq_toNat_bmod]
    show ((a.toUInt32 % 65536).toNat : Int).bmod 4294967296 = _
    simp only [Int.bmod_def]
    omega
  rw [h5, h4, e]
  omega
/-- loads -/
theorem ma_load {i : Nat} {v : ma_V} (hv : v ≠ ma_U) (hg : ls.getD i ma_U = v) (row : ∀ (w : Value), ma_Rv G v w → ∀ (H : Heap) (locs : List Loc) (als : Array Slot) (cells slots : Nat) (rest : List Value), als[i]? = some (.val w) → W p l e R s m args below meth c H locs cells slots Q (F0 m pc' als (w :: rest)) → W p l e R s m args below meth c H locs cells slots Q (F0 m pc als rest))
    (hk : ma_W p l e R s m args below meth c Q G nL c0 s0 pc' ls (v :: st) k μ) : ma_W p l e R s m args below meth c Q G nL c0 s0 pc ls st k μ := by
  intro H locs als vs hH hS hL hR
  obtain ⟨w, h1, h2⟩ := hL.get hg hv
  exact row w h2 _ _ _ _ _ _ h1 (hk H locs als _ hH hS hL ⟨h2, hR⟩)
/-- stores into locals -/
theorem ma_sto1 {i : Nat} {v : ma_V} (hi : i < ls.length) (row : ∀ (w : Value), ma_Rv G v w → ∀ (H : Heap) (locs : List Loc) (als : Array Slot) (cells slots : Nat) (rest : List Value) (lv : List (Nat × Value)), i < nL → lv_has als nL lv → (∀ als1, lv_has als1 nL ((i, w) :: lv.filter (fun q => !(q.1 == i) && !(q.1 + 1 == i && q.2.category == 2))) → W p l e R s m args below meth c H locs cells slots Q (F0 m pc' als1 rest)) → W p l e R s m args below meth c H locs cells slots Q (F0 m pc als (w :: rest)))
    (hk : ma_W p l e R s m args below meth c Q G nL c0 s0 pc' (ma_st1 ls i v) st k μ) : ma_W p l e R s m args below meth c Q G nL c0 s0 pc ls (v :: st) k μ := by
  intro H locs als vs hH hS hL hR
  obtain ⟨w, vs, rfl, hw, hR⟩ := ma_RS_cons hR
  obtain ⟨lv, h1, h2⟩ := ma_lvfull hL.2.1 hL.2.2.1
  exact row w hw _ _ _ _ _ _ lv (by rw [← hL.1]; exact hi) h1 (fun als1 h3 => hk H locs als1 vs hH hS (hL.st1 h2 rfl h3 hw) hR)
theorem ma_sto2 {i : Nat} {v : ma_V} (hi : i + 1 < ls.length) (row : ∀ (w : Value), ma_Rv G v w → ∀ (H : Heap) (locs : List Loc) (als : Array Slot) (cells slots : Nat) (rest : List Value) (lv : List (Nat × Value)), i + 1 < nL → lv_has als nL lv → (∀ als1, lv_has als1 nL ((i, w) :: lv.filter (fun q => !(q.1 == i) && (!(q.1 == i + 1) && !(q.1 + 1 == i && q.2.category == 2)))) → W p l e R s m args below meth c H locs cells slots Q (F0 m pc' als1 rest)) → W p l e R s m args below meth c H locs cells slots Q (F0 m pc als (w :: rest)))
    (hk : ma_W p l e R s m args below meth c Q G nL c0 s0 pc' (ma_st2 ls i v) st k μ) : ma_W p l e R s m args below meth c Q G nL c0 s0 pc ls (v :: st) k μ := by
  intro H locs als vs hH hS hL hR
  obtain ⟨w, vs, rfl, hw, hR⟩ := ma_RS_cons hR
  obtain ⟨lv, h1, h2⟩ := ma_lvfull hL.2.1 hL.2.2.1
  exact row w hw _ _ _ _ _ _ lv (by rw [← hL.1]; exact hi) h1 (fun als1 h3 => hk H locs als1 vs hH hS (hL.st2 h2 hi rfl h3 hw) hR)
/-- constants -/
theorem ma_psh {v : ma_V} {w : Value} (hw : ma_Rv G v w) (row : ∀ (H : Heap) (locs : List Loc) (als : Array Slot) (cells slots : Nat) (rest : List Value), W p l e R s m args below meth c H locs cells slots Q (F0 m pc' als (w :: rest)) → W p l e R s m args below meth c H locs cells slots Q (F0 m pc als rest))
    (hk : ma_W p l e R s m args below meth c Q G nL c0 s0 pc' ls (v :: st) k μ) : ma_W p l e R s m args below meth c Q G nL c0 s0 pc ls st k μ := by
  intro H locs als vs hH hS hL hR
  exact row _ _ _ _ _ _ (hk H locs als _ hH hS hL ⟨hw, hR⟩)
end STP
end
section
/-! fields and arrays -/
section MEM
variable {p : Program} {l : Launch} {e : Env} {R : Room} {s : State} {m : MethodId} {args : Array Value} {below : List Frame} {meth : Method} {c : Code} {Q : State → Prop} {G : ma_G} {cc : ByteArray} {o nL c0 s0 pc pc' k : Nat} {ls st : List ma_V} {μ : ma_M}
variable {H : Heap} {locs : List Loc} {als : Array Slot} {cells slots : Nat} {rest : List Value}
theorem ma_fl_word {o i ci f : Nat} (h : (o, i, ci, f) ∈ ma_fl) : Cond.fieldLink (ma_own o) i (ma_C ci) (ma_T ci f).2.1 (ma_T ci f).2.2.1 ∈ ma_WG :=
  ma_WG_in (ma_fl_in _ (List.mem_map.mpr ⟨_, h, rfl⟩)) (ma_fl_good _ (List.mem_map.mpr ⟨_, h, rfl⟩))
theorem ma_getF (C : ma_Cx p s m args c G cc o nL) {kk : Nat} {r : Int} {ci f i : Nat} (hH : ma_HR G s μ H) (hv : ma_val G kk r) (hc : (ma_ck kk).1 = 10 + ci) (hci : ci < 11) (hf : f < ma_N ci) (hl : (o, i, ci, f) ∈ ma_fl) (hd : decode cc pc = .ok (.getfield i, 3))
    (hk : W p l e R s m args below meth c H locs cells slots Q (F0 m (pc + 3) als (ma_fv G μ kk r ci f :: rest))) : W p l e R s m args below meth c H locs cells slots Q (F0 m pc als (.ref (G.ad kk r) :: rest)) := by
  obtain ⟨hx, hb, hml, ho, hts, hK, hA, hsz⟩ := C
  have hob := ((hH kk r hv).2.2.2 ci hc).1
  have hKn := hK.2.2 ci hci
  refine va_get (D := (fun _ => G.dC ci, fun _ => G.dI ci)) (cl := [(ma_C ci, ma_T ci, ma_N ci)]) (tys := []) (ws := [(G.ad kk r, .inr (0, (List.range (ma_N ci)).map (fun f => ma_fv G μ kk r ci f)))]) (ci := 0) (own := ma_own o) (ref := ma_C ci) (C := ma_C ci) (T := ma_T ci) (N := ma_N ci) (index := i) hx hb hts (ma_u_in ci hci) ho ?_ ?_ 0 rfl rfl f hf (hts _ (ma_fl_word hl)) ?_ ?_ hd hk
  · refine ⟨fun j q hq => ?_, fun j q hq => by simp at hq⟩
    have hz : j < 1 := (List.getElem?_eq_some_iff.mp hq).1
    have hj : j = 0 := by omega
    subst hj
    cases hq
    exact hKn
  · intro j q hq
    have hz : j < 1 := (List.getElem?_eq_some_iff.mp hq).1
    have hj : j = 0 := by omega
    subst hj
    cases hq
    refine ⟨_, rfl, hob.to fun j hj => ?_⟩
    simp [vp_V, List.getD_eq_getElem?_getD, hj]
  · intro x hx2
    rw [ma_decl_ok ci hci f hf] at hx2
    exact hx2
  · simp [hf]
theorem ma_putF (C : ma_Cx p s m args c G cc o nL) {kk : Nat} {r : Int} {ci f i : Nat} {v : Int} {w : Value} (hH : ma_HR G s μ H) (hS : va_S (ma_A G) s.heap H locs) (hv : ma_val G kk r) (h2 : 2 ≤ kk) (hc : (ma_ck kk).1 = 10 + ci) (hci : ci < 11) (hf : f < ma_N ci) (hl : (o, i, ci, f) ∈ ma_fl) (hfin : (ma_T ci f).2.2.2 = false) (hd : decode cc pc = .ok (.putfield i, 3))
    (hn : narrow (ma_fty ci f) w = w) (hfit : fits (ma_fty ci f) w = true) (hw : ma_fv G (ma_up μ kk r f v) kk r ci f = w) (hcan : ma_fcan G kk ci f v)
    (hk : ∀ (H1 : Heap) (locs1 : List Loc), ma_HR G s (ma_up μ kk r f v) H1 → va_S (ma_A G) s.heap H1 locs1 → W p l e R s m args below meth c H1 locs1 cells slots Q (F0 m (pc + 3) als rest)) : W p l e R s m args below meth c H locs cells slots Q (F0 m pc als (w :: .ref (G.ad kk r) :: rest)) := by
  obtain ⟨hx, hb, hml, ho, hts, hK, hA, hsz⟩ := C
  obtain ⟨hob, hca⟩ := (hH kk r hv).2.2.2 ci hc
  have hKn := hK.2.2 ci hci
  have hap := va_apart (own := ma_own o) (D := (fun _ => G.dC ci, fun _ => G.dI ci)) (cl := [(ma_C ci, ma_T ci, ma_N ci)]) (tys := []) (ci := 0) hts (ma_u_in ci hci) (ma_fty ci) (ma_ty_ok ci hci) (ma_nm_ok ci hci) (s := s) ⟨fun j q hq => by
    have hz : j < 1 := (List.getElem?_eq_some_iff.mp hq).1
    have hj : j = 0 := by omega
    subst hj
    cases hq
    exact hKn, fun j q hq => by simp at hq⟩ rfl
  obtain ⟨cell, q1, q2, q3, q4⟩ := hob
  obtain ⟨hSl, hfc, kC, hkC, hkind⟩ := hKn
  obtain ⟨cf, kf, fi, fd, hi, hsl⟩ := hSl f hf
  have hlay := hts _ (ma_u_in ci hci _ (u_in_lay hf))
  unfold u_lay at hlay
  rw [if_neg (by rw [hfin]; decide)] at hlay
  have hst := (u_facts hfc hkC (u_lays hts (ma_u_in ci hci) hf) hi).1
  have h6 := u_store hfc hkC hkind hlay hi (ma_ty_ok ci hci f hf) hn hfit
  have hi2 : s.fieldFound? (ma_C ci) (ma_T ci f).2.1 (ma_T ci f).2.2.1 = some (cf, kf, fi, fd) := by
    rw [ma_decl_ok ci hci f hf] at hi; exact hi
  refine W.putK hx hb (f := fd) (own := ma_own o) (ref := ma_C ci) (index := i) ⟨ho, hts _ (ma_fl_word hl), ⟨_, _, _, hi2⟩, hst⟩ (by rw [q2]; exact h6) q1 q3 (by rw [hsl]; exact k2_hasslot (q4 f hf)) rfl rfl hd fun H' e1 e2 e3 => ?_
  rw [hsl] at e1 ⊢
  refine hk H' _ ?_ (hS.put e2 e3 (hA.2.1 kk r hv h2))
  refine hH.keep hA hv rfl e3 (fun k' r' i' hne => ?_) ⟨fun z => by omega, fun ci' hc' => ?_⟩ (Or.inr (by omega))
  · show (if k' = kk ∧ r' = r ∧ i' = (f : Int) then v else μ k' r' i') = μ k' r' i'
    rw [if_neg (fun z => hne ⟨z.1, z.2.1⟩)]
  · have hcc : ci' = ci := by omega
    subst hcc
    have hupd : ∀ j : Nat, j ≠ f → ma_up μ kk r f v kk r j = μ kk r j := fun j hj => by
      show (if kk = kk ∧ r = r ∧ (j : Int) = (f : Int) then v else μ kk r j) = _
      rw [if_neg (fun z => hj (by exact_mod_cast z.2.2))]
    refine ⟨t_OB.to (V := updV (fun f => ma_fv G μ kk r ci' f) f w) ⟨_, e1, q2, q3, t_set q4 hap hf w⟩ (fun j hj => ?_), fun j hj => ?_⟩
    · by_cases hjf : j = f
      · subst hjf; simp only [updV, if_true]; exact hw.symm
      · simp only [updV, if_neg hjf, ma_fv, hupd j hjf]
    · by_cases hjf : j = f
      · subst hjf
        show ma_fcan G kk ci' j (if kk = kk ∧ r = r ∧ (j : Int) = (j : Int) then v else μ kk r j)
        rw [if_pos ⟨rfl, rfl, rfl⟩]; exact hcan
      · rw [hupd j hjf]; exact hca j hj
/-- a place of an array, as the machine counts it -/
theorem ma_idx {x : Int32} {i : Int} {n : Nat} (hx : x.toInt = i) (h : 0 ≤ i ∧ i < (n : Int)) : ¬ (x < 0 ∨ n ≤ x.toNatClampNeg) ∧ x.toNatClampNeg = i.toNat ∧ x.toNatClampNeg < n ∧ ((x.toNatClampNeg : Nat) : Int) = i := by
  have e : x.toNatClampNeg = i.toNat := by rw [← hx]; rfl
  have h1 : ¬ x < 0 := fun z => by
    rw [Int32.lt_iff_toInt_lt, hx] at z
    have : (0 : Int32).toInt = 0 := rfl
    omega
  refine ⟨fun z => ?_, e, by omega, by omega⟩
  rcases z with z | z
  · exact h1 z
  · omega
theorem ma_arr (C : ma_Cx p s m args c G cc o nL) {kk : Nat} {r : Int} (hH : ma_HR G s μ H) (hv : ma_val G kk r) (hc : (ma_ck kk).1 ≤ 4) :
    H[G.ad kk r]? = some (arrV (G.dA (ma_ck kk).1) (ma_ck kk).2.1 (fun j => ma_cv (ma_ck kk).1 (μ kk r j))) ∧ s.isArrayOf (arrV (G.dA (ma_ck kk).1) (ma_ck kk).2.1 (fun j => ma_cv (ma_ck kk).1 (μ kk r j))) (ma_fat (ma_ck kk).1) ∧ ∀ i : Int, 0 ≤ i → i < ((ma_ck kk).2.1 : Int) → ma_can (ma_ck kk).1 (μ kk r i) := by
  obtain ⟨h1, h2⟩ := (hH kk r hv).1 hc
  exact ⟨h1, C.2.2.2.2.2.1.1 _ (by omega) _ _, h2⟩
/-- what a store into an array leaves -/
theorem ma_stA (C : ma_Cx p s m args c G cc o nL) {kk : Nat} {r : Int} {i v : Int} {w : Value} {H' : Heap} {j : Nat} (hH : ma_HR G s μ H) (hS : va_S (ma_A G) s.heap H locs) (hv : ma_val G kk r) (h2 : 2 ≤ kk) (hc : (ma_ck kk).1 ≤ 4) (hj : (j : Int) = i)
    (e1 : H'[G.ad kk r]? = some ((arrV (G.dA (ma_ck kk).1) (ma_ck kk).2.1 (fun j => ma_cv (ma_ck kk).1 (μ kk r j))).setSlot j w)) (e2 : H'.size = H.size) (e3 : ∀ q, q ≠ G.ad kk r → H'[q]? = H[q]?) (hw : ma_cv (ma_ck kk).1 v = w) (hcan : ma_can (ma_ck kk).1 v) :
    ma_HR G s (ma_up μ kk r i v) H' ∧ va_S (ma_A G) s.heap H' (locs ++ [⟨G.ad kk r, j⟩]) := by
  obtain ⟨hx, hb, hml, ho, hts, hK, hA, hsz⟩ := C
  refine ⟨?_, hS.put e2 e3 (hA.2.1 kk r hv h2)⟩
  have hca := ((hH kk r hv).1 hc).2
  refine hH.keep hA hv rfl e3 (fun k' r' i' hne => ?_) ⟨fun _ => ⟨?_, fun x hx0 hx1 => ?_⟩, fun ci hci => by omega⟩ (Or.inl hc)
  · show (if k' = kk ∧ r' = r ∧ i' = i then v else μ k' r' i') = μ k' r' i'
    rw [if_neg (fun z => hne ⟨z.1, z.2.1⟩)]
  · rw [e1, arrV_store]
    congr 2
    funext x
    show (if x = j then w else _) = ma_cv _ (if kk = kk ∧ r = r ∧ (x : Int) = i then v else μ kk r x)
    by_cases hxj : x = j
    · subst hxj
      rw [if_pos rfl, if_pos ⟨rfl, rfl, hj⟩, hw]
    · rw [if_neg hxj, if_neg (fun z => hxj (by have := z.2.2; omega))]
  · show ma_can _ (if kk = kk ∧ r = r ∧ x = i then v else μ kk r x)
    by_cases hxi : x = i
    · rw [if_pos ⟨rfl, rfl, hxi⟩]; exact hcan
    · rw [if_neg (fun z => hxi z.2.2)]; exact hca x hx0 hx1
theorem ma_rng (x : Int32) : -2147483648 ≤ x.toInt ∧ x.toInt < 2147483648 := ⟨Int32.le_toInt x, Int32.toInt_lt x⟩
theorem ma_rngL (x : Int64) : -9223372036854775808 ≤ x.toInt ∧ x.toInt < 9223372036854775808 := ⟨Int64.le_toInt x, Int64.toInt_lt x⟩
theorem ma_back {n : Int} (h : -2147483648 ≤ n ∧ n < 2147483648) : (Int32.ofInt n).toInt = n := by
  rw [Int32.toInt_ofInt]; show Int.bmod n 4294967296 = n; simp only [Int.bmod_def]; omega
theorem ma_backL {n : Int} (h : -9223372036854775808 ≤ n ∧ n < 9223372036854775808) : (Int64.ofInt n).toInt = n := by
  rw [Int64.toInt_ofInt]; show Int.bmod n 18446744073709551616 = n; simp only [Int.bmod_def]; omega
end MEM
end
section
/-! one instruction of the small machine: those that are no call and no end -/
theorem ma_pI_e {st : List ma_V} {f : Int → List ma_V → Prop} (h : ma_pI st f) : ∃ n st', st = ma_I n :: st' ∧ f n st' := by
  rcases st with _ | ⟨n | n | a | b | b | q | u, st⟩ <;> first | exact ⟨_, _, rfl, h⟩ | exact h.elim
theorem ma_gI_e {v : ma_V} {f : Int → Prop} (h : ma_gI v f) : ∃ n, v = ma_I n ∧ f n := by
  rcases v with n | n | a | b | b | q | u <;> first | exact ⟨_, rfl, h⟩ | exact h.elim
theorem ma_pL_e {st : List ma_V} {f : Int → List ma_V → Prop} (h : ma_pL st f) : ∃ n st', st = ma_L n :: st' ∧ f n st' := by
  rcases st with _ | ⟨n | n | a | b | b | q | u, st⟩ <;> first | exact ⟨_, _, rfl, h⟩ | exact h.elim
theorem ma_gL_e {v : ma_V} {f : Int → Prop} (h : ma_gL v f) : ∃ n, v = ma_L n ∧ f n := by
  rcases v with n | n | a | b | b | q | u <;> first | exact ⟨_, rfl, h⟩ | exact h.elim
theorem ma_pD_e {st : List ma_V} {f : UInt64 → List ma_V → Prop} (h : ma_pD st f) : ∃ n st', st = ma_D n :: st' ∧ f n st' := by
  rcases st with _ | ⟨n | n | a | b | b | q | u, st⟩ <;> first | exact ⟨_, _, rfl, h⟩ | exact h.elim
theorem ma_gD_e {v : ma_V} {f : UInt64 → Prop} (h : ma_gD v f) : ∃ n, v = ma_D n ∧ f n := by
  rcases v with n | n | a | b | b | q | u <;> first | exact ⟨_, rfl, h⟩ | exact h.elim
theorem ma_pF_e {st : List ma_V} {f : UInt32 → List ma_V → Prop} (h : ma_pF st f) : ∃ n st', st = ma_F n :: st' ∧ f n st' := by
  rcases st with _ | ⟨n | n | a | b | b | q | u, st⟩ <;> first | exact ⟨_, _, rfl, h⟩ | exact h.elim
theorem ma_gF_e {v : ma_V} {f : UInt32 → Prop} (h : ma_gF v f) : ∃ n, v = ma_F n ∧ f n := by
  rcases v with n | n | a | b | b | q | u <;> first | exact ⟨_, rfl, h⟩ | exact h.elim
theorem ma_pR_e {st : List ma_V} {f : Nat → Int → List ma_V → Prop} (h : ma_pR st f) : ∃ a r st', st = ma_Rf a r :: st' ∧ f a r st' := by
  rcases st with _ | ⟨n | n | a | b | b | q | u, st⟩ <;> first | exact ⟨_, _, _, rfl, h⟩ | exact h.elim
theorem ma_gR_e {v : ma_V} {f : Nat → Int → Prop} (h : ma_gR v f) : ∃ a r, v = ma_Rf a r ∧ f a r := by
  rcases v with n | n | a | b | b | q | u <;> first | exact ⟨_, _, rfl, h⟩ | exact h.elim
theorem ma_pA_e {st : List ma_V} {f : ma_V → List ma_V → Prop} (h : ma_pA st f) : ∃ v st', st = v :: st' ∧ ma_c2 v = false ∧ v ≠ ma_U ∧ f v st' := by
  rcases st with _ | ⟨v, st⟩
  · exact h.elim
  · exact ⟨_, _, rfl, h⟩
theorem ma_p0_e {st : List ma_V} {f : Prop} (h : ma_p0 st f) : st = [] ∧ f := by
  rcases st with _ | ⟨v, st⟩
  · exact ⟨rfl, h⟩
  · exact h.elim
theorem ma_wI_id {n : Int} (h : ma_r32 n) : ma_wI n = n := by
  obtain ⟨h1, h2⟩ := h
  simp only [ma_wI, Int.bmod_def]
  omega
theorem ma_neU_I {n : Int} : ma_I n ≠ ma_U := fun z => by cases z
theorem ma_neU_L {n : Int} : ma_L n ≠ ma_U := fun z => by cases z
theorem ma_neU_R {a : Nat} {r : Int} : ma_Rf a r ≠ ma_U := fun z => by cases z
theorem ma_neU_D {n : UInt64} : ma_D n ≠ ma_U := fun z => by cases z
theorem ma_neU_F {n : UInt32} : ma_F n ≠ ma_U := fun z => by cases z
theorem ma_f_remK (a b : Int32) : (a - a / b * b).toInt = a.toInt.tmod b.toInt := by
  have e : (a - a / b * b).toInt = (a.toInt - a.toInt.tdiv b.toInt * b.toInt).bmod 4294967296 := by simp [Int32.toInt_div]
  have h1 := Int.tmod_def a.toInt b.toInt
  rw [Int.mul_comm] at h1
  have h2 := ma_rng (a % b)
  rw [ma_f_rem] at h2
  rw [e, ← h1]
  simp only [Int.bmod_def]
  omega
theorem ma_f_lremK (a b : Int64) : (a - a / b * b).toInt = a.toInt.tmod b.toInt := by
  have e : (a - a / b * b).toInt = (a.toInt - a.toInt.tdiv b.toInt * b.toInt).bmod 18446744073709551616 := by simp [Int64.toInt_div]
  have h1 := Int.tmod_def a.toInt b.toInt
  rw [Int.mul_comm] at h1
  have h2 := ma_rngL (a % b)
  rw [ma_f_lrem] at h2
  rw [e, ← h1]
  simp only [Int.bmod_def]
  omega
theorem ma_f_cmp (a b : Int64) : (lg_cmp a b).toInt = if b.toInt < a.toInt then 1 else if a.toInt = b.toInt then 0 else -1 := by
  unfold lg_cmp
  simp only [gt_iff_lt, Int64.lt_iff_toInt_lt, ← Int64.toInt_inj]
  split
  · rfl
  · split <;> rfl
section PST
variable {p : Program} {l : Launch} {e : Env} {R : Room} {s : State} {m : MethodId} {args : Array Value} {below : List Frame} {meth : Method} {c : Code} {Q : State → Prop} {G : ma_G} {cc : ByteArray} {o nL c0 s0 pc k pp : Nat} {qq : Int} {ls st : List ma_V} {μ : ma_M} {O : ma_O} {E : ma_E} {K : ma_K} {J : ma_J} {D : ma_Dn}
theorem ma_ldcwF {H : Heap} {locs : List Loc} {als : Array Slot} {cells slots : Nat} {rest : List Value} (hexec : p.tables.exec = Jvm.exec) (hb : c.code = cc) {own : String} {index : Nat} {v : UInt32} (hown : s.vm.findClass own = some m.cls) (hconst : (Jvm.Cond.constantFloat own index v).before args s = true) (hdg : decode cc pc = .ok (.ldc_w index, 3)) (hk : W p l e R s m args below meth c H locs cells slots Q (F0 m (pc + 3) als (.float v :: rest))) : W p l e R s m args below meth c H locs cells slots Q (F0 m pc als rest) := by
  intro T hT X
  obtain ⟨t, a, b⟩ := hk T hT X
  refine ⟨t, ?_, b⟩
  obtain ⟨k, cf, hk1, hcf, hc⟩ := Cond.constantFloat_spec hown hconst
  obtain ⟨k', hk', he⟩ := X.warmed.alike.2.2 _ _ hk1
  have hdg : decode c.code (F0 m pc als rest).pc = .ok (.ldc_w index, 3) := by rw [hb]; exact hdg
  jvm_step X.here [hexec, hdg, ldc_w.wp_float (s := T) (f := F0 m pc als rest) X.here.top hk' (by rw [he]; exact hcf) hc]
  exact a
theorem ma_s_iload_n {i : Fin 4} (C : ma_Cx p s m args c G cc o nL) (hd : decode cc pc = .ok (.iload_n i, 1)) (hK : ∀ ls st k μ, K ls st k μ → ma_W p l e R s m args below meth c Q G nL c0 s0 (pc + 1) ls st k μ) (hJ : ∀ pc' ls st k μ, J pc' ls st k μ → ma_W p l e R s m args below meth c Q G nL c0 s0 pc' ls st k μ) (h : ma_step O E (.iload_n i) pp qq pc ls st k μ K J D) : ma_W p l e R s m args below meth c Q G nL c0 s0 pc ls st k μ := by
  obtain ⟨n, hg, h⟩ := ma_gI_e h
  refine ma_load ma_neU_I hg (fun w hw H locs als cells slots rest hal hk => ?_) (hK _ _ _ _ h)
  obtain ⟨x, rfl, -⟩ := hw
  exact lv_iload_n C.1 C.2.1 hd rfl hal hk
theorem ma_s_lload_n {i : Fin 4} (C : ma_Cx p s m args c G cc o nL) (hd : decode cc pc = .ok (.lload_n i, 1)) (hK : ∀ ls st k μ, K ls st k μ → ma_W p l e R s m args below meth c Q G nL c0 s0 (pc + 1) ls st k μ) (hJ : ∀ pc' ls st k μ, J pc' ls st k μ → ma_W p l e R s m args below meth c Q G nL c0 s0 pc' ls st k μ) (h : ma_step O E (.lload_n i) pp qq pc ls st k μ K J D) : ma_W p l e R s m args below meth c Q G nL c0 s0 pc ls st k μ := by
  obtain ⟨n, hg, h⟩ := ma_gL_e h
  refine ma_load ma_neU_L hg (fun w hw H locs als cells slots rest hal hk => ?_) (hK _ _ _ _ h)
  obtain ⟨x, rfl, -⟩ := hw
  exact lv_lload_n C.1 C.2.1 hd rfl hal hk
theorem ma_s_dload_n {i : Fin 4} (C : ma_Cx p s m args c G cc o nL) (hd : decode cc pc = .ok (.dload_n i, 1)) (hK : ∀ ls st k μ, K ls st k μ → ma_W p l e R s m args below meth c Q G nL c0 s0 (pc + 1) ls st k μ) (hJ : ∀ pc' ls st k μ, J pc' ls st k μ → ma_W p l e R s m args below meth c Q G nL c0 s0 pc' ls st k μ) (h : ma_step O E (.dload_n i) pp qq pc ls st k μ K J D) : ma_W p l e R s m args below meth c Q G nL c0 s0 pc ls st k μ := by
  obtain ⟨n, hg, h⟩ := ma_gD_e h
  refine ma_load ma_neU_D hg (fun w hw H locs als cells slots rest hal hk => ?_) (hK _ _ _ _ h)
  cases hw
  exact lv_dload_n C.1 C.2.1 hd rfl hal hk
theorem ma_s_aload_n {i : Fin 4} (C : ma_Cx p s m args c G cc o nL) (hd : decode cc pc = .ok (.aload_n i, 1)) (hK : ∀ ls st k μ, K ls st k μ → ma_W p l e R s m args below meth c Q G nL c0 s0 (pc + 1) ls st k μ) (hJ : ∀ pc' ls st k μ, J pc' ls st k μ → ma_W p l e R s m args below meth c Q G nL c0 s0 pc' ls st k μ) (h : ma_step O E (.aload_n i) pp qq pc ls st k μ K J D) : ma_W p l e R s m args below meth c Q G nL c0 s0 pc ls st k μ := by
  obtain ⟨a, r, hg, h⟩ := ma_gR_e (v := ls.getD i.val ma_U) (f := fun a r => K ls (ma_Rf a r :: st) k μ) h
  refine ma_load ma_neU_R hg (fun w hw H locs als cells slots rest hal hk => ?_) (hK _ _ _ _ h)
  obtain ⟨rfl, -⟩ := hw
  exact lv_aload_n C.1 C.2.1 hd rfl hal hk
theorem ma_s_iload {i : Nat} (C : ma_Cx p s m args c G cc o nL) (hd : decode cc pc = .ok (.iload i, 2)) (hK : ∀ ls st k μ, K ls st k μ → ma_W p l e R s m args below meth c Q G nL c0 s0 (pc + 2) ls st k μ) (hJ : ∀ pc' ls st k μ, J pc' ls st k μ → ma_W p l e R s m args below meth c Q G nL c0 s0 pc' ls st k μ) (h : ma_step O E (.iload i) pp qq pc ls st k μ K J D) : ma_W p l e R s m args below meth c Q G nL c0 s0 pc ls st k μ := by
  obtain ⟨n, hg, h⟩ := ma_gI_e h
  refine ma_load ma_neU_I hg (fun w hw H locs als cells slots rest hal hk => ?_) (hK _ _ _ _ h)
  obtain ⟨x, rfl, -⟩ := hw
  exact lv_iload C.1 C.2.1 hd hal hk
theorem ma_s_lload {i : Nat} (C : ma_Cx p s m args c G cc o nL) (hd : decode cc pc = .ok (.lload i, 2)) (hK : ∀ ls st k μ, K ls st k μ → ma_W p l e R s m args below meth c Q G nL c0 s0 (pc + 2) ls st k μ) (hJ : ∀ pc' ls st k μ, J pc' ls st k μ → ma_W p l e R s m args below meth c Q G nL c0 s0 pc' ls st k μ) (h : ma_step O E (.lload i) pp qq pc ls st k μ K J D) : ma_W p l e R s m args below meth c Q G nL c0 s0 pc ls st k μ := by
  obtain ⟨n, hg, h⟩ := ma_gL_e h
  refine ma_load ma_neU_L hg (fun w hw H locs als cells slots rest hal hk => ?_) (hK _ _ _ _ h)
  obtain ⟨x, rfl, -⟩ := hw
  exact lv_lload C.1 C.2.1 hd hal hk
theorem ma_s_dload {i : Nat} (C : ma_Cx p s m args c G cc o nL) (hd : decode cc pc = .ok (.dload i, 2)) (hK : ∀ ls st k μ, K ls st k μ → ma_W p l e R s m args below meth c Q G nL c0 s0 (pc + 2) ls st k μ) (hJ : ∀ pc' ls st k μ, J pc' ls st k μ → ma_W p l e R s m args below meth c Q G nL c0 s0 pc' ls st k μ) (h : ma_step O E (.dload i) pp qq pc ls st k μ K J D) : ma_W p l e R s m args below meth c Q G nL c0 s0 pc ls st k μ := by
  obtain ⟨n, hg, h⟩ := ma_gD_e h
  refine ma_load ma_neU_D hg (fun w hw H locs als cells slots rest hal hk => ?_) (hK _ _ _ _ h)
  cases hw
  exact lv_dload C.1 C.2.1 hd hal hk
theorem ma_s_fload {i : Nat} (C : ma_Cx p s m args c G cc o nL) (hd : decode cc pc = .ok (.fload i, 2)) (hK : ∀ ls st k μ, K ls st k μ → ma_W p l e R s m args below meth c Q G nL c0 s0 (pc + 2) ls st k μ) (hJ : ∀ pc' ls st k μ, J pc' ls st k μ → ma_W p l e R s m args below meth c Q G nL c0 s0 pc' ls st k μ) (h : ma_step O E (.fload i) pp qq pc ls st k μ K J D) : ma_W p l e R s m args below meth c Q G nL c0 s0 pc ls st k μ := by
  obtain ⟨n, hg, h⟩ := ma_gF_e h
  refine ma_load ma_neU_F hg (fun w hw H locs als cells slots rest hal hk => ?_) (hK _ _ _ _ h)
  cases hw
  exact lv_fload C.1 C.2.1 hd hal hk
theorem ma_s_aload {i : Nat} (C : ma_Cx p s m args c G cc o nL) (hd : decode cc pc = .ok (.aload i, 2)) (hK : ∀ ls st k μ, K ls st k μ → ma_W p l e R s m args below meth c Q G nL c0 s0 (pc + 2) ls st k μ) (hJ : ∀ pc' ls st k μ, J pc' ls st k μ → ma_W p l e R s m args below meth c Q G nL c0 s0 pc' ls st k μ) (h : ma_step O E (.aload i) pp qq pc ls st k μ K J D) : ma_W p l e R s m args below meth c Q G nL c0 s0 pc ls st k μ := by
  obtain ⟨a, r, hg, h⟩ := ma_gR_e (v := ls.getD i ma_U) (f := fun a r => K ls (ma_Rf a r :: st) k μ) h
  refine ma_load ma_neU_R hg (fun w hw H locs als cells slots rest hal hk => ?_) (hK _ _ _ _ h)
  obtain ⟨rfl, -⟩ := hw
  exact lv_aload C.1 C.2.1 hd hal hk
theorem ma_s_istore_n {i : Fin 4} (C : ma_Cx p s m args c G cc o nL) (hd : decode cc pc = .ok (.istore_n i, 1)) (hK : ∀ ls st k μ, K ls st k μ → ma_W p l e R s m args below meth c Q G nL c0 s0 (pc + 1) ls st k μ) (hJ : ∀ pc' ls st k μ, J pc' ls st k μ → ma_W p l e R s m args below meth c Q G nL c0 s0 pc' ls st k μ) (h : ma_step O E (.istore_n i) pp qq pc ls st k μ K J D) : ma_W p l e R s m args below meth c Q G nL c0 s0 pc ls st k μ := by
  obtain ⟨n, st, rfl, hi, h⟩ := ma_pI_e h
  refine ma_sto1 hi (fun w hw H locs als cells slots rest lv hn hal hk => ?_) (hK _ _ _ _ h)
  obtain ⟨x, rfl, -⟩ := hw
  exact lv_istore_n C.1 C.2.1 hd rfl hal hn rfl hk
theorem ma_s_lstore_n {i : Fin 4} (C : ma_Cx p s m args c G cc o nL) (hd : decode cc pc = .ok (.lstore_n i, 1)) (hK : ∀ ls st k μ, K ls st k μ → ma_W p l e R s m args below meth c Q G nL c0 s0 (pc + 1) ls st k μ) (hJ : ∀ pc' ls st k μ, J pc' ls st k μ → ma_W p l e R s m args below meth c Q G nL c0 s0 pc' ls st k μ) (h : ma_step O E (.lstore_n i) pp qq pc ls st k μ K J D) : ma_W p l e R s m args below meth c Q G nL c0 s0 pc ls st k μ := by
  obtain ⟨n, st, rfl, hi, h⟩ := ma_pL_e h
  refine ma_sto2 hi (fun w hw H locs als cells slots rest lv hn hal hk => ?_) (hK _ _ _ _ h)
  obtain ⟨x, rfl, -⟩ := hw
  exact lv_lstore_n C.1 C.2.1 hd rfl hal hn rfl hk
theorem ma_s_dstore_n {i : Fin 4} (C : ma_Cx p s m args c G cc o nL) (hd : decode cc pc = .ok (.dstore_n i, 1)) (hK : ∀ ls st k μ, K ls st k μ → ma_W p l e R s m args below meth c Q G nL c0 s0 (pc + 1) ls st k μ) (hJ : ∀ pc' ls st k μ, J pc' ls st k μ → ma_W p l e R s m args below meth c Q G nL c0 s0 pc' ls st k μ) (h : ma_step O E (.dstore_n i) pp qq pc ls st k μ K J D) : ma_W p l e R s m args below meth c Q G nL c0 s0 pc ls st k μ := by
  obtain ⟨n, st, rfl, hi, h⟩ := ma_pD_e h
  refine ma_sto2 hi (fun w hw H locs als cells slots rest lv hn hal hk => ?_) (hK _ _ _ _ h)
  cases hw
  exact lv_dstore_n C.1 C.2.1 hd rfl hal hn rfl hk
theorem ma_s_istore {i : Nat} (C : ma_Cx p s m args c G cc o nL) (hd : decode cc pc = .ok (.istore i, 2)) (hK : ∀ ls st k μ, K ls st k μ → ma_W p l e R s m args below meth c Q G nL c0 s0 (pc + 2) ls st k μ) (hJ : ∀ pc' ls st k μ, J pc' ls st k μ → ma_W p l e R s m args below meth c Q G nL c0 s0 pc' ls st k μ) (h : ma_step O E (.istore i) pp qq pc ls st k μ K J D) : ma_W p l e R s m args below meth c Q G nL c0 s0 pc ls st k μ := by
  obtain ⟨n, st, rfl, hi, h⟩ := ma_pI_e h
  refine ma_sto1 hi (fun w hw H locs als cells slots rest lv hn hal hk => ?_) (hK _ _ _ _ h)
  obtain ⟨x, rfl, -⟩ := hw
  exact lv_istore C.1 C.2.1 hd hal hn rfl hk
theorem ma_s_lstore {i : Nat} (C : ma_Cx p s m args c G cc o nL) (hd : decode cc pc = .ok (.lstore i, 2)) (hK : ∀ ls st k μ, K ls st k μ → ma_W p l e R s m args below meth c Q G nL c0 s0 (pc + 2) ls st k μ) (hJ : ∀ pc' ls st k μ, J pc' ls st k μ → ma_W p l e R s m args below meth c Q G nL c0 s0 pc' ls st k μ) (h : ma_step O E (.lstore i) pp qq pc ls st k μ K J D) : ma_W p l e R s m args below meth c Q G nL c0 s0 pc ls st k μ := by
  obtain ⟨n, st, rfl, hi, h⟩ := ma_pL_e h
  refine ma_sto2 hi (fun w hw H locs als cells slots rest lv hn hal hk => ?_) (hK _ _ _ _ h)
  obtain ⟨x, rfl, -⟩ := hw
  exact lv_lstore C.1 C.2.1 hd hal hn rfl hk
theorem ma_s_dstore {i : Nat} (C : ma_Cx p s m args c G cc o nL) (hd : decode cc pc = .ok (.dstore i, 2)) (hK : ∀ ls st k μ, K ls st k μ → ma_W p l e R s m args below meth c Q G nL c0 s0 (pc + 2) ls st k μ) (hJ : ∀ pc' ls st k μ, J pc' ls st k μ → ma_W p l e R s m args below meth c Q G nL c0 s0 pc' ls st k μ) (h : ma_step O E (.dstore i) pp qq pc ls st k μ K J D) : ma_W p l e R s m args below meth c Q G nL c0 s0 pc ls st k μ := by
  obtain ⟨n, st, rfl, hi, h⟩ := ma_pD_e h
  refine ma_sto2 hi (fun w hw H locs als cells slots rest lv hn hal hk => ?_) (hK _ _ _ _ h)
  cases hw
  exact lv_dstore C.1 C.2.1 hd hal hn rfl hk
theorem ma_s_fstore {i : Nat} (C : ma_Cx p s m args c G cc o nL) (hd : decode cc pc = .ok (.fstore i, 2)) (hK : ∀ ls st k μ, K ls st k μ → ma_W p l e R s m args below meth c Q G nL c0 s0 (pc + 2) ls st k μ) (hJ : ∀ pc' ls st k μ, J pc' ls st k μ → ma_W p l e R s m args below meth c Q G nL c0 s0 pc' ls st k μ) (h : ma_step O E (.fstore i) pp qq pc ls st k μ K J D) : ma_W p l e R s m args below meth c Q G nL c0 s0 pc ls st k μ := by
  obtain ⟨n, st, rfl, hi, h⟩ := ma_pF_e h
  refine ma_sto1 hi (fun w hw H locs als cells slots rest lv hn hal hk => ?_) (hK _ _ _ _ h)
  cases hw
  exact lv_fstore C.1 C.2.1 hd hal hn rfl hk
theorem ma_s_astore_n {i : Fin 4} (C : ma_Cx p s m args c G cc o nL) (hd : decode cc pc = .ok (.astore_n i, 1)) (hK : ∀ ls st k μ, K ls st k μ → ma_W p l e R s m args below meth c Q G nL c0 s0 (pc + 1) ls st k μ) (hJ : ∀ pc' ls st k μ, J pc' ls st k μ → ma_W p l e R s m args below meth c Q G nL c0 s0 pc' ls st k μ) (h : ma_step O E (.astore_n i) pp qq pc ls st k μ K J D) : ma_W p l e R s m args below meth c Q G nL c0 s0 pc ls st k μ := by
  rcases st with _ | ⟨n | n | a | b | b | q | u, st⟩ <;> first | exact h.elim | skip
  · obtain ⟨hi, h⟩ := h
    refine ma_sto1 hi (fun w hw H locs als cells slots rest lv hn hal hk => ?_) (hK _ _ _ _ h)
    obtain ⟨rfl, -⟩ := hw
    exact lv_astore_n C.1 C.2.1 hd rfl hal hn rfl hk
  · obtain ⟨hi, h⟩ := h
    refine ma_sto1 hi (fun w hw H locs als cells slots rest lv hn hal hk => ?_) (hK _ _ _ _ h)
    obtain ⟨q9, rfl⟩ := hw
    exact lv_astore_n C.1 C.2.1 hd rfl hal hn rfl hk
theorem ma_s_astore {i : Nat} (C : ma_Cx p s m args c G cc o nL) (hd : decode cc pc = .ok (.astore i, 2)) (hK : ∀ ls st k μ, K ls st k μ → ma_W p l e R s m args below meth c Q G nL c0 s0 (pc + 2) ls st k μ) (hJ : ∀ pc' ls st k μ, J pc' ls st k μ → ma_W p l e R s m args below meth c Q G nL c0 s0 pc' ls st k μ) (h : ma_step O E (.astore i) pp qq pc ls st k μ K J D) : ma_W p l e R s m args below meth c Q G nL c0 s0 pc ls st k μ := by
  rcases st with _ | ⟨n | n | a | b | b | q | u, st⟩ <;> first | exact h.elim | skip
  · obtain ⟨hi, h⟩ := h
    refine ma_sto1 hi (fun w hw H locs als cells slots rest lv hn hal hk => ?_) (hK _ _ _ _ h)
    obtain ⟨rfl, -⟩ := hw
    exact lv_astore C.1 C.2.1 hd hal hn rfl hk
  · obtain ⟨hi, h⟩ := h
    refine ma_sto1 hi (fun w hw H locs als cells slots rest lv hn hal hk => ?_) (hK _ _ _ _ h)
    obtain ⟨q9, rfl⟩ := hw
    exact lv_astore C.1 C.2.1 hd hal hn rfl hk
theorem ma_s_iconst {n : Int} (hq : (Int32.ofInt n).toInt = qq) (C : ma_Cx p s m args c G cc o nL) (hd : decode cc pc = .ok (.iconst n, 1)) (hK : ∀ ls st k μ, K ls st k μ → ma_W p l e R s m args below meth c Q G nL c0 s0 (pc + 1) ls st k μ) (hJ : ∀ pc' ls st k μ, J pc' ls st k μ → ma_W p l e R s m args below meth c Q G nL c0 s0 pc' ls st k μ) (h : ma_step O E (.iconst n) pp qq pc ls st k μ K J D) : ma_W p l e R s m args below meth c Q G nL c0 s0 pc ls st k μ := by
  exact ma_psh (v := ma_I qq) (w := .int (Int32.ofInt n)) ⟨_, rfl, hq⟩ (fun H locs als cells slots rest hk => lv_iconst C.1 C.2.1 hd rfl hk) (hK _ _ _ _ h)
theorem ma_s_bipush {n : Int} (hq : (Int8.ofInt n).toInt32.toInt = qq) (C : ma_Cx p s m args c G cc o nL) (hd : decode cc pc = .ok (.bipush n, 2)) (hK : ∀ ls st k μ, K ls st k μ → ma_W p l e R s m args below meth c Q G nL c0 s0 (pc + 2) ls st k μ) (hJ : ∀ pc' ls st k μ, J pc' ls st k μ → ma_W p l e R s m args below meth c Q G nL c0 s0 pc' ls st k μ) (h : ma_step O E (.bipush n) pp qq pc ls st k μ K J D) : ma_W p l e R s m args below meth c Q G nL c0 s0 pc ls st k μ := by
  exact ma_psh (v := ma_I qq) (w := .int (Int8.ofInt n).toInt32) ⟨_, rfl, hq⟩ (fun H locs als cells slots rest hk => lv_bipush C.1 C.2.1 hd rfl hk) (hK _ _ _ _ h)
theorem ma_s_sipush {n : Int} (hq : (Int16.ofInt n).toInt32.toInt = qq) (C : ma_Cx p s m args c G cc o nL) (hd : decode cc pc = .ok (.sipush n, 3)) (hK : ∀ ls st k μ, K ls st k μ → ma_W p l e R s m args below meth c Q G nL c0 s0 (pc + 3) ls st k μ) (hJ : ∀ pc' ls st k μ, J pc' ls st k μ → ma_W p l e R s m args below meth c Q G nL c0 s0 pc' ls st k μ) (h : ma_step O E (.sipush n) pp qq pc ls st k μ K J D) : ma_W p l e R s m args below meth c Q G nL c0 s0 pc ls st k μ := by
  exact ma_psh (v := ma_I qq) (w := .int (Int16.ofInt n).toInt32) ⟨_, rfl, hq⟩ (fun H locs als cells slots rest hk => lv_sipush C.1 C.2.1 hd rfl hk) (hK _ _ _ _ h)
theorem ma_s_lconst {n : Fin 2} (hq : (Int64.ofNat n.val).toInt = qq) (C : ma_Cx p s m args c G cc o nL) (hd : decode cc pc = .ok (.lconst n, 1)) (hK : ∀ ls st k μ, K ls st k μ → ma_W p l e R s m args below meth c Q G nL c0 s0 (pc + 1) ls st k μ) (hJ : ∀ pc' ls st k μ, J pc' ls st k μ → ma_W p l e R s m args below meth c Q G nL c0 s0 pc' ls st k μ) (h : ma_step O E (.lconst n) pp qq pc ls st k μ K J D) : ma_W p l e R s m args below meth c Q G nL c0 s0 pc ls st k μ := by
  exact ma_psh (v := ma_L qq) (w := .long (Int64.ofNat n.val)) ⟨_, rfl, hq⟩ (fun H locs als cells slots rest hk => lv_lconst C.1 C.2.1 hd rfl hk) (hK _ _ _ _ h)
theorem ma_s_dconst {n : Fin 2} (C : ma_Cx p s m args c G cc o nL) (hd : decode cc pc = .ok (.dconst n, 1)) (hK : ∀ ls st k μ, K ls st k μ → ma_W p l e R s m args below meth c Q G nL c0 s0 (pc + 1) ls st k μ) (hJ : ∀ pc' ls st k μ, J pc' ls st k μ → ma_W p l e R s m args below meth c Q G nL c0 s0 pc' ls st k μ) (h : ma_step O E (.dconst n) pp qq pc ls st k μ K J D) : ma_W p l e R s m args below meth c Q G nL c0 s0 pc ls st k μ := by
  match n, hd, h with
  | 0, hd, h => exact ma_psh (v := ma_D 0) (w := .double 0) rfl (fun H locs als cells slots rest hk => lv_dconst0 C.1 C.2.1 hd hk) (hK _ _ _ _ h)
  | 1, hd, h => exact ma_psh (v := ma_D 4607182418800017408) (w := .double 4607182418800017408) rfl (fun H locs als cells slots rest hk => lv_dconst1 C.1 C.2.1 hd hk) (hK _ _ _ _ h)
theorem ma_s_fconst {n : Fin 3} (C : ma_Cx p s m args c G cc o nL) (hd : decode cc pc = .ok (.fconst n, 1)) (hK : ∀ ls st k μ, K ls st k μ → ma_W p l e R s m args below meth c Q G nL c0 s0 (pc + 1) ls st k μ) (hJ : ∀ pc' ls st k μ, J pc' ls st k μ → ma_W p l e R s m args below meth c Q G nL c0 s0 pc' ls st k μ) (h : ma_step O E (.fconst n) pp qq pc ls st k μ K J D) : ma_W p l e R s m args below meth c Q G nL c0 s0 pc ls st k μ := by
  match n, hd, h with
  | 0, hd, h => exact ma_psh (v := ma_F 0) (w := .float 0) rfl (fun H locs als cells slots rest hk => lv_fconst0 C.1 C.2.1 hd hk) (hK _ _ _ _ h)
  | 1, hd, h => exact ma_psh (v := ma_F 1065353216) (w := .float 1065353216) rfl (fun H locs als cells slots rest hk => lv_fconst1 C.1 C.2.1 hd hk) (hK _ _ _ _ h)
  | 2, hd, h => exact ma_psh (v := ma_F 1073741824) (w := .float 1073741824) rfl (fun H locs als cells slots rest hk => lv_fconst2 C.1 C.2.1 hd hk) (hK _ _ _ _ h)
theorem ma_s_ldcI {i : Nat} (hq : pp = 0 ∧ (o, i, qq) ∈ ma_kI ∧ ma_r32 qq) (C : ma_Cx p s m args c G cc o nL) (hd : decode cc pc = .ok (.ldc i, 2)) (hK : ∀ ls st k μ, K ls st k μ → ma_W p l e R s m args below meth c Q G nL c0 s0 (pc + 2) ls st k μ) (hJ : ∀ pc' ls st k μ, J pc' ls st k μ → ma_W p l e R s m args below meth c Q G nL c0 s0 pc' ls st k μ) (h : ma_step O E (.ldc i) pp qq pc ls st k μ K J D) : ma_W p l e R s m args below meth c Q G nL c0 s0 pc ls st k μ := by
  obtain ⟨rfl, hq, hv⟩ := hq
  exact ma_psh (v := ma_I qq) (w := .int (Int32.ofInt qq)) ⟨_, rfl, ma_back hv⟩ (fun H locs als cells slots rest hk => lv_ldc C.1 C.2.1 C.2.2.2.1 (C.2.2.2.2.1 _ (ma_WG_in (ma_kI_in _ (List.mem_map.mpr ⟨_, hq, rfl⟩)) (ma_kI_good _ (List.mem_map.mpr ⟨_, hq, rfl⟩)))) hd hk) (hK _ _ _ _ h)
theorem ma_s_ldcF {i : Nat} (hq : pp ≠ 0 ∧ (o, i, qq) ∈ ma_kF) (C : ma_Cx p s m args c G cc o nL) (hd : decode cc pc = .ok (.ldc i, 2)) (hK : ∀ ls st k μ, K ls st k μ → ma_W p l e R s m args below meth c Q G nL c0 s0 (pc + 2) ls st k μ) (hJ : ∀ pc' ls st k μ, J pc' ls st k μ → ma_W p l e R s m args below meth c Q G nL c0 s0 pc' ls st k μ) (h : ma_step O E (.ldc i) pp qq pc ls st k μ K J D) : ma_W p l e R s m args below meth c Q G nL c0 s0 pc ls st k μ := by
  obtain ⟨hp, hq⟩ := hq
  have h : K ls (ma_F (UInt32.ofNat qq.toNat) :: st) k μ := by
    have h9 : (if pp = 0 then K ls (ma_I qq :: st) k μ else K ls (ma_F (UInt32.ofNat qq.toNat) :: st) k μ) := h
    rwa [if_neg hp] at h9
  exact ma_psh (v := ma_F (UInt32.ofNat qq.toNat)) (w := .float (UInt32.ofNat qq.toNat)) rfl (fun H locs als cells slots rest hk => lv_ldcf C.1 C.2.1 C.2.2.2.1 (C.2.2.2.2.1 _ (ma_WG_in (ma_kF_in _ (List.mem_map.mpr ⟨_, hq, rfl⟩)) (ma_kF_good _ (List.mem_map.mpr ⟨_, hq, rfl⟩)))) hd hk) (hK _ _ _ _ h)
theorem ma_s_ldcwI {i : Nat} (hq : pp = 0 ∧ (o, i, qq) ∈ ma_kI ∧ ma_r32 qq) (C : ma_Cx p s m args c G cc o nL) (hd : decode cc pc = .ok (.ldc_w i, 3)) (hK : ∀ ls st k μ, K ls st k μ → ma_W p l e R s m args below meth c Q G nL c0 s0 (pc + 3) ls st k μ) (hJ : ∀ pc' ls st k μ, J pc' ls st k μ → ma_W p l e R s m args below meth c Q G nL c0 s0 pc' ls st k μ) (h : ma_step O E (.ldc_w i) pp qq pc ls st k μ K J D) : ma_W p l e R s m args below meth c Q G nL c0 s0 pc ls st k μ := by
  obtain ⟨rfl, hq, hv⟩ := hq
  exact ma_psh (v := ma_I qq) (w := .int (Int32.ofInt qq)) ⟨_, rfl, ma_back hv⟩ (fun H locs als cells slots rest hk => lv_ldcw C.1 C.2.1 C.2.2.2.1 (C.2.2.2.2.1 _ (ma_WG_in (ma_kI_in _ (List.mem_map.mpr ⟨_, hq, rfl⟩)) (ma_kI_good _ (List.mem_map.mpr ⟨_, hq, rfl⟩)))) hd hk) (hK _ _ _ _ h)
theorem ma_s_ldcwF {i : Nat} (hq : pp ≠ 0 ∧ (o, i, qq) ∈ ma_kF) (C : ma_Cx p s m args c G cc o nL) (hd : decode cc pc = .ok (.ldc_w i, 3)) (hK : ∀ ls st k μ, K ls st k μ → ma_W p l e R s m args below meth c Q G nL c0 s0 (pc + 3) ls st k μ) (hJ : ∀ pc' ls st k μ, J pc' ls st k μ → ma_W p l e R s m args below meth c Q G nL c0 s0 pc' ls st k μ) (h : ma_step O E (.ldc_w i) pp qq pc ls st k μ K J D) : ma_W p l e R s m args below meth c Q G nL c0 s0 pc ls st k μ := by
  obtain ⟨hp, hq⟩ := hq
  have h : K ls (ma_F (UInt32.ofNat qq.toNat) :: st) k μ := by
    have h9 : (if pp = 0 then K ls (ma_I qq :: st) k μ else K ls (ma_F (UInt32.ofNat qq.toNat) :: st) k μ) := h
    rwa [if_neg hp] at h9
  exact ma_psh (v := ma_F (UInt32.ofNat qq.toNat)) (w := .float (UInt32.ofNat qq.toNat)) rfl (fun H locs als cells slots rest hk => ma_ldcwF C.1 C.2.1 C.2.2.2.1 (C.2.2.2.2.1 _ (ma_WG_in (ma_kF_in _ (List.mem_map.mpr ⟨_, hq, rfl⟩)) (ma_kF_good _ (List.mem_map.mpr ⟨_, hq, rfl⟩)))) hd hk) (hK _ _ _ _ h)
theorem ma_s_ldc2L {i : Nat} (hq : pp = 0 ∧ (o, i, qq) ∈ ma_kL ∧ -9223372036854775808 ≤ qq ∧ qq < 9223372036854775808) (C : ma_Cx p s m args c G cc o nL) (hd : decode cc pc = .ok (.ldc2_w i, 3)) (hK : ∀ ls st k μ, K ls st k μ → ma_W p l e R s m args below meth c Q G nL c0 s0 (pc + 3) ls st k μ) (hJ : ∀ pc' ls st k μ, J pc' ls st k μ → ma_W p l e R s m args below meth c Q G nL c0 s0 pc' ls st k μ) (h : ma_step O E (.ldc2_w i) pp qq pc ls st k μ K J D) : ma_W p l e R s m args below meth c Q G nL c0 s0 pc ls st k μ := by
  obtain ⟨rfl, hq, hv⟩ := hq
  exact ma_psh (v := ma_L qq) (w := .long (Int64.ofInt qq)) ⟨_, rfl, ma_backL hv⟩ (fun H locs als cells slots rest hk => lv_ldc2 C.1 C.2.1 C.2.2.2.1 (C.2.2.2.2.1 _ (ma_WG_in (ma_kL_in _ (List.mem_map.mpr ⟨_, hq, rfl⟩)) (ma_kL_good _ (List.mem_map.mpr ⟨_, hq, rfl⟩)))) hd hk) (hK _ _ _ _ h)
theorem ma_s_ldc2D {i : Nat} (hq : pp ≠ 0 ∧ (o, i, qq) ∈ ma_kD) (C : ma_Cx p s m args c G cc o nL) (hd : decode cc pc = .ok (.ldc2_w i, 3)) (hK : ∀ ls st k μ, K ls st k μ → ma_W p l e R s m args below meth c Q G nL c0 s0 (pc + 3) ls st k μ) (hJ : ∀ pc' ls st k μ, J pc' ls st k μ → ma_W p l e R s m args below meth c Q G nL c0 s0 pc' ls st k μ) (h : ma_step O E (.ldc2_w i) pp qq pc ls st k μ K J D) : ma_W p l e R s m args below meth c Q G nL c0 s0 pc ls st k μ := by
  obtain ⟨hp, hq⟩ := hq
  have h : K ls (ma_D (UInt64.ofNat qq.toNat) :: st) k μ := by
    have h9 : (if pp = 0 then K ls (ma_L qq :: st) k μ else K ls (ma_D (UInt64.ofNat qq.toNat) :: st) k μ) := h
    rwa [if_neg hp] at h9
  exact ma_psh (v := ma_D (UInt64.ofNat qq.toNat)) (w := .double (UInt64.ofNat qq.toNat)) rfl (fun H locs als cells slots rest hk => lv_ldc2d C.1 C.2.1 C.2.2.2.1 (C.2.2.2.2.1 _ (ma_WG_in (ma_kD_in _ (List.mem_map.mpr ⟨_, hq, rfl⟩)) (ma_kD_good _ (List.mem_map.mpr ⟨_, hq, rfl⟩)))) hd hk) (hK _ _ _ _ h)
theorem ma_s_isub (C : ma_Cx p s m args c G cc o nL) (hd : decode cc pc = .ok (.isub, 1)) (hK : ∀ ls st k μ, K ls st k μ → ma_W p l e R s m args below meth c Q G nL c0 s0 (pc + 1) ls st k μ) (hJ : ∀ pc' ls st k μ, J pc' ls st k μ → ma_W p l e R s m args below meth c Q G nL c0 s0 pc' ls st k μ) (h : ma_step O E (.isub) pp qq pc ls st k μ K J D) : ma_W p l e R s m args below meth c Q G nL c0 s0 pc ls st k μ := by
  obtain ⟨y, st, rfl, h⟩ := ma_pI_e h
  obtain ⟨x, st, rfl, h⟩ := ma_pI_e h
  obtain ⟨hr, h⟩ := h
  refine ma_bI (f := fun x y => ma_wI (x - y)) ma_f_sub (fun a b _ _ H locs als cells slots rest hk => lv_isub C.1 C.2.1 hd hk) ?_
  show ma_W p l e R s m args below meth c Q G nL c0 s0 (pc + 1) ls (ma_I (ma_wI (x - y)) :: st) k μ
  rw [ma_wI_id hr]
  exact hK _ _ _ _ h
theorem ma_s_iadd (C : ma_Cx p s m args c G cc o nL) (hd : decode cc pc = .ok (.iadd, 1)) (hK : ∀ ls st k μ, K ls st k μ → ma_W p l e R s m args below meth c Q G nL c0 s0 (pc + 1) ls st k μ) (hJ : ∀ pc' ls st k μ, J pc' ls st k μ → ma_W p l e R s m args below meth c Q G nL c0 s0 pc' ls st k μ) (h : ma_step O E (.iadd) pp qq pc ls st k μ K J D) : ma_W p l e R s m args below meth c Q G nL c0 s0 pc ls st k μ := by
  obtain ⟨y, st, rfl, h⟩ := ma_pI_e h
  obtain ⟨x, st, rfl, h⟩ := ma_pI_e h
  have h : (if pp = 1 then K ls (ma_I (ma_wI (x + y)) :: st) k μ else ma_r32 (x + y) ∧ K ls (ma_I (x + y) :: st) k μ) := h
  refine ma_bI (f := fun x y => ma_wI (x + y)) ma_f_add (fun a b _ _ H locs als cells slots rest hk => lv_iadd C.1 C.2.1 hd hk) ?_
  show ma_W p l e R s m args below meth c Q G nL c0 s0 (pc + 1) ls (ma_I (ma_wI (x + y)) :: st) k μ
  by_cases hp : pp = 1
  · rw [if_pos hp] at h
    exact hK _ _ _ _ h
  · rw [if_neg hp] at h
    rw [ma_wI_id h.1]
    exact hK _ _ _ _ h.2
theorem ma_s_imul (C : ma_Cx p s m args c G cc o nL) (hd : decode cc pc = .ok (.imul, 1)) (hK : ∀ ls st k μ, K ls st k μ → ma_W p l e R s m args below meth c Q G nL c0 s0 (pc + 1) ls st k μ) (hJ : ∀ pc' ls st k μ, J pc' ls st k μ → ma_W p l e R s m args below meth c Q G nL c0 s0 pc' ls st k μ) (h : ma_step O E (.imul) pp qq pc ls st k μ K J D) : ma_W p l e R s m args below meth c Q G nL c0 s0 pc ls st k μ := by
  obtain ⟨y, st, rfl, h⟩ := ma_pI_e h
  obtain ⟨x, st, rfl, h⟩ := ma_pI_e h
  have h : (if pp = 1 then K ls (ma_I (ma_wI (x * y)) :: st) k μ else ma_r32 (x * y) ∧ K ls (ma_I (x * y) :: st) k μ) := h
  refine ma_bI (f := fun x y => ma_wI (x * y)) ma_f_mul (fun a b _ _ H locs als cells slots rest hk => lv_imul C.1 C.2.1 hd hk) ?_
  show ma_W p l e R s m args below meth c Q G nL c0 s0 (pc + 1) ls (ma_I (ma_wI (x * y)) :: st) k μ
  by_cases hp : pp = 1
  · rw [if_pos hp] at h
    exact hK _ _ _ _ h
  · rw [if_neg hp] at h
    rw [ma_wI_id h.1]
    exact hK _ _ _ _ h.2
theorem ma_s_idiv (C : ma_Cx p s m args c G cc o nL) (hd : decode cc pc = .ok (.idiv, 1)) (hK : ∀ ls st k μ, K ls st k μ → ma_W p l e R s m args below meth c Q G nL c0 s0 (pc + 1) ls st k μ) (hJ : ∀ pc' ls st k μ, J pc' ls st k μ → ma_W p l e R s m args below meth c Q G nL c0 s0 pc' ls st k μ) (h : ma_step O E (.idiv) pp qq pc ls st k μ K J D) : ma_W p l e R s m args below meth c Q G nL c0 s0 pc ls st k μ := by
  obtain ⟨y, st, rfl, h⟩ := ma_pI_e h
  obtain ⟨x, st, rfl, h⟩ := ma_pI_e h
  obtain ⟨hy, hr, h⟩ := h
  refine ma_bI (f := fun x y => ma_wI (x.tdiv y)) ma_f_div (fun a b _ hb H locs als cells slots rest hk => lv_idiv C.1 C.2.1 hd (ma_ne0 hb hy) hk) ?_
  show ma_W p l e R s m args below meth c Q G nL c0 s0 (pc + 1) ls (ma_I (ma_wI (x.tdiv y)) :: st) k μ
  rw [ma_wI_id hr]
  exact hK _ _ _ _ h
theorem ma_s_irem (C : ma_Cx p s m args c G cc o nL) (hd : decode cc pc = .ok (.irem, 1)) (hK : ∀ ls st k μ, K ls st k μ → ma_W p l e R s m args below meth c Q G nL c0 s0 (pc + 1) ls st k μ) (hJ : ∀ pc' ls st k μ, J pc' ls st k μ → ma_W p l e R s m args below meth c Q G nL c0 s0 pc' ls st k μ) (h : ma_step O E (.irem) pp qq pc ls st k μ K J D) : ma_W p l e R s m args below meth c Q G nL c0 s0 pc ls st k μ := by
  obtain ⟨y, st, rfl, h⟩ := ma_pI_e h
  obtain ⟨x, st, rfl, h⟩ := ma_pI_e h
  obtain ⟨hy, h⟩ := h
  exact ma_bI (f := Int.tmod) ma_f_remK (fun a b _ hb H locs als cells slots rest hk => lv_irem C.1 C.2.1 hd (ma_ne0 hb hy) hk) (hK _ _ _ _ h)
theorem ma_s_iand (C : ma_Cx p s m args c G cc o nL) (hd : decode cc pc = .ok (.iand, 1)) (hK : ∀ ls st k μ, K ls st k μ → ma_W p l e R s m args below meth c Q G nL c0 s0 (pc + 1) ls st k μ) (hJ : ∀ pc' ls st k μ, J pc' ls st k μ → ma_W p l e R s m args below meth c Q G nL c0 s0 pc' ls st k μ) (h : ma_step O E (.iand) pp qq pc ls st k μ K J D) : ma_W p l e R s m args below meth c Q G nL c0 s0 pc ls st k μ := by
  obtain ⟨y, st, rfl, h⟩ := ma_pI_e h
  obtain ⟨x, st, rfl, h⟩ := ma_pI_e h
  exact ma_bI (f := ma_and) ma_f_and (fun a b _ _ H locs als cells slots rest hk => lv_iand C.1 C.2.1 hd hk) (hK _ _ _ _ h)
theorem ma_s_ior (C : ma_Cx p s m args c G cc o nL) (hd : decode cc pc = .ok (.ior, 1)) (hK : ∀ ls st k μ, K ls st k μ → ma_W p l e R s m args below meth c Q G nL c0 s0 (pc + 1) ls st k μ) (hJ : ∀ pc' ls st k μ, J pc' ls st k μ → ma_W p l e R s m args below meth c Q G nL c0 s0 pc' ls st k μ) (h : ma_step O E (.ior) pp qq pc ls st k μ K J D) : ma_W p l e R s m args below meth c Q G nL c0 s0 pc ls st k μ := by
  obtain ⟨y, st, rfl, h⟩ := ma_pI_e h
  obtain ⟨x, st, rfl, h⟩ := ma_pI_e h
  exact ma_bI (f := ma_or) ma_f_or (fun a b _ _ H locs als cells slots rest hk => lv_ior C.1 C.2.1 hd hk) (hK _ _ _ _ h)
theorem ma_s_ixor (C : ma_Cx p s m args c G cc o nL) (hd : decode cc pc = .ok (.ixor, 1)) (hK : ∀ ls st k μ, K ls st k μ → ma_W p l e R s m args below meth c Q G nL c0 s0 (pc + 1) ls st k μ) (hJ : ∀ pc' ls st k μ, J pc' ls st k μ → ma_W p l e R s m args below meth c Q G nL c0 s0 pc' ls st k μ) (h : ma_step O E (.ixor) pp qq pc ls st k μ K J D) : ma_W p l e R s m args below meth c Q G nL c0 s0 pc ls st k μ := by
  obtain ⟨y, st, rfl, h⟩ := ma_pI_e h
  obtain ⟨x, st, rfl, h⟩ := ma_pI_e h
  exact ma_bI (f := ma_xor) ma_f_xor (fun a b _ _ H locs als cells slots rest hk => lv_ixor C.1 C.2.1 hd hk) (hK _ _ _ _ h)
theorem ma_s_ishl (C : ma_Cx p s m args c G cc o nL) (hd : decode cc pc = .ok (.ishl, 1)) (hK : ∀ ls st k μ, K ls st k μ → ma_W p l e R s m args below meth c Q G nL c0 s0 (pc + 1) ls st k μ) (hJ : ∀ pc' ls st k μ, J pc' ls st k μ → ma_W p l e R s m args below meth c Q G nL c0 s0 pc' ls st k μ) (h : ma_step O E (.ishl) pp qq pc ls st k μ K J D) : ma_W p l e R s m args below meth c Q G nL c0 s0 pc ls st k μ := by
  obtain ⟨y, st, rfl, h⟩ := ma_pI_e h
  obtain ⟨x, st, rfl, h⟩ := ma_pI_e h
  exact ma_bI (f := ma_shl) ma_f_shl (fun a b _ _ H locs als cells slots rest hk => lv_ishl C.1 C.2.1 hd hk) (hK _ _ _ _ h)
theorem ma_s_ishr (C : ma_Cx p s m args c G cc o nL) (hd : decode cc pc = .ok (.ishr, 1)) (hK : ∀ ls st k μ, K ls st k μ → ma_W p l e R s m args below meth c Q G nL c0 s0 (pc + 1) ls st k μ) (hJ : ∀ pc' ls st k μ, J pc' ls st k μ → ma_W p l e R s m args below meth c Q G nL c0 s0 pc' ls st k μ) (h : ma_step O E (.ishr) pp qq pc ls st k μ K J D) : ma_W p l e R s m args below meth c Q G nL c0 s0 pc ls st k μ := by
  obtain ⟨y, st, rfl, h⟩ := ma_pI_e h
  obtain ⟨x, st, rfl, h⟩ := ma_pI_e h
  exact ma_bI (f := ma_shr) ma_f_shr (fun a b _ _ H locs als cells slots rest hk => lv_ishr C.1 C.2.1 hd hk) (hK _ _ _ _ h)
theorem ma_s_iushr (C : ma_Cx p s m args c G cc o nL) (hd : decode cc pc = .ok (.iushr, 1)) (hK : ∀ ls st k μ, K ls st k μ → ma_W p l e R s m args below meth c Q G nL c0 s0 (pc + 1) ls st k μ) (hJ : ∀ pc' ls st k μ, J pc' ls st k μ → ma_W p l e R s m args below meth c Q G nL c0 s0 pc' ls st k μ) (h : ma_step O E (.iushr) pp qq pc ls st k μ K J D) : ma_W p l e R s m args below meth c Q G nL c0 s0 pc ls st k μ := by
  obtain ⟨y, st, rfl, h⟩ := ma_pI_e h
  obtain ⟨x, st, rfl, h⟩ := ma_pI_e h
  exact ma_bI (f := ma_ushr) ma_f_ushr (fun a b _ _ H locs als cells slots rest hk => lv_iushr C.1 C.2.1 hd rfl hk) (hK _ _ _ _ h)
theorem ma_s_ladd (C : ma_Cx p s m args c G cc o nL) (hd : decode cc pc = .ok (.ladd, 1)) (hK : ∀ ls st k μ, K ls st k μ → ma_W p l e R s m args below meth c Q G nL c0 s0 (pc + 1) ls st k μ) (hJ : ∀ pc' ls st k μ, J pc' ls st k μ → ma_W p l e R s m args below meth c Q G nL c0 s0 pc' ls st k μ) (h : ma_step O E (.ladd) pp qq pc ls st k μ K J D) : ma_W p l e R s m args below meth c Q G nL c0 s0 pc ls st k μ := by
  obtain ⟨y, st, rfl, h⟩ := ma_pL_e h
  obtain ⟨x, st, rfl, h⟩ := ma_pL_e h
  exact ma_bL (f := fun x y => ma_wL (x + y)) ma_f_ladd (fun a b _ _ H locs als cells slots rest hk => lv_ladd C.1 C.2.1 hd hk) (hK _ _ _ _ h)
theorem ma_s_lsub (C : ma_Cx p s m args c G cc o nL) (hd : decode cc pc = .ok (.lsub, 1)) (hK : ∀ ls st k μ, K ls st k μ → ma_W p l e R s m args below meth c Q G nL c0 s0 (pc + 1) ls st k μ) (hJ : ∀ pc' ls st k μ, J pc' ls st k μ → ma_W p l e R s m args below meth c Q G nL c0 s0 pc' ls st k μ) (h : ma_step O E (.lsub) pp qq pc ls st k μ K J D) : ma_W p l e R s m args below meth c Q G nL c0 s0 pc ls st k μ := by
  obtain ⟨y, st, rfl, h⟩ := ma_pL_e h
  obtain ⟨x, st, rfl, h⟩ := ma_pL_e h
  exact ma_bL (f := fun x y => ma_wL (x - y)) ma_f_lsub (fun a b _ _ H locs als cells slots rest hk => lv_lsub C.1 C.2.1 hd hk) (hK _ _ _ _ h)
theorem ma_s_lmul (C : ma_Cx p s m args c G cc o nL) (hd : decode cc pc = .ok (.lmul, 1)) (hK : ∀ ls st k μ, K ls st k μ → ma_W p l e R s m args below meth c Q G nL c0 s0 (pc + 1) ls st k μ) (hJ : ∀ pc' ls st k μ, J pc' ls st k μ → ma_W p l e R s m args below meth c Q G nL c0 s0 pc' ls st k μ) (h : ma_step O E (.lmul) pp qq pc ls st k μ K J D) : ma_W p l e R s m args below meth c Q G nL c0 s0 pc ls st k μ := by
  obtain ⟨y, st, rfl, h⟩ := ma_pL_e h
  obtain ⟨x, st, rfl, h⟩ := ma_pL_e h
  exact ma_bL (f := fun x y => ma_wL (x * y)) ma_f_lmul (fun a b _ _ H locs als cells slots rest hk => lv_lmul C.1 C.2.1 hd hk) (hK _ _ _ _ h)
theorem ma_s_ldiv (C : ma_Cx p s m args c G cc o nL) (hd : decode cc pc = .ok (.ldiv, 1)) (hK : ∀ ls st k μ, K ls st k μ → ma_W p l e R s m args below meth c Q G nL c0 s0 (pc + 1) ls st k μ) (hJ : ∀ pc' ls st k μ, J pc' ls st k μ → ma_W p l e R s m args below meth c Q G nL c0 s0 pc' ls st k μ) (h : ma_step O E (.ldiv) pp qq pc ls st k μ K J D) : ma_W p l e R s m args below meth c Q G nL c0 s0 pc ls st k μ := by
  obtain ⟨y, st, rfl, h⟩ := ma_pL_e h
  obtain ⟨x, st, rfl, h⟩ := ma_pL_e h
  obtain ⟨hy, h⟩ := h
  exact ma_bL (f := fun x y => ma_wL (x.tdiv y)) ma_f_ldiv (fun a b _ hb H locs als cells slots rest hk => lv_ldiv C.1 C.2.1 hd (ma_ne0L hb hy) hk) (hK _ _ _ _ h)
theorem ma_s_lrem (C : ma_Cx p s m args c G cc o nL) (hd : decode cc pc = .ok (.lrem, 1)) (hK : ∀ ls st k μ, K ls st k μ → ma_W p l e R s m args below meth c Q G nL c0 s0 (pc + 1) ls st k μ) (hJ : ∀ pc' ls st k μ, J pc' ls st k μ → ma_W p l e R s m args below meth c Q G nL c0 s0 pc' ls st k μ) (h : ma_step O E (.lrem) pp qq pc ls st k μ K J D) : ma_W p l e R s m args below meth c Q G nL c0 s0 pc ls st k μ := by
  obtain ⟨y, st, rfl, h⟩ := ma_pL_e h
  obtain ⟨x, st, rfl, h⟩ := ma_pL_e h
  obtain ⟨hy, h⟩ := h
  exact ma_bL (f := Int.tmod) ma_f_lremK (fun a b _ hb H locs als cells slots rest hk => lv_lrem C.1 C.2.1 hd (ma_ne0L hb hy) hk) (hK _ _ _ _ h)
theorem ma_s_land (C : ma_Cx p s m args c G cc o nL) (hd : decode cc pc = .ok (.land, 1)) (hK : ∀ ls st k μ, K ls st k μ → ma_W p l e R s m args below meth c Q G nL c0 s0 (pc + 1) ls st k μ) (hJ : ∀ pc' ls st k μ, J pc' ls st k μ → ma_W p l e R s m args below meth c Q G nL c0 s0 pc' ls st k μ) (h : ma_step O E (.land) pp qq pc ls st k μ K J D) : ma_W p l e R s m args below meth c Q G nL c0 s0 pc ls st k μ := by
  obtain ⟨y, st, rfl, h⟩ := ma_pL_e h
  obtain ⟨x, st, rfl, h⟩ := ma_pL_e h
  exact ma_bL (f := ma_land) ma_f_land (fun a b _ _ H locs als cells slots rest hk => lv_land C.1 C.2.1 hd hk) (hK _ _ _ _ h)
theorem ma_s_lor (C : ma_Cx p s m args c G cc o nL) (hd : decode cc pc = .ok (.lor, 1)) (hK : ∀ ls st k μ, K ls st k μ → ma_W p l e R s m args below meth c Q G nL c0 s0 (pc + 1) ls st k μ) (hJ : ∀ pc' ls st k μ, J pc' ls st k μ → ma_W p l e R s m args below meth c Q G nL c0 s0 pc' ls st k μ) (h : ma_step O E (.lor) pp qq pc ls st k μ K J D) : ma_W p l e R s m args below meth c Q G nL c0 s0 pc ls st k μ := by
  obtain ⟨y, st, rfl, h⟩ := ma_pL_e h
  obtain ⟨x, st, rfl, h⟩ := ma_pL_e h
  exact ma_bL (f := ma_lor) ma_f_lor (fun a b _ _ H locs als cells slots rest hk => lv_lor C.1 C.2.1 hd hk) (hK _ _ _ _ h)
theorem ma_s_lshl (C : ma_Cx p s m args c G cc o nL) (hd : decode cc pc = .ok (.lshl, 1)) (hK : ∀ ls st k μ, K ls st k μ → ma_W p l e R s m args below meth c Q G nL c0 s0 (pc + 1) ls st k μ) (hJ : ∀ pc' ls st k μ, J pc' ls st k μ → ma_W p l e R s m args below meth c Q G nL c0 s0 pc' ls st k μ) (h : ma_step O E (.lshl) pp qq pc ls st k μ K J D) : ma_W p l e R s m args below meth c Q G nL c0 s0 pc ls st k μ := by
  obtain ⟨y, st, rfl, h⟩ := ma_pI_e h
  obtain ⟨x, st, rfl, h⟩ := ma_pL_e h
  exact ma_bS (f := ma_lshl) ma_f_lshl (fun a b H locs als cells slots rest hk => lv_lshl C.1 C.2.1 hd rfl hk) (hK _ _ _ _ h)
theorem ma_s_lshr (C : ma_Cx p s m args c G cc o nL) (hd : decode cc pc = .ok (.lshr, 1)) (hK : ∀ ls st k μ, K ls st k μ → ma_W p l e R s m args below meth c Q G nL c0 s0 (pc + 1) ls st k μ) (hJ : ∀ pc' ls st k μ, J pc' ls st k μ → ma_W p l e R s m args below meth c Q G nL c0 s0 pc' ls st k μ) (h : ma_step O E (.lshr) pp qq pc ls st k μ K J D) : ma_W p l e R s m args below meth c Q G nL c0 s0 pc ls st k μ := by
  obtain ⟨y, st, rfl, h⟩ := ma_pI_e h
  obtain ⟨x, st, rfl, h⟩ := ma_pL_e h
  exact ma_bS (f := ma_lshr) ma_f_lshr (fun a b H locs als cells slots rest hk => lv_lshr C.1 C.2.1 hd rfl hk) (hK _ _ _ _ h)
theorem ma_s_lushr (C : ma_Cx p s m args c G cc o nL) (hd : decode cc pc = .ok (.lushr, 1)) (hK : ∀ ls st k μ, K ls st k μ → ma_W p l e R s m args below meth c Q G nL c0 s0 (pc + 1) ls st k μ) (hJ : ∀ pc' ls st k μ, J pc' ls st k μ → ma_W p l e R s m args below meth c Q G nL c0 s0 pc' ls st k μ) (h : ma_step O E (.lushr) pp qq pc ls st k μ K J D) : ma_W p l e R s m args below meth c Q G nL c0 s0 pc ls st k μ := by
  obtain ⟨y, st, rfl, h⟩ := ma_pI_e h
  obtain ⟨x, st, rfl, h⟩ := ma_pL_e h
  exact ma_bS (f := ma_lushr) ma_f_lushr (fun a b H locs als cells slots rest hk => lv_lushr C.1 C.2.1 hd rfl hk) (hK _ _ _ _ h)
theorem ma_s_i2l (C : ma_Cx p s m args c G cc o nL) (hd : decode cc pc = .ok (.i2l, 1)) (hK : ∀ ls st k μ, K ls st k μ → ma_W p l e R s m args below meth c Q G nL c0 s0 (pc + 1) ls st k μ) (hJ : ∀ pc' ls st k μ, J pc' ls st k μ → ma_W p l e R s m args below meth c Q G nL c0 s0 pc' ls st k μ) (h : ma_step O E (.i2l) pp qq pc ls st k μ K J D) : ma_W p l e R s m args below meth c Q G nL c0 s0 pc ls st k μ := by
  obtain ⟨x, st, rfl, h⟩ := ma_pI_e h
  refine ma_pure (as := [ma_I x]) (bs := [ma_L x]) (fun H locs als ws hH hS hL hR => ?_) (hK _ _ _ _ h)
  obtain ⟨w, ws, rfl, hw, hR⟩ := ma_RS_cons hR
  cases ma_RS_nil hR
  obtain ⟨a, rfl, rfl⟩ := hw
  exact ⟨[.long a.toInt64], ⟨⟨_, rfl, by simp⟩, trivial⟩, fun cells slots rest hk => lv_i2l C.1 C.2.1 hd rfl hk⟩
theorem ma_s_l2i (C : ma_Cx p s m args c G cc o nL) (hd : decode cc pc = .ok (.l2i, 1)) (hK : ∀ ls st k μ, K ls st k μ → ma_W p l e R s m args below meth c Q G nL c0 s0 (pc + 1) ls st k μ) (hJ : ∀ pc' ls st k μ, J pc' ls st k μ → ma_W p l e R s m args below meth c Q G nL c0 s0 pc' ls st k μ) (h : ma_step O E (.l2i) pp qq pc ls st k μ K J D) : ma_W p l e R s m args below meth c Q G nL c0 s0 pc ls st k μ := by
  obtain ⟨x, st, rfl, h⟩ := ma_pL_e h
  refine ma_pure (as := [ma_L x]) (bs := [ma_I (ma_wI x)]) (fun H locs als ws hH hS hL hR => ?_) (hK _ _ _ _ h)
  obtain ⟨w, ws, rfl, hw, hR⟩ := ma_RS_cons hR
  cases ma_RS_nil hR
  obtain ⟨a, rfl, rfl⟩ := hw
  exact ⟨[.int a.toInt32], ⟨⟨_, rfl, by simp [ma_wI]⟩, trivial⟩, fun cells slots rest hk => lv_l2i C.1 C.2.1 hd rfl hk⟩
theorem ma_s_i2c (C : ma_Cx p s m args c G cc o nL) (hd : decode cc pc = .ok (.i2c, 1)) (hK : ∀ ls st k μ, K ls st k μ → ma_W p l e R s m args below meth c Q G nL c0 s0 (pc + 1) ls st k μ) (hJ : ∀ pc' ls st k μ, J pc' ls st k μ → ma_W p l e R s m args below meth c Q G nL c0 s0 pc' ls st k μ) (h : ma_step O E (.i2c) pp qq pc ls st k μ K J D) : ma_W p l e R s m args below meth c Q G nL c0 s0 pc ls st k μ := by
  obtain ⟨x, st, rfl, h⟩ := ma_pI_e h
  refine ma_pure (as := [ma_I x]) (bs := [ma_I (x % 65536)]) (fun H locs als ws hH hS hL hR => ?_) (hK _ _ _ _ h)
  obtain ⟨w, ws, rfl, hw, hR⟩ := ma_RS_cons hR
  cases ma_RS_nil hR
  obtain ⟨a, rfl, rfl⟩ := hw
  exact ⟨[.int (a.toUInt32 % 65536).toInt32], ⟨⟨_, rfl, ma_f_i2c a⟩, trivial⟩, fun cells slots rest hk => lv_i2c C.1 C.2.1 hd rfl hk⟩
theorem ma_s_i2d (C : ma_Cx p s m args c G cc o nL) (hd : decode cc pc = .ok (.i2d, 1)) (hK : ∀ ls st k μ, K ls st k μ → ma_W p l e R s m args below meth c Q G nL c0 s0 (pc + 1) ls st k μ) (hJ : ∀ pc' ls st k μ, J pc' ls st k μ → ma_W p l e R s m args below meth c Q G nL c0 s0 pc' ls st k μ) (h : ma_step O E (.i2d) pp qq pc ls st k μ K J D) : ma_W p l e R s m args below meth c Q G nL c0 s0 pc ls st k μ := by
  obtain ⟨x, st, rfl, h⟩ := ma_pI_e h
  refine ma_pure (as := [ma_I x]) (bs := [ma_D (FP.i2d (Int32.ofInt x))]) (fun H locs als ws hH hS hL hR => ?_) (hK _ _ _ _ h)
  obtain ⟨w, ws, rfl, hw, hR⟩ := ma_RS_cons hR
  cases ma_RS_nil hR
  obtain ⟨a, rfl, rfl⟩ := hw
  exact ⟨[.double (FP.i2d a)], ⟨(by show Value.double _ = Value.double _; rw [ma_oI]), trivial⟩, fun cells slots rest hk => lv_i2d C.1 C.2.1 hd hk⟩
theorem ma_s_i2f (C : ma_Cx p s m args c G cc o nL) (hd : decode cc pc = .ok (.i2f, 1)) (hK : ∀ ls st k μ, K ls st k μ → ma_W p l e R s m args below meth c Q G nL c0 s0 (pc + 1) ls st k μ) (hJ : ∀ pc' ls st k μ, J pc' ls st k μ → ma_W p l e R s m args below meth c Q G nL c0 s0 pc' ls st k μ) (h : ma_step O E (.i2f) pp qq pc ls st k μ K J D) : ma_W p l e R s m args below meth c Q G nL c0 s0 pc ls st k μ := by
  obtain ⟨x, st, rfl, h⟩ := ma_pI_e h
  refine ma_pure (as := [ma_I x]) (bs := [ma_F (FP.i2f (Int32.ofInt x))]) (fun H locs als ws hH hS hL hR => ?_) (hK _ _ _ _ h)
  obtain ⟨w, ws, rfl, hw, hR⟩ := ma_RS_cons hR
  cases ma_RS_nil hR
  obtain ⟨a, rfl, rfl⟩ := hw
  exact ⟨[.float (FP.i2f a)], ⟨(by show Value.float _ = Value.float _; rw [ma_oI]), trivial⟩, fun cells slots rest hk => lv_i2f C.1 C.2.1 hd hk⟩
theorem ma_s_f2d (C : ma_Cx p s m args c G cc o nL) (hd : decode cc pc = .ok (.f2d, 1)) (hK : ∀ ls st k μ, K ls st k μ → ma_W p l e R s m args below meth c Q G nL c0 s0 (pc + 1) ls st k μ) (hJ : ∀ pc' ls st k μ, J pc' ls st k μ → ma_W p l e R s m args below meth c Q G nL c0 s0 pc' ls st k μ) (h : ma_step O E (.f2d) pp qq pc ls st k μ K J D) : ma_W p l e R s m args below meth c Q G nL c0 s0 pc ls st k μ := by
  obtain ⟨x, st, rfl, hn, h⟩ := ma_pF_e h
  refine ma_pure (as := [ma_F x]) (bs := [ma_D (FP.f2d x)]) (fun H locs als ws hH hS hL hR => ?_) (hK _ _ _ _ h)
  obtain ⟨w, ws, rfl, hw, hR⟩ := ma_RS_cons hR
  cases ma_RS_nil hR
  cases hw
  exact ⟨[.double (FP.f2d x)], ⟨rfl, trivial⟩, fun cells slots rest hk => lv_f2d C.1 C.2.1 hd hn hk⟩
theorem ma_s_ddiv (C : ma_Cx p s m args c G cc o nL) (hd : decode cc pc = .ok (.ddiv, 1)) (hK : ∀ ls st k μ, K ls st k μ → ma_W p l e R s m args below meth c Q G nL c0 s0 (pc + 1) ls st k μ) (hJ : ∀ pc' ls st k μ, J pc' ls st k μ → ma_W p l e R s m args below meth c Q G nL c0 s0 pc' ls st k μ) (h : ma_step O E (.ddiv) pp qq pc ls st k μ K J D) : ma_W p l e R s m args below meth c Q G nL c0 s0 pc ls st k μ := by
  obtain ⟨y, st, rfl, h⟩ := ma_pD_e h
  obtain ⟨x, st, rfl, hn, h⟩ := ma_pD_e h
  refine ma_pure (as := [ma_D y, ma_D x]) (bs := [ma_D (FP.ddiv x y)]) (fun H locs als ws hH hS hL hR => ?_) (hK _ _ _ _ h)
  obtain ⟨w, ws, rfl, hw, hR⟩ := ma_RS_cons hR
  obtain ⟨w2, ws, rfl, hw2, hR⟩ := ma_RS_cons hR
  cases ma_RS_nil hR
  cases hw
  cases hw2
  exact ⟨[.double (FP.ddiv x y)], ⟨rfl, trivial⟩, fun cells slots rest hk => lv_ddiv C.1 C.2.1 hd hn hk⟩
theorem ma_s_fdiv (C : ma_Cx p s m args c G cc o nL) (hd : decode cc pc = .ok (.fdiv, 1)) (hK : ∀ ls st k μ, K ls st k μ → ma_W p l e R s m args below meth c Q G nL c0 s0 (pc + 1) ls st k μ) (hJ : ∀ pc' ls st k μ, J pc' ls st k μ → ma_W p l e R s m args below meth c Q G nL c0 s0 pc' ls st k μ) (h : ma_step O E (.fdiv) pp qq pc ls st k μ K J D) : ma_W p l e R s m args below meth c Q G nL c0 s0 pc ls st k μ := by
  obtain ⟨y, st, rfl, h⟩ := ma_pF_e h
  obtain ⟨x, st, rfl, hn, h⟩ := ma_pF_e h
  refine ma_pure (as := [ma_F y, ma_F x]) (bs := [ma_F (FP.fdiv x y)]) (fun H locs als ws hH hS hL hR => ?_) (hK _ _ _ _ h)
  obtain ⟨w, ws, rfl, hw, hR⟩ := ma_RS_cons hR
  obtain ⟨w2, ws, rfl, hw2, hR⟩ := ma_RS_cons hR
  cases ma_RS_nil hR
  cases hw
  cases hw2
  exact ⟨[.float (FP.fdiv x y)], ⟨rfl, trivial⟩, fun cells slots rest hk => lv_fdiv C.1 C.2.1 hd hn hk⟩
theorem ma_s_dcmp {op : CmpOp} (C : ma_Cx p s m args c G cc o nL) (hd : decode cc pc = .ok (.dcmp op, 1)) (hK : ∀ ls st k μ, K ls st k μ → ma_W p l e R s m args below meth c Q G nL c0 s0 (pc + 1) ls st k μ) (hJ : ∀ pc' ls st k μ, J pc' ls st k μ → ma_W p l e R s m args below meth c Q G nL c0 s0 pc' ls st k μ) (h : ma_step O E (.dcmp op) pp qq pc ls st k μ K J D) : ma_W p l e R s m args below meth c Q G nL c0 s0 pc ls st k μ := by
  obtain ⟨y, st, rfl, h⟩ := ma_pD_e h
  obtain ⟨x, st, rfl, h⟩ := ma_pD_e h
  refine ma_pure (as := [ma_D y, ma_D x]) (bs := [ma_I (Op.cmpValue (FP.dcmp x y) op).toInt]) (fun H locs als ws hH hS hL hR => ?_) (hK _ _ _ _ h)
  obtain ⟨w, ws, rfl, hw, hR⟩ := ma_RS_cons hR
  obtain ⟨w2, ws, rfl, hw2, hR⟩ := ma_RS_cons hR
  cases ma_RS_nil hR
  cases hw
  cases hw2
  exact ⟨[.int (Op.cmpValue (FP.dcmp x y) op)], ⟨⟨_, rfl, rfl⟩, trivial⟩, fun cells slots rest hk => lv_dcmp C.1 C.2.1 hd hk⟩
theorem ma_s_fcmp {op : CmpOp} (C : ma_Cx p s m args c G cc o nL) (hd : decode cc pc = .ok (.fcmp op, 1)) (hK : ∀ ls st k μ, K ls st k μ → ma_W p l e R s m args below meth c Q G nL c0 s0 (pc + 1) ls st k μ) (hJ : ∀ pc' ls st k μ, J pc' ls st k μ → ma_W p l e R s m args below meth c Q G nL c0 s0 pc' ls st k μ) (h : ma_step O E (.fcmp op) pp qq pc ls st k μ K J D) : ma_W p l e R s m args below meth c Q G nL c0 s0 pc ls st k μ := by
  obtain ⟨y, st, rfl, h⟩ := ma_pF_e h
  obtain ⟨x, st, rfl, h⟩ := ma_pF_e h
  refine ma_pure (as := [ma_F y, ma_F x]) (bs := [ma_I (Op.cmpValue (FP.fcmp x y) op).toInt]) (fun H locs als ws hH hS hL hR => ?_) (hK _ _ _ _ h)
  obtain ⟨w, ws, rfl, hw, hR⟩ := ma_RS_cons hR
  obtain ⟨w2, ws, rfl, hw2, hR⟩ := ma_RS_cons hR
  cases ma_RS_nil hR
  cases hw
  cases hw2
  exact ⟨[.int (Op.cmpValue (FP.fcmp x y) op)], ⟨⟨_, rfl, rfl⟩, trivial⟩, fun cells slots rest hk => lv_fcmp C.1 C.2.1 hd hk⟩
theorem ma_s_lcmp (C : ma_Cx p s m args c G cc o nL) (hd : decode cc pc = .ok (.lcmp, 1)) (hK : ∀ ls st k μ, K ls st k μ → ma_W p l e R s m args below meth c Q G nL c0 s0 (pc + 1) ls st k μ) (hJ : ∀ pc' ls st k μ, J pc' ls st k μ → ma_W p l e R s m args below meth c Q G nL c0 s0 pc' ls st k μ) (h : ma_step O E (.lcmp) pp qq pc ls st k μ K J D) : ma_W p l e R s m args below meth c Q G nL c0 s0 pc ls st k μ := by
  obtain ⟨y, st, rfl, h⟩ := ma_pL_e h
  obtain ⟨x, st, rfl, h⟩ := ma_pL_e h
  refine ma_pure (as := [ma_L y, ma_L x]) (bs := [ma_I (if y < x then 1 else if x = y then 0 else -1)]) (fun H locs als ws hH hS hL hR => ?_) (hK _ _ _ _ h)
  obtain ⟨w, ws, rfl, hw, hR⟩ := ma_RS_cons hR
  obtain ⟨w2, ws, rfl, hw2, hR⟩ := ma_RS_cons hR
  cases ma_RS_nil hR
  obtain ⟨a, rfl, rfl⟩ := hw
  obtain ⟨b, rfl, rfl⟩ := hw2
  exact ⟨[.int (lg_cmp b a)], ⟨⟨_, rfl, ma_f_cmp b a⟩, trivial⟩, fun cells slots rest hk => W.lcmp C.1 C.2.1 hd hk⟩
theorem ma_s_dup (C : ma_Cx p s m args c G cc o nL) (hd : decode cc pc = .ok (.dup, 1)) (hK : ∀ ls st k μ, K ls st k μ → ma_W p l e R s m args below meth c Q G nL c0 s0 (pc + 1) ls st k μ) (hJ : ∀ pc' ls st k μ, J pc' ls st k μ → ma_W p l e R s m args below meth c Q G nL c0 s0 pc' ls st k μ) (h : ma_step O E (.dup) pp qq pc ls st k μ K J D) : ma_W p l e R s m args below meth c Q G nL c0 s0 pc ls st k μ := by
  obtain ⟨v, st, rfl, h1, h2, h⟩ := ma_pA_e h
  refine ma_pure (as := [v]) (bs := [v, v]) (fun H locs als ws hH hS hL hR => ?_) (hK _ _ _ _ h)
  obtain ⟨w, ws, rfl, hw, hR⟩ := ma_RS_cons hR
  cases ma_RS_nil hR
  exact ⟨[w, w], ⟨hw, hw, trivial⟩, fun cells slots rest hk => lv_dup C.1 C.2.1 hd (ma_Rv_c1 hw h2 h1) hk⟩
theorem ma_s_pop (C : ma_Cx p s m args c G cc o nL) (hd : decode cc pc = .ok (.pop, 1)) (hK : ∀ ls st k μ, K ls st k μ → ma_W p l e R s m args below meth c Q G nL c0 s0 (pc + 1) ls st k μ) (hJ : ∀ pc' ls st k μ, J pc' ls st k μ → ma_W p l e R s m args below meth c Q G nL c0 s0 pc' ls st k μ) (h : ma_step O E (.pop) pp qq pc ls st k μ K J D) : ma_W p l e R s m args below meth c Q G nL c0 s0 pc ls st k μ := by
  obtain ⟨v, st, rfl, h1, h2, h⟩ := ma_pA_e h
  refine ma_pure (as := [v]) (bs := []) (fun H locs als ws hH hS hL hR => ?_) (hK _ _ _ _ h)
  obtain ⟨w, ws, rfl, hw, hR⟩ := ma_RS_cons hR
  cases ma_RS_nil hR
  exact ⟨[], trivial, fun cells slots rest hk => lv_pop C.1 C.2.1 hd (ma_Rv_c1 hw h2 h1) hk⟩
theorem ma_s_dup_x1 (C : ma_Cx p s m args c G cc o nL) (hd : decode cc pc = .ok (.dup_x1, 1)) (hK : ∀ ls st k μ, K ls st k μ → ma_W p l e R s m args below meth c Q G nL c0 s0 (pc + 1) ls st k μ) (hJ : ∀ pc' ls st k μ, J pc' ls st k μ → ma_W p l e R s m args below meth c Q G nL c0 s0 pc' ls st k μ) (h : ma_step O E (.dup_x1) pp qq pc ls st k μ K J D) : ma_W p l e R s m args below meth c Q G nL c0 s0 pc ls st k μ := by
  obtain ⟨v, st, rfl, h1, h2, h⟩ := ma_pA_e h
  obtain ⟨w, st, rfl, h3, h4, h⟩ := ma_pA_e h
  refine ma_pure (as := [v, w]) (bs := [v, w, v]) (fun H locs als ws hH hS hL hR => ?_) (hK _ _ _ _ h)
  obtain ⟨x, ws, rfl, hx, hR⟩ := ma_RS_cons hR
  obtain ⟨y, ws, rfl, hy, hR⟩ := ma_RS_cons hR
  cases ma_RS_nil hR
  exact ⟨[x, y, x], ⟨hx, hy, hx, trivial⟩, fun cells slots rest hk => lv_dup_x1 C.1 C.2.1 hd (ma_Rv_c1 hx h2 h1) (ma_Rv_c1 hy h4 h3) hk⟩
theorem ma_s_dup2 (C : ma_Cx p s m args c G cc o nL) (hd : decode cc pc = .ok (.dup2, 1)) (hK : ∀ ls st k μ, K ls st k μ → ma_W p l e R s m args below meth c Q G nL c0 s0 (pc + 1) ls st k μ) (hJ : ∀ pc' ls st k μ, J pc' ls st k μ → ma_W p l e R s m args below meth c Q G nL c0 s0 pc' ls st k μ) (h : ma_step O E (.dup2) pp qq pc ls st k μ K J D) : ma_W p l e R s m args below meth c Q G nL c0 s0 pc ls st k μ := by
  obtain ⟨v, st, rfl, h1, h2, h⟩ := ma_pA_e h
  obtain ⟨w, st, rfl, h3, h4, h⟩ := ma_pA_e h
  refine ma_pure (as := [v, w]) (bs := [v, w, v, w]) (fun H locs als ws hH hS hL hR => ?_) (hK _ _ _ _ h)
  obtain ⟨x, ws, rfl, hx, hR⟩ := ma_RS_cons hR
  obtain ⟨y, ws, rfl, hy, hR⟩ := ma_RS_cons hR
  cases ma_RS_nil hR
  exact ⟨[x, y, x, y], ⟨hx, hy, hx, hy, trivial⟩, fun cells slots rest hk => lv_dup2_11 C.1 C.2.1 hd (ma_Rv_c1 hx h2 h1) (ma_Rv_c1 hy h4 h3) hk⟩
theorem ma_s_iinc {i : Nat} {n9 : Int} (C : ma_Cx p s m args c G cc o nL) (hd : decode cc pc = .ok (.iinc i n9, 3)) (hK : ∀ ls st k μ, K ls st k μ → ma_W p l e R s m args below meth c Q G nL c0 s0 (pc + 3) ls st k μ) (hJ : ∀ pc' ls st k μ, J pc' ls st k μ → ma_W p l e R s m args below meth c Q G nL c0 s0 pc' ls st k μ) (h : ma_step O E (.iinc i n9) pp qq pc ls st k μ K J D) : ma_W p l e R s m args below meth c Q G nL c0 s0 pc ls st k μ := by
  obtain ⟨n, hg, hr, h⟩ := ma_gI_e h
  intro H locs als vs hH hS hL hR
  obtain ⟨w, h1, x, rfl, hx⟩ := hL.get hg ma_neU_I
  obtain ⟨lv, h3, h4⟩ := ma_lvfull hL.2.1 hL.2.2.1
  obtain ⟨kk, hkk, e⟩ := List.getElem_of_mem (h4 i _ h1)
  refine lv_iinc C.1 C.2.1 hd h3 (k := kk) (List.getElem?_eq_some_iff.mpr ⟨hkk, e⟩) rfl (by rw [← hL.2.1]; exact lv_lt h1) rfl (fun als1 h5 => ?_)
  have e9 : (x + Int32.ofInt n9).toInt = ma_wI (x.toInt + n9) := by simp [ma_wI]
  exact hK _ _ _ _ h H locs als1 vs hH hS (hL.st1 h4 rfl h5 ⟨_, rfl, by rw [e9, hx, ma_wI_id hr]⟩) hR
theorem ma_s_goto {off : Int} (ht : 0 ≤ (pc : Int) + off) (C : ma_Cx p s m args c G cc o nL) (hd : decode cc pc = .ok (.goto off, 3)) (hK : ∀ ls st k μ, K ls st k μ → ma_W p l e R s m args below meth c Q G nL c0 s0 (pc + 3) ls st k μ) (hJ : ∀ pc' ls st k μ, J pc' ls st k μ → ma_W p l e R s m args below meth c Q G nL c0 s0 pc' ls st k μ) (h : ma_step O E (.goto off) pp qq pc ls st k μ K J D) : ma_W p l e R s m args below meth c Q G nL c0 s0 pc ls st k μ := by
  have h : J (ma_tgt pc off) ls st k μ := h
  intro H locs als vs hH hS hL hR
  exact lv_goto C.1 C.2.1 hd (by show (pc : Int) + off = (((pc : Int) + off).toNat : Int); omega) (hJ _ _ _ _ _ h H locs als vs hH hS hL hR)
theorem ma_s_ifCond {cd : Jvm.ClassFile.Cond} {off : Int} (ht : 0 ≤ (pc : Int) + off) (C : ma_Cx p s m args c G cc o nL) (hd : decode cc pc = .ok (.ifCond cd off, 3)) (hK : ∀ ls st k μ, K ls st k μ → ma_W p l e R s m args below meth c Q G nL c0 s0 (pc + 3) ls st k μ) (hJ : ∀ pc' ls st k μ, J pc' ls st k μ → ma_W p l e R s m args below meth c Q G nL c0 s0 pc' ls st k μ) (h : ma_step O E (.ifCond cd off) pp qq pc ls st k μ K J D) : ma_W p l e R s m args below meth c Q G nL c0 s0 pc ls st k μ := by
  obtain ⟨n, st, rfl, h⟩ := ma_pI_e h
  intro H locs als vs hH hS hL hR
  obtain ⟨_, vs, rfl, ⟨x, rfl, hx⟩, hR1⟩ := ma_RS_cons hR
  have e0 : (0 : Int32).toInt = 0 := rfl
  have et : (pc : Int) + off = (ma_tgt pc off : Int) := by show (pc : Int) + off = (((pc : Int) + off).toNat : Int); omega
  cases cd with
  | eq => exact lv_if_eq C.1 C.2.1 hd et (fun z => hJ _ _ _ _ _ (h.1 (by simpa only [ma_cmp, Int32.lt_iff_toInt_lt, Int32.le_iff_toInt_le, ← Int32.toInt_inj, e0, hx, Int.not_lt, Int.not_le] using z)) H locs als vs hH hS hL hR1) (fun z => hK _ _ _ _ (h.2 (by simpa only [ma_cmp, Int32.lt_iff_toInt_lt, Int32.le_iff_toInt_le, ← Int32.toInt_inj, e0, hx, Int.not_lt, Int.not_le, Classical.not_not] using z)) H locs als vs hH hS hL hR1)
  | ne => exact lv_if_ne C.1 C.2.1 hd et (fun z => hJ _ _ _ _ _ (h.1 (by simpa only [ma_cmp, Int32.lt_iff_toInt_lt, Int32.le_iff_toInt_le, ← Int32.toInt_inj, e0, hx, Int.not_lt, Int.not_le] using z)) H locs als vs hH hS hL hR1) (fun z => hK _ _ _ _ (h.2 (by simpa only [ma_cmp, Int32.lt_iff_toInt_lt, Int32.le_iff_toInt_le, ← Int32.toInt_inj, e0, hx, Int.not_lt, Int.not_le, Classical.not_not] using z)) H locs als vs hH hS hL hR1)
  | lt => exact lv_if_lt C.1 C.2.1 hd et (fun z => hJ _ _ _ _ _ (h.1 (by simpa only [ma_cmp, Int32.lt_iff_toInt_lt, Int32.le_iff_toInt_le, ← Int32.toInt_inj, e0, hx, Int.not_lt, Int.not_le] using z)) H locs als vs hH hS hL hR1) (fun z => hK _ _ _ _ (h.2 (by simpa only [ma_cmp, Int32.lt_iff_toInt_lt, Int32.le_iff_toInt_le, ← Int32.toInt_inj, e0, hx, Int.not_lt, Int.not_le, Classical.not_not] using z)) H locs als vs hH hS hL hR1)
  | ge => exact lv_if_ge C.1 C.2.1 hd et (fun z => hJ _ _ _ _ _ (h.1 (by simpa only [ma_cmp, Int32.lt_iff_toInt_lt, Int32.le_iff_toInt_le, ← Int32.toInt_inj, e0, hx, Int.not_lt, Int.not_le] using z)) H locs als vs hH hS hL hR1) (fun z => hK _ _ _ _ (h.2 (by simpa only [ma_cmp, Int32.lt_iff_toInt_lt, Int32.le_iff_toInt_le, ← Int32.toInt_inj, e0, hx, Int.not_lt, Int.not_le, Classical.not_not] using z)) H locs als vs hH hS hL hR1)
  | gt => exact lv_if_gt C.1 C.2.1 hd et (fun z => hJ _ _ _ _ _ (h.1 (by simpa only [ma_cmp, Int32.lt_iff_toInt_lt, Int32.le_iff_toInt_le, ← Int32.toInt_inj, e0, hx, Int.not_lt, Int.not_le] using z)) H locs als vs hH hS hL hR1) (fun z => hK _ _ _ _ (h.2 (by simpa only [ma_cmp, Int32.lt_iff_toInt_lt, Int32.le_iff_toInt_le, ← Int32.toInt_inj, e0, hx, Int.not_lt, Int.not_le, Classical.not_not] using z)) H locs als vs hH hS hL hR1)
  | le => exact lv_if_le C.1 C.2.1 hd et (fun z => hJ _ _ _ _ _ (h.1 (by simpa only [ma_cmp, Int32.lt_iff_toInt_lt, Int32.le_iff_toInt_le, ← Int32.toInt_inj, e0, hx, Int.not_lt, Int.not_le] using z)) H locs als vs hH hS hL hR1) (fun z => hK _ _ _ _ (h.2 (by simpa only [ma_cmp, Int32.lt_iff_toInt_lt, Int32.le_iff_toInt_le, ← Int32.toInt_inj, e0, hx, Int.not_lt, Int.not_le, Classical.not_not] using z)) H locs als vs hH hS hL hR1)
theorem ma_s_if_icmp {cd : Jvm.ClassFile.Cond} {off : Int} (ht : 0 ≤ (pc : Int) + off) (C : ma_Cx p s m args c G cc o nL) (hd : decode cc pc = .ok (.if_icmp cd off, 3)) (hK : ∀ ls st k μ, K ls st k μ → ma_W p l e R s m args below meth c Q G nL c0 s0 (pc + 3) ls st k μ) (hJ : ∀ pc' ls st k μ, J pc' ls st k μ → ma_W p l e R s m args below meth c Q G nL c0 s0 pc' ls st k μ) (h : ma_step O E (.if_icmp cd off) pp qq pc ls st k μ K J D) : ma_W p l e R s m args below meth c Q G nL c0 s0 pc ls st k μ := by
  obtain ⟨n2, st, rfl, h⟩ := ma_pI_e h
  obtain ⟨n, st, rfl, h⟩ := ma_pI_e h
  intro H locs als vs hH hS hL hR
  obtain ⟨_, vs, rfl, ⟨y, rfl, hy⟩, hR0⟩ := ma_RS_cons hR
  obtain ⟨_, vs, rfl, ⟨x, rfl, hx⟩, hR1⟩ := ma_RS_cons hR0
  have et : (pc : Int) + off = (ma_tgt pc off : Int) := by show (pc : Int) + off = (((pc : Int) + off).toNat : Int); omega
  cases cd with
  | eq => exact lv_icmp_eq C.1 C.2.1 hd et (fun z => hJ _ _ _ _ _ (h.1 (by simpa only [ma_cmp, Int32.lt_iff_toInt_lt, Int32.le_iff_toInt_le, ← Int32.toInt_inj, hx, hy, Int.not_lt, Int.not_le] using z)) H locs als vs hH hS hL hR1) (fun z => hK _ _ _ _ (h.2 (by simpa only [ma_cmp, Int32.lt_iff_toInt_lt, Int32.le_iff_toInt_le, ← Int32.toInt_inj, hx, hy, Int.not_lt, Int.not_le, Classical.not_not] using z)) H locs als vs hH hS hL hR1)
  | ne => exact lv_icmp_ne C.1 C.2.1 hd et (fun z => hJ _ _ _ _ _ (h.1 (by simpa only [ma_cmp, Int32.lt_iff_toInt_lt, Int32.le_iff_toInt_le, ← Int32.toInt_inj, hx, hy, Int.not_lt, Int.not_le] using z)) H locs als vs hH hS hL hR1) (fun z => hK _ _ _ _ (h.2 (by simpa only [ma_cmp, Int32.lt_iff_toInt_lt, Int32.le_iff_toInt_le, ← Int32.toInt_inj, hx, hy, Int.not_lt, Int.not_le, Classical.not_not] using z)) H locs als vs hH hS hL hR1)
  | lt => exact lv_icmp_lt C.1 C.2.1 hd et (fun z => hJ _ _ _ _ _ (h.1 (by simpa only [ma_cmp, Int32.lt_iff_toInt_lt, Int32.le_iff_toInt_le, ← Int32.toInt_inj, hx, hy, Int.not_lt, Int.not_le] using z)) H locs als vs hH hS hL hR1) (fun z => hK _ _ _ _ (h.2 (by simpa only [ma_cmp, Int32.lt_iff_toInt_lt, Int32.le_iff_toInt_le, ← Int32.toInt_inj, hx, hy, Int.not_lt, Int.not_le, Classical.not_not] using z)) H locs als vs hH hS hL hR1)
  | ge => exact lv_icmp_ge C.1 C.2.1 hd et (fun z => hJ _ _ _ _ _ (h.1 (by simpa only [ma_cmp, Int32.lt_iff_toInt_lt, Int32.le_iff_toInt_le, ← Int32.toInt_inj, hx, hy, Int.not_lt, Int.not_le] using z)) H locs als vs hH hS hL hR1) (fun z => hK _ _ _ _ (h.2 (by simpa only [ma_cmp, Int32.lt_iff_toInt_lt, Int32.le_iff_toInt_le, ← Int32.toInt_inj, hx, hy, Int.not_lt, Int.not_le, Classical.not_not] using z)) H locs als vs hH hS hL hR1)
  | gt => exact lv_icmp_gt C.1 C.2.1 hd et (fun z => hJ _ _ _ _ _ (h.1 (by simpa only [ma_cmp, Int32.lt_iff_toInt_lt, Int32.le_iff_toInt_le, ← Int32.toInt_inj, hx, hy, Int.not_lt, Int.not_le] using z)) H locs als vs hH hS hL hR1) (fun z => hK _ _ _ _ (h.2 (by simpa only [ma_cmp, Int32.lt_iff_toInt_lt, Int32.le_iff_toInt_le, ← Int32.toInt_inj, hx, hy, Int.not_lt, Int.not_le, Classical.not_not] using z)) H locs als vs hH hS hL hR1)
  | le => exact lv_icmp_le C.1 C.2.1 hd et (fun z => hJ _ _ _ _ _ (h.1 (by simpa only [ma_cmp, Int32.lt_iff_toInt_lt, Int32.le_iff_toInt_le, ← Int32.toInt_inj, hx, hy, Int.not_lt, Int.not_le] using z)) H locs als vs hH hS hL hR1) (fun z => hK _ _ _ _ (h.2 (by simpa only [ma_cmp, Int32.lt_iff_toInt_lt, Int32.le_iff_toInt_le, ← Int32.toInt_inj, hx, hy, Int.not_lt, Int.not_le, Classical.not_not] using z)) H locs als vs hH hS hL hR1)
theorem ma_s_tableswitch {ln : Nat} {d lo hi : Int} {offs : Array Int} (ht : 0 ≤ (pc : Int) + d ∧ ∀ off ∈ offs, 0 ≤ (pc : Int) + off) (C : ma_Cx p s m args c G cc o nL) (hd : decode cc pc = .ok (.tableswitch d lo hi offs, ln)) (hK : ∀ ls st k μ, K ls st k μ → ma_W p l e R s m args below meth c Q G nL c0 s0 (pc + ln) ls st k μ) (hJ : ∀ pc' ls st k μ, J pc' ls st k μ → ma_W p l e R s m args below meth c Q G nL c0 s0 pc' ls st k μ) (h : ma_step O E (.tableswitch d lo hi offs) pp qq pc ls st k μ K J D) : ma_W p l e R s m args below meth c Q G nL c0 s0 pc ls st k μ := by
  obtain ⟨n, st, rfl, h⟩ := ma_pI_e h
  intro H locs als vs hH hS hL hR
  obtain ⟨_, vs, rfl, ⟨x, rfl, hx⟩, hR1⟩ := ma_RS_cons hR
  have et : ∀ off : Int, 0 ≤ (pc : Int) + off → (pc : Int) + off = (ma_tgt pc off : Int) := fun off z => by show (pc : Int) + off = (((pc : Int) + off).toNat : Int); omega
  by_cases hc : n < lo ∨ hi < n
  · exact lv_tableOut C.1 C.2.1 hd (by rw [hx]; exact hc) (et _ ht.1) (hJ _ _ _ _ _ (h.1 hc) H locs als vs hH hS hL hR1)
  · obtain ⟨off, h1, h2⟩ := h.2 hc
    exact lv_tableIn C.1 C.2.1 hd (by rw [hx]; exact fun z => hc (Or.inl z)) (by rw [hx]; exact fun z => hc (Or.inr z)) (by rw [hx]; exact h1) (et _ (ht.2 off (by rw [Array.mem_iff_getElem?]; exact ⟨_, h1⟩))) (hJ _ _ _ _ _ h2 H locs als vs hH hS hL hR1)
end PST
end
section
/-! one instruction of the small machine: fields, arrays, and what of the library is one step -/
theorem ma_ck_lt (k : Nat) : (ma_ck k).2.1 < 5000 := by
  unfold ma_ck
  rw [List.getD_eq_getElem?_getD]
  cases h : ma_cells[k]? with
  | none => decide
  | some x => exact (by decide +kernel : ∀ x ∈ ma_cells, x.2.1 < 5000) x (List.mem_of_getElem? h)
theorem ma_ck_out {k : Nat} (h : 71 ≤ k) : ma_ck k = (99, 0, 0) := by
  unfold ma_ck
  rw [List.getD_eq_getElem?_getD, List.getElem?_eq_none (by exact h)]
  rfl
theorem ma_k8 {k : Nat} (h : (ma_ck k).1 = 8) : k = 0 := by
  by_cases hk : k < 71
  · exact (by decide +kernel : ∀ k, k < 71 → (ma_ck k).1 = 8 → k = 0) k hk h
  · rw [ma_ck_out (by omega)] at h
    cases h
theorem ma_k7 {k : Nat} (h : (ma_ck k).1 = 7) : k = 1 := by
  by_cases hk : k < 71
  · exact (by decide +kernel : ∀ k, k < 71 → (ma_ck k).1 = 7 → k = 1) k hk h
  · rw [ma_ck_out (by omega)] at h
    cases h
theorem ma_len_ne {LS k : Nat} (h : (ma_ck k).1 ≠ 8) : ma_len LS k = (ma_ck k).2.1 := by
  unfold ma_len
  rw [if_neg (fun z => h (by rw [z]; rfl))]
theorem ma_ge2 {k : Nat} (h : (ma_ck k).1 ≤ 4 ∨ 10 ≤ (ma_ck k).1) : 2 ≤ k := by
  rcases k with _ | _ | k
  · rcases h with h | h <;> revert h <;> decide
  · rcases h with h | h <;> revert h <;> decide
  · omega
theorem ma_ofT {x : Int32} {v : Int} (h : x.toInt = v) : Int32.ofInt v = x := by rw [← h, ma_oI]
theorem ma_ofTL {x : Int64} {v : Int} (h : x.toInt = v) : Int64.ofInt v = x := by rw [← h, ma_oL]
theorem ma_b01 {x : Int32} (h : x.toInt = 0 ∨ x.toInt = 1) : x = 0 ∨ x = 1 := by
  rcases h with h | h
  · exact Or.inl (Int32.toInt_inj.mp (by rw [h]; rfl))
  · exact Or.inr (Int32.toInt_inj.mp (by rw [h]; rfl))
theorem ma_nbool {x : Int32} (h : x.toInt = 0 ∨ x.toInt = 1) : narrow .boolean (.int x) = .int x ∧ fits .boolean (.int x) = true := by
  rcases ma_b01 h with rfl | rfl <;> exact ⟨rfl, rfl⟩
theorem ma_nchar {x : Int32} (h : 0 ≤ x.toInt ∧ x.toInt < 65536) : narrow .char (.int x) = .int x := by
  have e : x = nI x.toInt.toNat := by
    apply Int32.toInt_inj.mp
    rw [nI_toInt (by omega)]
    omega
  have h2 := pk_charN (q := x.toInt.toNat) (by omega)
  rw [← e] at h2
  exact h2.1
section MST
variable {p : Program} {l : Launch} {e : Env} {R : Room} {s : State} {m : MethodId} {args : Array Value} {below : List Frame} {meth : Method} {c : Code} {Q : State → Prop} {G : ma_G} {cc : ByteArray} {o nL c0 s0 pc k pp : Nat} {qq : Int} {ls st : List ma_V} {μ : ma_M} {O : ma_O} {E : ma_E} {K : ma_K} {J : ma_J} {D : ma_Dn}
theorem ma_s_getfield {i : Nat} (hq : (o, i, pp, qq.toNat) ∈ ma_fl ∧ 0 ≤ qq ∧ pp < 11 ∧ qq.toNat < ma_N pp) (C : ma_Cx p s m args c G cc o nL) (hd : decode cc pc = .ok (.getfield i, 3)) (hK : ∀ ls st k μ, K ls st k μ → ma_W p l e R s m args below meth c Q G nL c0 s0 (pc + 3) ls st k μ) (hJ : ∀ pc' ls st k μ, J pc' ls st k μ → ma_W p l e R s m args below meth c Q G nL c0 s0 pc' ls st k μ) (h : ma_step O E (.getfield i) pp qq pc ls st k μ K J D) : ma_W p l e R s m args below meth c Q G nL c0 s0 pc ls st k μ := by
  have h : ma_pR st fun a r st => (ma_ck a).1 = 10 + pp ∧ (match ma_fk pp qq.toNat with
              | 0 => K ls (ma_I (μ a r qq) :: st) k μ
              | 1 => K ls (ma_L (μ a r qq) :: st) k μ
              | 2 => K ls (ma_I (μ a r qq) :: st) k μ
              | 3 => K ls (ma_Rf (ma_rf a qq.toNat) 0 :: st) k μ
              | 4 => K ls (ma_Rf (μ a r qq).toNat 0 :: st) k μ
              | _ => False) := h
  obtain ⟨hl, h0, hci, hf⟩ := hq
  obtain ⟨a, r, st, rfl, hc, h1⟩ := ma_pR_e h
  obtain ⟨f, rfl⟩ : ∃ f : Nat, qq = (f : Int) := ⟨qq.toNat, by omega⟩
  have hl : (o, i, pp, f) ∈ ma_fl := hl
  have hf : f < ma_N pp := hf
  intro H locs als vs hH hS hL hR
  obtain ⟨_, vs, rfl, ⟨rfl, hv⟩, hR1⟩ := ma_RS_cons hR
  have hv : ma_val G a r := hv
  have hcan := ((hH a r hv).2.2.2 pp hc).2 f hf
  refine ma_getF C hH hv hc hci hf hl hd ?_
  have key : ∀ v : ma_V, ma_Rv G v (ma_fv G μ a r pp f) → K ls (v :: st) k μ → W p l e R s m args below meth c H locs (c0 + k) (s0 + 6 * k) Q (F0 m (pc + 3) als (ma_fv G μ a r pp f :: vs)) := fun v hv hk => hK _ _ _ _ hk H locs als (_ :: vs) hH hS hL ⟨hv, hR1⟩
  have h2 : (match ma_fk pp f with
        | 0 => K ls (ma_I (μ a r (f : Int)) :: st) k μ
        | 1 => K ls (ma_L (μ a r (f : Int)) :: st) k μ
        | 2 => K ls (ma_I (μ a r (f : Int)) :: st) k μ
        | 3 => K ls (ma_Rf (ma_rf a f) 0 :: st) k μ
        | 4 => K ls (ma_Rf (μ a r (f : Int)).toNat 0 :: st) k μ
        | _ => False) := h1
  unfold ma_fcan at hcan
  unfold ma_fv at key ⊢
  generalize ma_fk pp f = n at h2 hcan key ⊢
  match n, h2, hcan, key with
  | 0, h, hcan, key => exact key (ma_I (μ a r f)) ⟨_, rfl, ma_back hcan⟩ h
  | 1, h, hcan, key => exact key (ma_L (μ a r f)) ⟨_, rfl, ma_backL hcan⟩ h
  | 2, h, hcan, key => exact key (ma_I (μ a r f)) ⟨_, rfl, ma_back hcan⟩ h
  | 3, h, hcan, key => exact key (ma_Rf (ma_rf a f) 0) ⟨rfl, hcan⟩ h
  | 4, h, hcan, key => exact key (ma_Rf (μ a r f).toNat 0) ⟨rfl, hcan⟩ h
  | n + 5, h, hcan, key => exact h.elim
theorem ma_s_putfield {i : Nat} (hq : (o, i, pp, qq.toNat) ∈ ma_fl ∧ 0 ≤ qq ∧ pp < 11 ∧ qq.toNat < ma_N pp ∧ (ma_T pp qq.toNat).2.2.2 = false) (C : ma_Cx p s m args c G cc o nL) (hd : decode cc pc = .ok (.putfield i, 3)) (hK : ∀ ls st k μ, K ls st k μ → ma_W p l e R s m args below meth c Q G nL c0 s0 (pc + 3) ls st k μ) (hJ : ∀ pc' ls st k μ, J pc' ls st k μ → ma_W p l e R s m args below meth c Q G nL c0 s0 pc' ls st k μ) (h : ma_step O E (.putfield i) pp qq pc ls st k μ K J D) : ma_W p l e R s m args below meth c Q G nL c0 s0 pc ls st k μ := by
  obtain ⟨hl, h0, hci, hf, hfin⟩ := hq
  obtain ⟨f, rfl⟩ : ∃ f : Nat, qq = (f : Int) := ⟨qq.toNat, by omega⟩
  have hl : (o, i, pp, f) ∈ ma_fl := hl
  have hf : f < ma_N pp := hf
  have hfin : (ma_T pp f).2.2.2 = false := hfin
  obtain ⟨t0, t1, t2, t4⟩ := ma_fk_ok pp hci f hf
  rcases st with _ | ⟨v | v | b | b | b | b | b, _ | ⟨n | n | a | n | n | n | n, st⟩⟩ <;> first | exact h.elim | skip
  · obtain ⟨hc, h2, h⟩ := h
    intro H locs als vs hH hS hL hR
    obtain ⟨_, vs, rfl, ⟨x, rfl, hx⟩, hR1⟩ := ma_RS_cons hR
    obtain ⟨_, vs, rfl, ⟨rfl, hv⟩, hR2⟩ := ma_RS_cons hR1
    have hv : ma_val G a.1 a.2 := hv
    have hr := ma_rng x
    rw [hx] at hr
    have h2' : ma_fk pp f = 0 ∨ (ma_fk pp f = 2 ∧ (v = 0 ∨ v = 1)) := h2
    have hn : narrow (ma_fty pp f) (.int x) = .int x ∧ fits (ma_fty pp f) (.int x) = true := by
      rcases h2' with q | ⟨q, q2⟩
      · rw [t0 q]; exact ⟨rfl, rfl⟩
      · rw [t2 q]; exact ma_nbool (by rw [hx]; exact q2)
    have n1 : ma_fk pp f ≠ 1 := by rcases h2' with q | ⟨q, -⟩ <;> omega
    have n3 : ma_fk pp f ≠ 3 := by rcases h2' with q | ⟨q, -⟩ <;> omega
    have n4 : ma_fk pp f ≠ 4 := by rcases h2' with q | ⟨q, -⟩ <;> omega
    refine ma_putF C hH hS hv (ma_ge2 (by omega)) hc hci hf hl hfin hd hn.1 hn.2 (v := v) ?_ ?_ (fun H1 locs1 hH1 hS1 => hK _ _ _ _ h H1 locs1 als vs hH1 hS1 hL hR2)
    · unfold ma_fv; rw [if_neg n1, if_neg n3, if_neg n4]; simp only [ma_up, and_self, if_true]; rw [ma_ofT hx]
    · unfold ma_fcan; rw [if_neg n1, if_neg n3, if_neg n4]; exact hr
  · obtain ⟨hc, h2, h⟩ := h
    have h2 : ma_fk pp f = 1 := h2
    intro H locs als vs hH hS hL hR
    obtain ⟨_, vs, rfl, ⟨x, rfl, hx⟩, hR1⟩ := ma_RS_cons hR
    obtain ⟨_, vs, rfl, ⟨rfl, hv⟩, hR2⟩ := ma_RS_cons hR1
    have hv : ma_val G a.1 a.2 := hv
    have hr := ma_rngL x
    rw [hx] at hr
    refine ma_putF C hH hS hv (ma_ge2 (by omega)) hc hci hf hl hfin hd (by rw [t1 h2]; rfl) (by rw [t1 h2]; rfl) (v := v) ?_ ?_ (fun H1 locs1 hH1 hS1 => hK _ _ _ _ h H1 locs1 als vs hH1 hS1 hL hR2)
    · unfold ma_fv; rw [if_pos h2]; simp only [ma_up, and_self, if_true]; rw [ma_ofTL hx]
    · unfold ma_fcan; rw [if_pos h2]; exact hr
  · obtain ⟨hc, h2, h3, h4, h⟩ := h
    have h2 : ma_fk pp f = 4 := h2
    obtain ⟨b1, b2⟩ := b
    have h4 : b2 = 0 := h4
    subst h4
    intro H locs als vs hH hS hL hR
    obtain ⟨_, vs, rfl, ⟨rfl, hvb⟩, hR1⟩ := ma_RS_cons hR
    obtain ⟨_, vs, rfl, ⟨rfl, hv⟩, hR2⟩ := ma_RS_cons hR1
    have hv : ma_val G a.1 a.2 := hv
    refine ma_putF C hH hS hv (ma_ge2 (by omega)) hc hci hf hl hfin hd (by rw [t4 h2]; rfl) (by rw [t4 h2]; rfl) (v := (b1 : Int)) ?_ ?_ (fun H1 locs1 hH1 hS1 => hK _ _ _ _ h H1 locs1 als vs hH1 hS1 hL hR2)
    · unfold ma_fv; rw [if_neg (by omega), if_neg (by omega), if_pos h2]; simp only [ma_up, and_self, if_true]; rfl
    · unfold ma_fcan; rw [if_neg (by omega), if_neg (by omega), if_pos h2]; exact hvb
theorem ma_s_getstatic {i : Nat} (hq : (o, i) ∈ ma_sl) (C : ma_Cx p s m args c G cc o nL) (hd : decode cc pc = .ok (.getstatic i, 3)) (hK : ∀ ls st k μ, K ls st k μ → ma_W p l e R s m args below meth c Q G nL c0 s0 (pc + 3) ls st k μ) (hJ : ∀ pc' ls st k μ, J pc' ls st k μ → ma_W p l e R s m args below meth c Q G nL c0 s0 pc' ls st k μ) (h : ma_step O E (.getstatic i) pp qq pc ls st k μ K J D) : ma_W p l e R s m args below meth c Q G nL c0 s0 pc ls st k μ := by
  intro H locs als vs hH hS hL hR
  obtain ⟨-, -, -, hZ, -⟩ := C.2.2.2.2.2.2.2.2
  exact va_gets C.1 C.2.1 hZ hS C.2.2.2.1 (C.2.2.2.2.1 _ (ma_WG_in (ma_sl_in _ (List.mem_map.mpr ⟨_, hq, rfl⟩)) (ma_sl_good _ (List.mem_map.mpr ⟨_, hq, rfl⟩)))) (fun _ z => z) hd (hK _ _ _ _ h H locs als _ hH hS hL ⟨⟨rfl, by decide, by decide, by decide, C.2.2.2.2.2.2.1.2.2.2.2.1⟩, hR⟩)
theorem ma_s_arraylength (hE : E.1 = G.LS ∧ G.LS ≤ 2048) (C : ma_Cx p s m args c G cc o nL) (hd : decode cc pc = .ok (.arraylength, 1)) (hK : ∀ ls st k μ, K ls st k μ → ma_W p l e R s m args below meth c Q G nL c0 s0 (pc + 1) ls st k μ) (hJ : ∀ pc' ls st k μ, J pc' ls st k μ → ma_W p l e R s m args below meth c Q G nL c0 s0 pc' ls st k μ) (h : ma_step O E (.arraylength) pp qq pc ls st k μ K J D) : ma_W p l e R s m args below meth c Q G nL c0 s0 pc ls st k μ := by
  have h : ma_pR st fun a _ st => ((ma_ck a).1 ≤ 4 ∨ (ma_ck a).1 = 8) ∧ K ls (ma_I (ma_len E.1 a : Int) :: st) k μ := h
  obtain ⟨a, r, st, rfl, hc, h1⟩ := ma_pR_e h
  intro H locs als vs hH hS hL hR
  obtain ⟨_, vs, rfl, ⟨rfl, hv⟩, hR1⟩ := ma_RS_cons hR
  have hv : ma_val G a r := hv
  have hsm : ∀ n : Nat, n < 2147483648 → (Nat.toInt32 n).toInt = (n : Int) := fun n hn => by
    show (Int32.ofNat n).toInt = _
    rw [Int32.toInt_ofNat']
    show Int.bmod (n : Int) 4294967296 = _
    simp only [Int.bmod_def]
    omega
  have key : ∀ (cell : Cell) (n : Nat), H[G.ad a r]? = some cell → (∃ ty, s.isArrayOf cell ty) → cell.slots.size = n → n < 2147483648 → (n : Int) = (ma_len E.1 a : Int) → W p l e R s m args below meth c H locs (c0 + k) (s0 + 6 * k) Q (F0 m pc als (.ref (G.ad a r) :: vs)) := fun cell n g1 ⟨ty, g2⟩ g3 g4 g5 =>
    W.alen (n := cell.slots.size.toInt32) C.1 C.2.1 g1 g2 rfl (g := F0 m pc als (.ref (G.ad a r) :: vs)) rfl rfl hd (hK _ _ _ _ h1 H locs als (.int cell.slots.size.toInt32 :: vs) hH hS hL ⟨⟨_, rfl, by rw [g3, hsm n g4]; exact g5⟩, hR1⟩)
  rcases hc with hc | hc
  · obtain ⟨e1, e2, -⟩ := ma_arr C hH hv hc
    exact key _ _ e1 ⟨_, e2⟩ (arrV_size _ _ _) (Nat.lt_trans (ma_ck_lt a) (by decide)) (by rw [ma_len_ne (by omega)])
  · obtain ⟨cell, e1, e2, -, -, e5, -⟩ := (hH a r hv).2.2.1 (Or.inr hc)
    exact key _ _ e1 ⟨_, e2⟩ (e5 hc) (by omega) (by rw [ma_k8 hc]; show (G.LS : Int) = (ma_len E.1 0 : Int); rw [← hE.1]; rfl)
theorem ma_ldA (C : ma_Cx p s m args c G cc o nL) {H : Heap} {kk : Nat} {r i : Int} {x : Int32} (hH : ma_HR G s μ H) (hv : ma_val G kk r) (hc : (ma_ck kk).1 ≤ 4) (hx : x.toInt = i) (hi : ma_in E.1 kk i) :
    H[G.ad kk r]? = some (arrV (G.dA (ma_ck kk).1) (ma_ck kk).2.1 (fun j => ma_cv (ma_ck kk).1 (μ kk r j))) ∧ s.isArrayOf (arrV (G.dA (ma_ck kk).1) (ma_ck kk).2.1 (fun j => ma_cv (ma_ck kk).1 (μ kk r j))) (ma_fat (ma_ck kk).1) ∧ (arrV (G.dA (ma_ck kk).1) (ma_ck kk).2.1 (fun j => ma_cv (ma_ck kk).1 (μ kk r j))).vm ≠ .unknown ∧
    ¬ (x < 0 ∨ (arrV (G.dA (ma_ck kk).1) (ma_ck kk).2.1 (fun j => ma_cv (ma_ck kk).1 (μ kk r j))).slots.size ≤ x.toNatClampNeg) ∧ (arrV (G.dA (ma_ck kk).1) (ma_ck kk).2.1 (fun j => ma_cv (ma_ck kk).1 (μ kk r j))).slots[x.toNatClampNeg]? = some (ma_cv (ma_ck kk).1 (μ kk r i)) ∧ ma_can (ma_ck kk).1 (μ kk r i) ∧ ((x.toNatClampNeg : Nat) : Int) = i := by
  obtain ⟨e1, e2, e3⟩ := ma_arr C hH hv hc
  unfold ma_in at hi
  rw [ma_len_ne (by omega)] at hi
  obtain ⟨f1, f2, f3, f4⟩ := ma_idx hx hi
  refine ⟨e1, e2, fun z => (by cases z), by rw [arrV_size]; exact f1, by rw [arrV_read _ _ f3, f4], e3 i hi.1 hi.2, f4⟩
theorem ma_s_laload (C : ma_Cx p s m args c G cc o nL) (hd : decode cc pc = .ok (.laload, 1)) (hK : ∀ ls st k μ, K ls st k μ → ma_W p l e R s m args below meth c Q G nL c0 s0 (pc + 1) ls st k μ) (hJ : ∀ pc' ls st k μ, J pc' ls st k μ → ma_W p l e R s m args below meth c Q G nL c0 s0 pc' ls st k μ) (h : ma_step O E (.laload) pp qq pc ls st k μ K J D) : ma_W p l e R s m args below meth c Q G nL c0 s0 pc ls st k μ := by
  have h : ma_pI st fun i st => ma_pR st fun a r st => ma_in E.1 a i ∧ (ma_ck a).1 = 1 ∧ K ls (ma_L (μ a r i) :: st) k μ := h
  obtain ⟨i, st, rfl, h1⟩ := ma_pI_e h
  obtain ⟨a, r, st, rfl, hi, hc, h2⟩ := ma_pR_e h1
  intro H locs als vs hH hS hL hR
  obtain ⟨_, vs, rfl, ⟨x, rfl, hx⟩, hR1⟩ := ma_RS_cons hR
  obtain ⟨_, vs, rfl, ⟨rfl, hv⟩, hR2⟩ := ma_RS_cons hR1
  have hv : ma_val G a r := hv
  obtain ⟨e1, e2, e3, e4, e5, hcan, -⟩ := ma_ldA (E := E) C hH hv (by omega) hx hi
  rw [hc] at e1 e2 e3 e4 e5 hcan
  exact W.lald C.1 C.2.1 e1 e2 e3 e4 e5 (g := F0 m pc als (.int x :: .ref (G.ad a r) :: vs)) rfl rfl hd (hK _ _ _ _ h2 H locs als (_ :: vs) hH hS hL ⟨⟨_, rfl, ma_backL hcan⟩, hR2⟩)
theorem ma_s_baload (C : ma_Cx p s m args c G cc o nL) (hd : decode cc pc = .ok (.baload, 1)) (hK : ∀ ls st k μ, K ls st k μ → ma_W p l e R s m args below meth c Q G nL c0 s0 (pc + 1) ls st k μ) (hJ : ∀ pc' ls st k μ, J pc' ls st k μ → ma_W p l e R s m args below meth c Q G nL c0 s0 pc' ls st k μ) (h : ma_step O E (.baload) pp qq pc ls st k μ K J D) : ma_W p l e R s m args below meth c Q G nL c0 s0 pc ls st k μ := by
  have h : ma_pI st fun i st => ma_pR st fun a r st => ma_in E.1 a i ∧ (ma_ck a).1 = 2 ∧ K ls (ma_I (μ a r i) :: st) k μ := h
  obtain ⟨i, st, rfl, h1⟩ := ma_pI_e h
  obtain ⟨a, r, st, rfl, hi, hc, h2⟩ := ma_pR_e h1
  intro H locs als vs hH hS hL hR
  obtain ⟨_, vs, rfl, ⟨x, rfl, hx⟩, hR1⟩ := ma_RS_cons hR
  obtain ⟨_, vs, rfl, ⟨rfl, hv⟩, hR2⟩ := ma_RS_cons hR1
  have hv : ma_val G a r := hv
  obtain ⟨e1, e2, e3, e4, e5, hcan, -⟩ := ma_ldA (E := E) C hH hv (by omega) hx hi
  rw [hc] at e1 e2 e3 e4 e5 hcan
  exact W.zald C.1 C.2.1 e1 e2 e3 e4 e5 (g := F0 m pc als (.int x :: .ref (G.ad a r) :: vs)) rfl rfl hd (hK _ _ _ _ h2 H locs als (_ :: vs) hH hS hL ⟨⟨_, rfl, ma_back hcan⟩, hR2⟩)
theorem ma_s_caload (C : ma_Cx p s m args c G cc o nL) (hd : decode cc pc = .ok (.caload, 1)) (hK : ∀ ls st k μ, K ls st k μ → ma_W p l e R s m args below meth c Q G nL c0 s0 (pc + 1) ls st k μ) (hJ : ∀ pc' ls st k μ, J pc' ls st k μ → ma_W p l e R s m args below meth c Q G nL c0 s0 pc' ls st k μ) (h : ma_step O E (.caload) pp qq pc ls st k μ K J D) : ma_W p l e R s m args below meth c Q G nL c0 s0 pc ls st k μ := by
  have h : ma_pI st fun i st => ma_pR st fun a r st => ma_in E.1 a i ∧ (ma_ck a).1 = 3 ∧ K ls (ma_I (μ a r i) :: st) k μ := h
  obtain ⟨i, st, rfl, h1⟩ := ma_pI_e h
  obtain ⟨a, r, st, rfl, hi, hc, h2⟩ := ma_pR_e h1
  intro H locs als vs hH hS hL hR
  obtain ⟨_, vs, rfl, ⟨x, rfl, hx⟩, hR1⟩ := ma_RS_cons hR
  obtain ⟨_, vs, rfl, ⟨rfl, hv⟩, hR2⟩ := ma_RS_cons hR1
  have hv : ma_val G a r := hv
  obtain ⟨e1, e2, e3, e4, e5, hcan, -⟩ := ma_ldA (E := E) C hH hv (by omega) hx hi
  rw [hc] at e1 e2 e3 e4 e5 hcan
  exact W.cald C.1 C.2.1 e1 e2 e3 e4 e5 (g := F0 m pc als (.int x :: .ref (G.ad a r) :: vs)) rfl rfl hd (hK _ _ _ _ h2 H locs als (_ :: vs) hH hS hL ⟨⟨_, rfl, ma_back hcan⟩, hR2⟩)
theorem ma_s_daload (C : ma_Cx p s m args c G cc o nL) (hd : decode cc pc = .ok (.daload, 1)) (hK : ∀ ls st k μ, K ls st k μ → ma_W p l e R s m args below meth c Q G nL c0 s0 (pc + 1) ls st k μ) (hJ : ∀ pc' ls st k μ, J pc' ls st k μ → ma_W p l e R s m args below meth c Q G nL c0 s0 pc' ls st k μ) (h : ma_step O E (.daload) pp qq pc ls st k μ K J D) : ma_W p l e R s m args below meth c Q G nL c0 s0 pc ls st k μ := by
  have h : ma_pI st fun i st => ma_pR st fun a r st => ma_in E.1 a i ∧ (ma_ck a).1 = 4 ∧ K ls (ma_D (UInt64.ofNat (μ a r i).toNat) :: st) k μ := h
  obtain ⟨i, st, rfl, h1⟩ := ma_pI_e h
  obtain ⟨a, r, st, rfl, hi, hc, h2⟩ := ma_pR_e h1
  intro H locs als vs hH hS hL hR
  obtain ⟨_, vs, rfl, ⟨x, rfl, hx⟩, hR1⟩ := ma_RS_cons hR
  obtain ⟨_, vs, rfl, ⟨rfl, hv⟩, hR2⟩ := ma_RS_cons hR1
  have hv : ma_val G a r := hv
  obtain ⟨e1, e2, e3, e4, e5, hcan, -⟩ := ma_ldA (E := E) C hH hv (by omega) hx hi
  rw [hc] at e1 e2 e3 e4 e5 hcan
  exact W.dald C.1 C.2.1 e1 e2 e3 e4 e5 (g := F0 m pc als (.int x :: .ref (G.ad a r) :: vs)) rfl rfl hd (hK _ _ _ _ h2 H locs als (_ :: vs) hH hS hL ⟨rfl, hR2⟩)
theorem ma_s_iaload (hE : E.1 = G.LS ∧ G.LS ≤ 2048) (C : ma_Cx p s m args c G cc o nL) (hd : decode cc pc = .ok (.iaload, 1)) (hK : ∀ ls st k μ, K ls st k μ → ma_W p l e R s m args below meth c Q G nL c0 s0 (pc + 1) ls st k μ) (hJ : ∀ pc' ls st k μ, J pc' ls st k μ → ma_W p l e R s m args below meth c Q G nL c0 s0 pc' ls st k μ) (h : ma_step O E (.iaload) pp qq pc ls st k μ K J D) : ma_W p l e R s m args below meth c Q G nL c0 s0 pc ls st k μ := by
  have h : ma_pI st fun i st => ma_pR st fun a r st => ma_in E.1 a i ∧ (((ma_ck a).1 = 0 ∨ (ma_ck a).1 = 7) ∧ K ls (ma_I (μ a r i) :: st) k μ ∨ (ma_ck a).1 = 8 ∧ (ma_r32 (μ a r i) → K ls (ma_I (μ a r i) :: st) k μ)) := h
  obtain ⟨i, st, rfl, h1⟩ := ma_pI_e h
  obtain ⟨a, r, st, rfl, hi, h2⟩ := ma_pR_e h1
  intro H locs als vs hH hS hL hR
  obtain ⟨_, vs, rfl, ⟨x, rfl, hx⟩, hR1⟩ := ma_RS_cons hR
  obtain ⟨_, vs, rfl, ⟨rfl, hv⟩, hR2⟩ := ma_RS_cons hR1
  have hv : ma_val G a r := hv
  have hst : ((ma_ck a).1 = 7 ∨ (ma_ck a).1 = 8) → (ma_r32 (μ a r i) → K ls (ma_I (μ a r i) :: st) k μ) → W p l e R s m args below meth c H locs (c0 + k) (s0 + 6 * k) Q (F0 m pc als (.int x :: .ref (G.ad a r) :: vs)) := fun hc h => by
    obtain ⟨cell, e1, e2, e3, e4, -, e6⟩ := (hH a r hv).2.2.1 hc
    have hi' : 0 ≤ i ∧ i < (ma_len G.LS a : Int) := by rw [← hE.1]; exact hi
    obtain ⟨f1, f2, f3, f4⟩ := ma_idx hx hi'
    obtain ⟨g1, g2⟩ := e6 i hi'.1 hi'.2
    exact W.iald (v := .int (Int32.ofInt (μ a r i))) C.1 C.2.1 e1 e2 e3 (fun z => f1 (z.imp id (fun z => Nat.le_trans e4 z))) (by rw [f2]; exact g2) (g := F0 m pc als (.int x :: .ref (G.ad a r) :: vs)) rfl rfl hd (hK _ _ _ _ (h g1) H locs als (_ :: vs) hH hS hL ⟨⟨_, rfl, ma_back g1⟩, hR2⟩)
  rcases h2 with ⟨hc, h⟩ | ⟨hc, h⟩
  · rcases hc with hc | hc
    · obtain ⟨e1, e2, e3, e4, e5, hcan, -⟩ := ma_ldA (E := E) C hH hv (by omega) hx hi
      rw [hc] at e1 e2 e3 e4 e5 hcan
      exact W.iald C.1 C.2.1 e1 e2 e3 e4 e5 (g := F0 m pc als (.int x :: .ref (G.ad a r) :: vs)) rfl rfl hd (hK _ _ _ _ h H locs als (_ :: vs) hH hS hL ⟨⟨_, rfl, ma_back hcan⟩, hR2⟩)
    · exact hst (Or.inl hc) (fun _ => h)
  · exact hst (Or.inr hc) h
theorem ma_s_aaload (C : ma_Cx p s m args c G cc o nL) (hd : decode cc pc = .ok (.aaload, 1)) (hK : ∀ ls st k μ, K ls st k μ → ma_W p l e R s m args below meth c Q G nL c0 s0 (pc + 1) ls st k μ) (hJ : ∀ pc' ls st k μ, J pc' ls st k μ → ma_W p l e R s m args below meth c Q G nL c0 s0 pc' ls st k μ) (h : ma_step O E (.aaload) pp qq pc ls st k μ K J D) : ma_W p l e R s m args below meth c Q G nL c0 s0 pc ls st k μ := by
  have h : ma_pI st fun i st => ma_pR st fun a _ st => ma_in E.1 a i ∧ ((ma_ck a).1 = 5 ∨ (ma_ck a).1 = 6) ∧ K ls (ma_Rf (a + 1) i :: st) k μ := h
  obtain ⟨i, st, rfl, h1⟩ := ma_pI_e h
  obtain ⟨a, r, st, rfl, hi, hc, h2⟩ := ma_pR_e h1
  intro H locs als vs hH hS hL hR
  obtain ⟨_, vs, rfl, ⟨x, rfl, hx⟩, hR1⟩ := ma_RS_cons hR
  obtain ⟨_, vs, rfl, ⟨rfl, hv⟩, hR2⟩ := ma_RS_cons hR1
  have hv : ma_val G a r := hv
  have e1 := (hH a r hv).2.1 hc
  unfold ma_in at hi
  rw [ma_len_ne (by omega)] at hi
  obtain ⟨f1, f2, f3, f4⟩ := ma_idx hx hi
  have e2 := C.2.2.2.2.2.1.1 (ma_ck a).1 (by omega) (ma_ck a).2.1 (fun j => .ref (G.ad (a + 1) j))
  have hrows : a + 1 < ma_cells.length ∧ ((ma_ck a).2.1 : Int) ≤ ((ma_ck (a + 1)).2.2 : Int) := by
    have hk : a < 71 := by
      by_cases z : a < 71
      · exact z
      · rw [ma_ck_out (by omega)] at hc
        rcases hc with hc | hc <;> cases hc
    exact (by decide +kernel : ∀ a, a < 71 → ((ma_ck a).1 = 5 ∨ (ma_ck a).1 = 6) → a + 1 < ma_cells.length ∧ ((ma_ck a).2.1 : Int) ≤ ((ma_ck (a + 1)).2.2 : Int)) a hk hc
  have hty : (ma_fat (ma_ck a).1).isReference = true := by rcases hc with hc | hc <;> (rw [hc]; rfl)
  exact W.aald (v := .ref (G.ad (a + 1) i)) C.1 C.2.1 e1 e2 hty (fun z => by cases z) (by rw [arrV_size]; exact f1) (by rw [arrV_read _ _ f3, f4]) (g := F0 m pc als (.int x :: .ref (G.ad a r) :: vs)) rfl rfl hd (hK _ _ _ _ h2 H locs als (_ :: vs) hH hS hL ⟨⟨rfl, hrows.1, hi.1, Int.lt_of_lt_of_le hi.2 hrows.2, C.2.2.2.2.2.2.1.2.2.2.2.2 a hc hv.2.2.2⟩, hR2⟩)
theorem ma_s_iastore (C : ma_Cx p s m args c G cc o nL) (hd : decode cc pc = .ok (.iastore, 1)) (hK : ∀ ls st k μ, K ls st k μ → ma_W p l e R s m args below meth c Q G nL c0 s0 (pc + 1) ls st k μ) (hJ : ∀ pc' ls st k μ, J pc' ls st k μ → ma_W p l e R s m args below meth c Q G nL c0 s0 pc' ls st k μ) (h : ma_step O E (.iastore) pp qq pc ls st k μ K J D) : ma_W p l e R s m args below meth c Q G nL c0 s0 pc ls st k μ := by
  have h : ma_pI st fun v st => ma_pI st fun i st => ma_pR st fun a r st => ma_in E.1 a i ∧ (ma_ck a).1 = 0 ∧ K ls st k (ma_up μ a r i v) := h
  obtain ⟨v, st, rfl, h1⟩ := ma_pI_e h
  obtain ⟨i, st, rfl, h2⟩ := ma_pI_e h1
  obtain ⟨a, r, st, rfl, hi, hc, h3⟩ := ma_pR_e h2
  intro H locs als vs hH hS hL hR
  obtain ⟨_, vs, rfl, ⟨y, rfl, hy⟩, hR3⟩ := ma_RS_cons hR
  obtain ⟨_, vs, rfl, ⟨x, rfl, hx⟩, hR1⟩ := ma_RS_cons hR3
  obtain ⟨_, vs, rfl, ⟨rfl, hv⟩, hR2⟩ := ma_RS_cons hR1
  have hv : ma_val G a r := hv
  obtain ⟨e1, e2, e3, e4, -, -, e7⟩ := ma_ldA (E := E) C hH hv (by omega) hx hi
  have hc4 : (ma_ck a).1 ≤ 4 := by omega
  refine W.iast C.1 C.2.1 e1 (by rw [hc] at e2 ⊢; exact e2) e3 e4 (g := F0 m pc als (.int y :: .int x :: .ref (G.ad a r) :: vs)) rfl rfl hd (fun H' f1 f2 f3 => ?_)
  obtain ⟨g1, g2⟩ := ma_stA (v := v) C hH hS hv (ma_ge2 (Or.inl hc4)) hc4 e7 f1 f2 f3 (by rw [hc]; exact congrArg Value.int (ma_ofT hy)) (by rw [hc]; exact (hy ▸ ma_rng y))
  exact hK _ _ _ _ h3 H' _ als vs g1 g2 hL hR2
theorem ma_s_lastore (C : ma_Cx p s m args c G cc o nL) (hd : decode cc pc = .ok (.lastore, 1)) (hK : ∀ ls st k μ, K ls st k μ → ma_W p l e R s m args below meth c Q G nL c0 s0 (pc + 1) ls st k μ) (hJ : ∀ pc' ls st k μ, J pc' ls st k μ → ma_W p l e R s m args below meth c Q G nL c0 s0 pc' ls st k μ) (h : ma_step O E (.lastore) pp qq pc ls st k μ K J D) : ma_W p l e R s m args below meth c Q G nL c0 s0 pc ls st k μ := by
  have h : ma_pL st fun v st => ma_pI st fun i st => ma_pR st fun a r st => ma_in E.1 a i ∧ (ma_ck a).1 = 1 ∧ K ls st k (ma_up μ a r i v) := h
  obtain ⟨v, st, rfl, h1⟩ := ma_pL_e h
  obtain ⟨i, st, rfl, h2⟩ := ma_pI_e h1
  obtain ⟨a, r, st, rfl, hi, hc, h3⟩ := ma_pR_e h2
  intro H locs als vs hH hS hL hR
  obtain ⟨_, vs, rfl, ⟨y, rfl, hy⟩, hR3⟩ := ma_RS_cons hR
  obtain ⟨_, vs, rfl, ⟨x, rfl, hx⟩, hR1⟩ := ma_RS_cons hR3
  obtain ⟨_, vs, rfl, ⟨rfl, hv⟩, hR2⟩ := ma_RS_cons hR1
  have hv : ma_val G a r := hv
  obtain ⟨e1, e2, e3, e4, -, -, e7⟩ := ma_ldA (E := E) C hH hv (by omega) hx hi
  have hc4 : (ma_ck a).1 ≤ 4 := by omega
  refine W.last C.1 C.2.1 e1 (by rw [hc] at e2 ⊢; exact e2) e3 e4 (g := F0 m pc als (.long y :: .int x :: .ref (G.ad a r) :: vs)) rfl rfl hd (fun H' f1 f2 f3 => ?_)
  obtain ⟨g1, g2⟩ := ma_stA (v := v) C hH hS hv (ma_ge2 (Or.inl hc4)) hc4 e7 f1 f2 f3 (by rw [hc]; exact congrArg Value.long (ma_ofTL hy)) (by rw [hc]; exact (hy ▸ ma_rngL y))
  exact hK _ _ _ _ h3 H' _ als vs g1 g2 hL hR2
theorem ma_s_bastore (C : ma_Cx p s m args c G cc o nL) (hd : decode cc pc = .ok (.bastore, 1)) (hK : ∀ ls st k μ, K ls st k μ → ma_W p l e R s m args below meth c Q G nL c0 s0 (pc + 1) ls st k μ) (hJ : ∀ pc' ls st k μ, J pc' ls st k μ → ma_W p l e R s m args below meth c Q G nL c0 s0 pc' ls st k μ) (h : ma_step O E (.bastore) pp qq pc ls st k μ K J D) : ma_W p l e R s m args below meth c Q G nL c0 s0 pc ls st k μ := by
  have h : ma_pI st fun v st => ma_pI st fun i st => ma_pR st fun a r st => ma_in E.1 a i ∧ (ma_ck a).1 = 2 ∧ (v = 0 ∨ v = 1) ∧ K ls st k (ma_up μ a r i v) := h
  obtain ⟨v, st, rfl, h1⟩ := ma_pI_e h
  obtain ⟨i, st, rfl, h2⟩ := ma_pI_e h1
  obtain ⟨a, r, st, rfl, hi, hc, hb01, h3⟩ := ma_pR_e h2
  intro H locs als vs hH hS hL hR
  obtain ⟨_, vs, rfl, ⟨y, rfl, hy⟩, hR3⟩ := ma_RS_cons hR
  obtain ⟨_, vs, rfl, ⟨x, rfl, hx⟩, hR1⟩ := ma_RS_cons hR3
  obtain ⟨_, vs, rfl, ⟨rfl, hv⟩, hR2⟩ := ma_RS_cons hR1
  have hv : ma_val G a r := hv
  obtain ⟨e1, e2, e3, e4, -, -, e7⟩ := ma_ldA (E := E) C hH hv (by omega) hx hi
  have hc4 : (ma_ck a).1 ≤ 4 := by omega
  refine W.zast C.1 C.2.1 e1 (by rw [hc] at e2 ⊢; exact e2) e3 e4 (g := F0 m pc als (.int y :: .int x :: .ref (G.ad a r) :: vs)) rfl rfl hd (fun H' f1 f2 f3 => ?_)
  rw [(ma_nbool (x := y) (by rw [hy]; exact hb01)).1] at f1
  obtain ⟨g1, g2⟩ := ma_stA (v := v) C hH hS hv (ma_ge2 (Or.inl hc4)) hc4 e7 f1 f2 f3 (by rw [hc]; exact congrArg Value.int (ma_ofT hy)) (by rw [hc]; exact (hy ▸ ma_rng y))
  exact hK _ _ _ _ h3 H' _ als vs g1 g2 hL hR2
theorem ma_s_castore (C : ma_Cx p s m args c G cc o nL) (hd : decode cc pc = .ok (.castore, 1)) (hK : ∀ ls st k μ, K ls st k μ → ma_W p l e R s m args below meth c Q G nL c0 s0 (pc + 1) ls st k μ) (hJ : ∀ pc' ls st k μ, J pc' ls st k μ → ma_W p l e R s m args below meth c Q G nL c0 s0 pc' ls st k μ) (h : ma_step O E (.castore) pp qq pc ls st k μ K J D) : ma_W p l e R s m args below meth c Q G nL c0 s0 pc ls st k μ := by
  have h : ma_pI st fun v st => ma_pI st fun i st => ma_pR st fun a r st => ma_in E.1 a i ∧ (ma_ck a).1 = 3 ∧ (0 ≤ v ∧ v < 65536) ∧ K ls st k (ma_up μ a r i v) := h
  obtain ⟨v, st, rfl, h1⟩ := ma_pI_e h
  obtain ⟨i, st, rfl, h2⟩ := ma_pI_e h1
  obtain ⟨a, r, st, rfl, hi, hc, hb01, h3⟩ := ma_pR_e h2
  intro H locs als vs hH hS hL hR
  obtain ⟨_, vs, rfl, ⟨y, rfl, hy⟩, hR3⟩ := ma_RS_cons hR
  obtain ⟨_, vs, rfl, ⟨x, rfl, hx⟩, hR1⟩ := ma_RS_cons hR3
  obtain ⟨_, vs, rfl, ⟨rfl, hv⟩, hR2⟩ := ma_RS_cons hR1
  have hv : ma_val G a r := hv
  obtain ⟨e1, e2, e3, e4, -, -, e7⟩ := ma_ldA (E := E) C hH hv (by omega) hx hi
  have hc4 : (ma_ck a).1 ≤ 4 := by omega
  refine W.cast C.1 C.2.1 e1 (by rw [hc] at e2 ⊢; exact e2) e3 e4 (g := F0 m pc als (.int y :: .int x :: .ref (G.ad a r) :: vs)) rfl rfl hd (fun H' f1 f2 f3 => ?_)
  rw [ma_nchar (x := y) (by rw [hy]; exact hb01)] at f1
  obtain ⟨g1, g2⟩ := ma_stA (v := v) C hH hS hv (ma_ge2 (Or.inl hc4)) hc4 e7 f1 f2 f3 (by rw [hc]; exact congrArg Value.int (ma_ofT hy)) (by rw [hc]; exact (hy ▸ ma_rng y))
  exact hK _ _ _ _ h3 H' _ als vs g1 g2 hL hR2
theorem ma_s_dastore (C : ma_Cx p s m args c G cc o nL) (hd : decode cc pc = .ok (.dastore, 1)) (hK : ∀ ls st k μ, K ls st k μ → ma_W p l e R s m args below meth c Q G nL c0 s0 (pc + 1) ls st k μ) (hJ : ∀ pc' ls st k μ, J pc' ls st k μ → ma_W p l e R s m args below meth c Q G nL c0 s0 pc' ls st k μ) (h : ma_step O E (.dastore) pp qq pc ls st k μ K J D) : ma_W p l e R s m args below meth c Q G nL c0 s0 pc ls st k μ := by
  have h : ma_pD st fun v st => ma_pI st fun i st => ma_pR st fun a r st => ma_in E.1 a i ∧ (ma_ck a).1 = 4 ∧ K ls st k (ma_up μ a r i (v.toNat : Int)) := h
  obtain ⟨v, st, rfl, h1⟩ := ma_pD_e h
  obtain ⟨i, st, rfl, h2⟩ := ma_pI_e h1
  obtain ⟨a, r, st, rfl, hi, hc, h3⟩ := ma_pR_e h2
  intro H locs als vs hH hS hL hR
  obtain ⟨_, vs, rfl, hwd, hR3⟩ := ma_RS_cons hR
  cases hwd
  obtain ⟨_, vs, rfl, ⟨x, rfl, hx⟩, hR1⟩ := ma_RS_cons hR3
  obtain ⟨_, vs, rfl, ⟨rfl, hv⟩, hR2⟩ := ma_RS_cons hR1
  have hv : ma_val G a r := hv
  obtain ⟨e1, e2, e3, e4, -, -, e7⟩ := ma_ldA (E := E) C hH hv (by omega) hx hi
  have hc4 : (ma_ck a).1 ≤ 4 := by omega
  refine W.dast C.1 C.2.1 e1 (by rw [hc] at e2 ⊢; exact e2) e3 e4 (g := F0 m pc als (.double v :: .int x :: .ref (G.ad a r) :: vs)) rfl rfl hd (fun H' f1 f2 f3 => ?_)
  obtain ⟨g1, g2⟩ := ma_stA (v := (v.toNat : Int)) C hH hS hv (ma_ge2 (Or.inl hc4)) hc4 e7 f1 f2 f3 (by rw [hc]; exact (by show Value.double (UInt64.ofNat ((v.toNat : Int)).toNat) = Value.double v; simp)) (by rw [hc]; exact (by have := v.toNat_lt; show 0 ≤ (v.toNat : Int) ∧ (v.toNat : Int) < 18446744073709551616; omega))
  exact hK _ _ _ _ h3 H' _ als vs g1 g2 hL hR2
end MST
end
section
/-! library methods that are one step of the small machine -/
/-- the room of a body: for its own instructions, and for the cells that it may make -/
def ma_Ro (R : Room) (E : ma_E) (c0 s0 : Nat) : Prop := 10 ≤ R.frames ∧ 200 ≤ R.locals ∧ c0 + E.2.2.2 ≤ R.cells ∧ s0 + 6 * E.2.2.2 ≤ R.slots
theorem ma_catR {G : ma_G} {st : List ma_V} {vs : List Value} (h : ma_RS G st vs) (h4 : st.length ≤ 4) : (vs.map fun v => v.category).sum ≤ 8 := by
  have h1 := @ma_cats vs
  have h2 := ma_RS_len h
  omega
section LIB
variable {p : Program} {l : Launch} {e : Env} {R : Room} {s : State} {m : MethodId} {args : Array Value} {below : List Frame} {meth : Method} {c : Code} {Q : State → Prop} {G : ma_G} {cc : ByteArray} {o nL c0 s0 pc k pp : Nat} {qq : Int} {ls st : List ma_V} {μ : ma_M} {O : ma_O} {E : ma_E} {K : ma_K} {J : ma_J} {D : ma_Dn}
theorem ma_s_mmax {i : Nat} (hq : (o, i) ∈ ma_mx) (hRo : ma_Ro R E c0 s0) (hLn : nL = c.maxLocals) (C : ma_Cx p s m args c G cc o nL) (hd : decode cc pc = .ok (.invokestatic i, 3)) (hK : ∀ ls st k μ, K ls st k μ → ma_W p l e R s m args below meth c Q G nL c0 s0 (pc + 3) ls st k μ) (h : ma_pI st fun y st => ma_pI st fun x st => st.length ≤ 4 ∧ k ≤ E.2.2.2 ∧ K ls (ma_I (if x < y then y else x) :: st) k μ) : ma_W p l e R s m args below meth c Q G nL c0 s0 pc ls st k μ := by
  obtain ⟨y, st, rfl, h1⟩ := ma_pI_e h
  obtain ⟨x, st, rfl, h4, hk, h2⟩ := ma_pI_e h1
  intro H locs als vs hH hS hL hR
  obtain ⟨_, vs, rfl, ⟨b, rfl, hb⟩, hR1⟩ := ma_RS_cons hR
  obtain ⟨_, vs, rfl, ⟨a, rfl, ha⟩, hR2⟩ := ma_RS_cons hR1
  have hc8 := ma_catR hR2 h4
  obtain ⟨r1, r2, r3, r4⟩ := hRo
  refine va_mmax C.1 C.2.1 (by rw [hL.2.1]; exact hLn.symm) C.2.2.2.1 (C.2.2.2.2.1 _ (ma_WG_in (ma_mx_in _ (List.mem_map.mpr ⟨_, hq, rfl⟩)) (ma_mx_good _ (List.mem_map.mpr ⟨_, hq, rfl⟩)))) (C.2.2.2.2.1 _ (ma_WG_in (ma_mxs_in _ List.mem_cons_self) (ma_mxs_good _ List.mem_cons_self))) (C.2.2.2.2.1 _ (ma_WG_in (ma_mxs_in _ (List.mem_cons_of_mem _ List.mem_cons_self)) (ma_mxs_good _ (List.mem_cons_of_mem _ List.mem_cons_self)))) (C.2.2.2.2.1 _ (ma_WG_in (ma_mxc_in _ List.mem_cons_self) (by decide +kernel))) (by omega) (by omega) (by omega) (by omega) hd (hK _ _ _ _ h2 H locs als (_ :: vs) hH hS hL ⟨⟨_, rfl, ?_⟩, hR2⟩)
  simp only [Int32.lt_iff_toInt_lt, ha, hb]
  split <;> assumption
theorem ma_s_mmin {i : Nat} (hq : (o, i) ∈ ma_mn) (hRo : ma_Ro R E c0 s0) (hLn : nL = c.maxLocals) (C : ma_Cx p s m args c G cc o nL) (hd : decode cc pc = .ok (.invokestatic i, 3)) (hK : ∀ ls st k μ, K ls st k μ → ma_W p l e R s m args below meth c Q G nL c0 s0 (pc + 3) ls st k μ) (h : ma_pI st fun y st => ma_pI st fun x st => st.length ≤ 4 ∧ k ≤ E.2.2.2 ∧ K ls (ma_I (if y < x then y else x) :: st) k μ) : ma_W p l e R s m args below meth c Q G nL c0 s0 pc ls st k μ := by
  obtain ⟨y, st, rfl, h1⟩ := ma_pI_e h
  obtain ⟨x, st, rfl, h4, hk, h2⟩ := ma_pI_e h1
  intro H locs als vs hH hS hL hR
  obtain ⟨_, vs, rfl, ⟨b, rfl, hb⟩, hR1⟩ := ma_RS_cons hR
  obtain ⟨_, vs, rfl, ⟨a, rfl, ha⟩, hR2⟩ := ma_RS_cons hR1
  have hc8 := ma_catR hR2 h4
  obtain ⟨r1, r2, r3, r4⟩ := hRo
  refine va_mmin C.1 C.2.1 (by rw [hL.2.1]; exact hLn.symm) C.2.2.2.1 (C.2.2.2.2.1 _ (ma_WG_in (ma_mn_in _ (List.mem_map.mpr ⟨_, hq, rfl⟩)) (ma_mn_good _ (List.mem_map.mpr ⟨_, hq, rfl⟩)))) (C.2.2.2.2.1 _ (ma_WG_in (ma_mns_in _ List.mem_cons_self) (ma_mns_good _ List.mem_cons_self))) (C.2.2.2.2.1 _ (ma_WG_in (ma_mns_in _ (List.mem_cons_of_mem _ List.mem_cons_self)) (ma_mns_good _ (List.mem_cons_of_mem _ List.mem_cons_self)))) (C.2.2.2.2.1 _ (ma_WG_in (ma_mnc_in _ List.mem_cons_self) (by decide +kernel))) (by omega) (by omega) (by omega) (by omega) hd (hK _ _ _ _ h2 H locs als (_ :: vs) hH hS hL ⟨⟨_, rfl, ?_⟩, hR2⟩)
  simp only [Int32.lt_iff_toInt_lt, ha, hb]
  split <;> assumption
theorem ma_s_acopy {i : Nat} {n dp sp : Int} {b a : Nat} {rb ra : Int} (hq : (o, i) ∈ ma_cp) (hRo : ma_Ro R E c0 s0) (hLn : nL = c.maxLocals) (C : ma_Cx p s m args c G cc o nL) (hd : decode cc pc = .ok (.invokestatic i, 3)) (hK : ∀ ls st k μ, K ls st k μ → ma_W p l e R s m args below meth c Q G nL c0 s0 (pc + 3) ls st k μ)
    (h4 : st.length ≤ 4) (hca : (ma_ck a).1 = 0) (hcb : (ma_ck b).1 = 0) (hab : a ≠ b) (hn : 0 ≤ n) (hsp : 0 ≤ sp) (hdp : 0 ≤ dp) (hsn : sp + n ≤ (ma_ck a).2.1) (hdn : dp + n ≤ (ma_ck b).2.1) (h : K ls st k (ma_cpy μ a ra sp b rb dp n)) :
    ma_W p l e R s m args below meth c Q G nL c0 s0 pc ls (ma_I n :: ma_I dp :: ma_Rf b rb :: ma_I sp :: ma_Rf a ra :: st) k μ := by
  intro H locs als vs hH hS hL hR
  obtain ⟨_, vs, rfl, ⟨xn, rfl, hxn⟩, hR1⟩ := ma_RS_cons hR
  obtain ⟨_, vs, rfl, ⟨xd, rfl, hxd⟩, hR2⟩ := ma_RS_cons hR1
  obtain ⟨_, vs, rfl, ⟨rfl, hvb⟩, hR3⟩ := ma_RS_cons hR2
  obtain ⟨_, vs, rfl, ⟨xs, rfl, hxs⟩, hR4⟩ := ma_RS_cons hR3
  obtain ⟨_, vs, rfl, ⟨rfl, hva⟩, hR5⟩ := ma_RS_cons hR4
  have hvb : ma_val G b rb := hvb
  have hva : ma_val G a ra := hva
  have hc8 := ma_catR hR5 h4
  obtain ⟨r1, r2, r3, r4⟩ := hRo
  obtain ⟨ea, -, ca⟩ := ma_arr C hH hva (by omega)
  obtain ⟨eb, -, cb⟩ := ma_arr C hH hvb (by omega)
  rw [hca] at ea ca
  rw [hcb] at eb cb
  have nn : ∀ (z : Int32) (v : Int), z.toInt = v → 0 ≤ v → ¬ z < 0 ∧ (z.toNatClampNeg : Int) = v ∧ z.toNatClampNeg = v.toNat := by
    intro z v hz h0
    refine ⟨fun hl => ?_, ?_, ?_⟩
    · rw [Int32.lt_iff_toInt_lt, hz] at hl
      have : (0 : Int32).toInt = 0 := rfl
      omega
    · show ((z.toInt.toNat : Nat) : Int) = v
      omega
    · show z.toInt.toNat = v.toNat
      rw [hz]
  obtain ⟨n1, n2, n3⟩ := nn _ _ hxn hn
  obtain ⟨d1, d2, d3⟩ := nn _ _ hxd hdp
  obtain ⟨s1, s2, s3⟩ := nn _ _ hxs hsp
  have hnf : nativeFrameWords "java/lang/System" "arraycopy" 5 ≤ 100 := by decide +kernel
  have hT0 : ArrOfT s (G.dA 0) .int := C.2.2.2.2.2.1.1 0 (by omega)
  intro T hT X
  obtain ⟨-, k0, hk0, cm0, hkk0⟩ := hT0 (ma_ck a).2.1 (fun j => ma_cv 0 (μ a ra j))
  obtain ⟨-, k1, hk1, cm1, hkk1⟩ := hT0 (ma_ck b).2.1 (fun j => ma_cv 0 (μ b rb j))
  obtain ⟨vm', X', step⟩ := X.arraycopy C.1 C.2.2.2.1 (C.2.2.2.2.1 _ (ma_WG_in (ma_cp_in _ (List.mem_map.mpr ⟨_, hq, rfl⟩)) (ma_cp_good _ (List.mem_map.mpr ⟨_, hq, rfl⟩)))) (C.2.2.2.2.1 _ (ma_WG_in (ma_ac_in _ List.mem_cons_self) (ma_ac_good _ List.mem_cons_self))) (C.2.2.2.2.1 _ (ma_WG_in (ma_ac_in _ (List.mem_cons_of_mem _ List.mem_cons_self)) (ma_ac_good _ (List.mem_cons_of_mem _ List.mem_cons_self)))) (C.2.2.2.2.1 _ (ma_WG_in (ma_ac_in _ (List.mem_cons_of_mem _ (List.mem_cons_of_mem _ List.mem_cons_self))) (ma_ac_good _ (List.mem_cons_of_mem _ (List.mem_cons_of_mem _ List.mem_cons_self)))))
    (src := G.ad a ra) (dst := G.ad b rb) (cs := arrV (G.dA 0) (ma_ck a).2.1 (fun j => ma_cv 0 (μ a ra j))) (cd := arrV (G.dA 0) (ma_ck b).2.1 (fun j => ma_cv 0 (μ b rb j))) (srcPos := xs) (destPos := xd) (n := xn) (by rw [hT]; exact ea) (by rw [hT]; exact eb)
    (fun _ h => by cases h) (fun _ h => by cases h) (fun h => by cases h) (fun h => by cases h) hk0 hk1 hkk0 hkk1 (by rfl) s1 d1 n1
    (by rw [hxs, hxn, arrV_size]; omega)
    (by rw [hxd, hxn, arrV_size]; omega)
    (fun vm₁ _ i hi => by
      have e : (arrV (G.dA 0) (ma_ck a).2.1 (fun j => ma_cv 0 (μ a ra j))).slots.getD (xs.toNatClampNeg + i) .null = .int (Int32.ofInt (μ a ra ((xs.toNatClampNeg + i : Nat) : Int))) := by
        rw [Array.getD_eq_getD_getElem?, arrV_read _ _ (by omega)]
        rfl
      refine ⟨?_, ?_⟩
      · rw [e]
        rfl
      · rw [e]
        exact trivial)
    (g := F0 m pc als (.int xn :: .int xd :: .ref (G.ad b rb) :: .int xs :: .ref (G.ad a ra) :: vs)) rfl (by rw [← hLn]; exact hL.2.1) (rest := vs) rfl (by rw [C.2.1]; exact hd) (by omega) (by show 2 * 0 + _ + (nativeFrameWords "java/lang/System" "arraycopy" 5 + 11) ≤ _; omega)
  have e1 : copied (arrV (G.dA 0) (ma_ck a).2.1 (fun j => ma_cv 0 (μ a ra j))) (arrV (G.dA 0) (ma_ck b).2.1 (fun j => ma_cv 0 (μ b rb j))) xs xd xn = arrV (G.dA 0) (ma_ck b).2.1 (fun j => ma_cv 0 (ma_cpy μ a ra sp b rb dp n b rb j)) := by
    have := va_copied (fun z => Value.int (Int32.ofInt z)) (G.dA 0) (G.dA 0) (n0 := (ma_ck a).2.1) (n1 := (ma_ck b).2.1) (sp := xs.toNatClampNeg) (dp := xd.toNatClampNeg) (n := xn.toNatClampNeg) (fun j : Nat => μ a ra j) (fun j : Nat => μ b rb j) (by omega)
    refine this.trans ?_
    congr 1
    funext j
    show Value.int (Int32.ofInt (va_cpy (fun j : Nat => μ a ra j) (fun j : Nat => μ b rb j) _ _ _ j)) = Value.int (Int32.ofInt (ma_cpy μ a ra sp b rb dp n b rb j))
    congr 2
    simp only [va_cpy, ma_cpy, true_and]
    by_cases hz : xd.toNatClampNeg ≤ j ∧ j < xd.toNatClampNeg + xn.toNatClampNeg
    · rw [if_pos hz, if_pos (by omega)]
      congr 1
      omega
    · rw [if_neg hz, if_neg (by omega)]
  rw [e1] at X' step
  have hl : G.ad b rb < H.size := (Array.getElem?_eq_some_iff.mp eb).1
  have hheap : ∀ cell : Cell, ((T.setVm vm').setCell (G.ad b rb) cell).heap = H.setIfInBounds (G.ad b rb) cell := fun cell => by rw [← hT]; rfl
  have oq : ∀ (cell : Cell) (q : Nat), q ≠ G.ad b rb → (H.setIfInBounds (G.ad b rb) cell)[q]? = H[q]? := fun cell q hq => by simp [Array.getElem?_setIfInBounds, Ne.symm hq]
  have hA := C.2.2.2.2.2.2.1
  have hAb : ma_A G (G.ad b rb) := hA.2.1 b rb hvb (ma_ge2 (Or.inl (by omega)))
  have hcpy : ∀ (k' : Nat) (r' i' : Int), ¬ (k' = b ∧ r' = rb) → ma_cpy μ a ra sp b rb dp n k' r' i' = μ k' r' i' := fun k' r' i' z => by
    unfold ma_cpy
    rw [if_neg (fun w => z ⟨w.1, w.2.1⟩)]
  have hH1 : ma_HR G s (ma_cpy μ a ra sp b rb dp n) (H.setIfInBounds (G.ad b rb) (arrV (G.dA 0) (ma_ck b).2.1 (fun j => ma_cv 0 (ma_cpy μ a ra sp b rb dp n b rb j)))) := by
    refine hH.keep hA hvb rfl (oq _) hcpy ⟨fun _ => ⟨?_, fun j h0 h1 => ?_⟩, fun ci hc => by omega⟩ (Or.inl (by omega))
    · rw [hcb]
      simp [Array.getElem?_setIfInBounds, hl]
    · rw [hcb]
      unfold ma_cpy
      by_cases hz : b = b ∧ rb = rb ∧ dp ≤ j ∧ j < dp + n
      · rw [if_pos hz]
        exact ca _ (by omega) (by omega)
      · rw [if_neg hz]
        exact cb j h0 h1
  obtain ⟨t, a1, b1⟩ := hK _ _ _ _ h _ _ als vs hH1 (⟨by simp; exact hS.1, fun q g1 g2 => by
      rw [oq _ q (fun e => g2 (by rw [e]; exact hAb))]
      exact hS.2.1 q g1 g2, fun q hq => by
      rcases List.mem_append.mp hq with h | h
      · exact hS.2.2 q h
      · obtain ⟨z, -, hz⟩ := List.mem_map.mp h
        rw [← hz]
        exact hAb⟩ : va_S (ma_A G) s.heap _ _) hL hR5 _ (hheap _) X'
  exact ⟨t, step t a1, b1⟩
end LIB
end
section
/-! calls; contracts -/
def ma_Bw (G : ma_G) (u : ma_M) (t : State) : Prop := ma_HR G t u t.heap
/-- the number of a thrown class, and the memory there -/
def ma_XC (G : ma_G) (w : Nat) (Post : ma_R → ma_M → Prop) : String → State → State → Prop := vx_X (S := Nat × ma_M) (fun u => 0 < w ∧ Post (.inr u.1) u.2) (fun E u t => E = ma_ex u.1 ∧ u.1 < 5 ∧ ma_Bw G u.2 t) (ma_A G)
def ma_Qc (G : ma_G) (n : Nat) (Post : ma_R → ma_M → Prop) : Array Value → State → Outcome → State → Prop := match n with
  | 0 => va_Qv (fun u => Post (.inl none) u) (ma_Bw G) (ma_A G)
  | 4 => va_Ql (fun r u => Post (.inl (some (ma_L r.toInt))) u) (ma_Bw G) (ma_A G)
  | 5 => va_Qf (fun r u => Post (.inl (some (ma_F r))) u) (ma_Bw G) (ma_A G)
  | 6 => va_Qd (fun r u => Post (.inl (some (ma_D r))) u) (ma_Bw G) (ma_A G)
  | _ => va_Qi (fun r u => Post (.inl (some (ma_I r.toInt))) u) (ma_Bw G) (ma_A G)
def ma_rm (d w : Nat) : Room := { frames := d + 10, cells := w, slots := 6 * w, locals := 43 * d + 200 }
def ma_Pc (G : ma_G) (as : List ma_V) (μ : ma_M) : Array Value → State → Prop := fun v U => (∃ vl : List Value, v = vl.toArray ∧ ma_RS G as vl) ∧ ma_HR G U μ U.heap ∧ ma_KX G U
/-- a method's contract at these arguments and this memory -/
def ma_Ct (l : Launch) (G : ma_G) (d y : Nat) (as : List ma_V) (μ : ma_M) (Post : ma_R → ma_M → Prop) : Prop := vx_Met l (ma_y y) (ma_cw y :: ma_WG) (ma_rm d (ma_wc y)) (ma_Pc G as μ) (ma_Qc G (ma_rk y) Post) (ma_XC G (ma_wc y) Post) (ma_wc y) (6 * ma_wc y) (ma_A G)
theorem ma_blind (G : ma_G) (as : List ma_V) (μ : ma_M) : FrameBlind (ma_Pc G as μ) := fun _ _ _ _ h => ⟨h.1, h.2.1.moved (Vm.Alike.refl _), h.2.2.blind⟩
theorem ma_WGgood : ∀ w ∈ ma_WG, goodWord w = true := fun _ h => (List.mem_filter.mp h).2
theorem ma_goodIn {y : Nat} (hy : y < ma_nM) : GoodIn ma_WG (ma_cw y :: ma_WG) := goodIn_sub (fun w h => (List.mem_cons.mp h).elim (fun e => by rw [e]; exact ma_cw_ok y hy) id) (List.all_eq_true.mpr fun w h => (List.mem_cons.mp h).elim (fun e => by rw [e]; exact ma_WGgood _ (ma_cw_ok y hy)) (ma_WGgood w))
/-- the handlers of a body -/
def ma_hX (p : Program) (l : Launch) (e : Env) (R : Room) (s : State) (m : MethodId) (args : Array Value) (below : List Frame) (meth : Method) (c : Code) (Q : State → Prop) (E : ma_E) : Prop := ∀ (pc e9 h9 : Nat), ma_catch E.2.1 pc e9 = some h9 → e9 < 5 → ∀ (H : Heap) (locs : List Loc) (cells slots : Nat) (ls : Array Slot) (rest : List Value) (q : Addr) (ce : Cell), H[q]? = some ce → ce.vm = .none → s.vm.findClass (ma_ex e9) = some ce.cls →
  W p l e R s m args below meth c H locs cells slots Q (F0 m h9 ls [.ref q]) → vx_W p l e R s m args below meth c H locs cells slots Q (F0 m pc ls rest) q
/-- the ends of a body -/
def ma_hE (p : Program) (l : Launch) (e : Env) (R : Room) (s : State) (m : MethodId) (args : Array Value) (below : List Frame) (meth : Method) (c : Code) (Q : State → Prop) (G : ma_G) (cc : ByteArray) (o nL c0 s0 : Nat) (E : ma_E) (D : ma_Dn) : Prop := ∀ (k : Nat) (μ : ma_M) (H : Heap) (locs : List Loc), ma_HR G s μ H → va_S (ma_A G) s.heap H locs →
  (∀ (pc e9 : Nat) (ls : Array Slot) (rest : List Value) (q : Addr) (ce : Cell), ma_catch E.2.1 pc e9 = none → D (.inr e9) k μ → e9 < 5 → k ≤ E.2.2.2 → H[q]? = some ce → ce.vm = .none → s.vm.findClass (ma_ex e9) = some ce.cls → vx_W p l e R s m args below meth c H locs (c0 + k) (s0 + 6 * k) Q (F0 m pc ls rest) q) ∧
  (∀ (pc e9 t9 : Nat) (ls : Array Slot), o = 10 → ls.size = nL → ma_thr[t9]? = some (10, (ma_thr.getD t9 (0, 0, 0, 0)).2.1, (ma_thr.getD t9 (0, 0, 0, 0)).2.2.1, e9) → decode cc pc = .ok (.new (ma_thr.getD t9 (0, 0, 0, 0)).2.1, 3) → decode cc (pc + 3) = .ok (.dup, 1) → decode cc (pc + 4) = .ok (.invokespecial (ma_thr.getD t9 (0, 0, 0, 0)).2.2.1, 3) → decode cc (pc + 7) = .ok (.athrow, 1) → E.2.1 = [] → k + 1 ≤ E.2.2.2 → D (.inr e9) (k + 1) μ → W p l e R s m args below meth c H locs (c0 + k) (s0 + 6 * k) Q (F0 m pc ls [])) ∧
  (∀ (pc : Nat) (x : Int32) (ls : Array Slot), decode cc pc = .ok (.ireturn, 1) → ma_resI E.2.2.1 x.toInt → D (.inl (some (ma_I x.toInt))) k μ → W p l e R s m args below meth c H locs (c0 + k) (s0 + 6 * k) Q (F0 m pc ls [.int x])) ∧
  (∀ (pc : Nat) (x : Int64) (ls : Array Slot), decode cc pc = .ok (.lreturn, 1) → E.2.2.1 = 4 → D (.inl (some (ma_L x.toInt))) k μ → W p l e R s m args below meth c H locs (c0 + k) (s0 + 6 * k) Q (F0 m pc ls [.long x])) ∧
  (∀ (pc : Nat) (x : UInt32) (ls : Array Slot), decode cc pc = .ok (.freturn, 1) → E.2.2.1 = 5 → D (.inl (some (ma_F x))) k μ → W p l e R s m args below meth c H locs (c0 + k) (s0 + 6 * k) Q (F0 m pc ls [.float x])) ∧
  (∀ (pc : Nat) (x : UInt64) (ls : Array Slot), decode cc pc = .ok (.dreturn, 1) → E.2.2.1 = 6 → D (.inl (some (ma_D x))) k μ → W p l e R s m args below meth c H locs (c0 + k) (s0 + 6 * k) Q (F0 m pc ls [.double x])) ∧
  (∀ (pc : Nat) (ls : Array Slot), decode cc pc = .ok (.return_, 1) → E.2.2.1 = 0 → D (.inl none) k μ → W p l e R s m args below meth c H locs (c0 + k) (s0 + 6 * k) Q (F0 m pc ls []))
section CAL
variable {p : Program} {l : Launch} {e : Env} {R : Room} {s : State} {m : MethodId} {args : Array Value} {below : List Frame} {meth : Method} {c : Code} {Q : State → Prop} {G : ma_G} {cc : ByteArray} {o nL c0 s0 pc k pp : Nat} {qq : Int} {ls st : List ma_V} {μ : ma_M} {O : ma_O} {E : ma_E} {K : ma_K} {J : ma_J} {D : ma_Dn}
variable {d y w : Nat} {as rest : List ma_V} {H : Heap} {locs : List Loc} {als : Array Slot} {vs st0 : List Value} {Post : ma_R → ma_M → Prop} {a : Array Value}
/-- behind a call -/
theorem ma_after {n : Nat} (hr : vx_Run p l e R s m args below meth c H locs (c0 + k) (s0 + 6 * k) w (6 * w) (F0 m pc als st0) vs (ma_Qc G n (ma_cont E pc ls rest (k + w) K J D) a) (ma_XC G w (ma_cont E pc ls rest (k + w) K J D)) (ma_A G)) (hw : k + w ≤ E.2.2.2)
    (hX : ma_hX p l e R s m args below meth c Q E) (hE : ma_hE p l e R s m args below meth c Q G cc o nL c0 s0 E D) (hL : ma_RL G nL ls als) (hR : ma_RS G rest vs) (hS : va_S (ma_A G) s.heap H locs)
    (hK : ∀ ls st k μ, K ls st k μ → ma_W p l e R s m args below meth c Q G nL c0 s0 (pc + 3) ls st k μ) (hJ : ∀ pc' ls st k μ, J pc' ls st k μ → ma_W p l e R s m args below meth c Q G nL c0 s0 pc' ls st k μ) : W p l e R s m args below meth c H locs (c0 + k) (s0 + 6 * k) Q (F0 m pc als st0) := by
  have ec : c0 + k + w = c0 + (k + w) := Nat.add_assoc _ _ _
  have es : s0 + 6 * k + 6 * w = s0 + 6 * (k + w) := by omega
  have back : ∀ (u : ma_M) (t : State) (H1 : Heap), t.heap = H1 → s.vm.Alike t.vm → ma_Bw G u t → ma_HR G s u H1 := fun u t H1 h1 h2 h3 => by
    rw [← h1]; exact ma_HR.moved h2.symm h3
  have kx : ∀ (E9 : String) (ce : Cell) (q9 : Addr) (u : Nat × ma_M) (t : State) (H1 : Heap) (locs1 : List Loc), t.heap = H1 → s.vm.Alike t.vm → (0 < w ∧ ma_cont E pc ls rest (k + w) K J D (.inr u.1) u.2) → (E9 = ma_ex u.1 ∧ u.1 < 5 ∧ ma_Bw G u.2 t) → H.size ≤ H1.size → (∀ q : Nat, q < H.size → ¬ ma_A G q → H1[q]? = H[q]?) → va_S (ma_A G) s.heap H1 locs1 → H1[q9]? = some ce → ce.vm = .none → s.vm.findClass E9 = some ce.cls → vx_W p l e R s m args below meth c H1 locs1 (c0 + k + w) (s0 + 6 * k + 6 * w) Q (F0 m pc als vs) q9 := by
    intro E9 ce q9 u t H1 locs1 h1 h2 h3 h4 _ _ h5 h6 h7 h8
    obtain ⟨rfl, h9, h10⟩ := h4
    rw [ec, es]
    have hH1 := back _ _ _ h1 h2 h10
    have h3 : (match ma_catch E.2.1 pc u.1 with | some h => J h ls [ma_X u.1] (k + w) u.2 | none => D (.inr u.1) (k + w) u.2) := h3.2
    cases hc : ma_catch E.2.1 pc u.1 with
    | none =>
      rw [hc] at h3
      exact (hE _ _ _ _ hH1 h5).1 pc u.1 als vs q9 ce hc h3 h9 hw h6 h7 h8
    | some h =>
      rw [hc] at h3
      exact hX pc u.1 h hc h9 _ _ _ _ _ _ _ _ h6 h7 h8 (hJ _ _ _ _ _ h3 H1 locs1 als _ hH1 h5 hL ⟨⟨q9, rfl⟩, trivial⟩)
  have kv : ∀ (v : ma_V) (w9 : Value) (u : ma_M) (t : State) (H1 : Heap) (locs1 : List Loc), t.heap = H1 → s.vm.Alike t.vm → K ls (v :: rest) (k + w) u → ma_Bw G u t → va_S (ma_A G) s.heap H1 locs1 → ma_Rv G v w9 → W p l e R s m args below meth c H1 locs1 (c0 + k + w) (s0 + 6 * k + 6 * w) Q (F0 m (pc + 3) als (w9 :: vs)) := by
    intro v w9 u t H1 locs1 h1 h2 h3 h4 h5 h6
    rw [ec, es]
    exact hK _ _ _ _ h3 H1 locs1 als _ (back _ _ _ h1 h2 h4) h5 hL ⟨h6, hR⟩
  match n, hr with
  | 0, hr => exact vx_callv (a := a) hr hS (fun _ _ h => h) (fun _ h => h) (fun _ _ h => h) kx (fun u t H1 locs1 h1 h2 h3 h4 _ _ h5 => by
      rw [ec, es]
      exact hK _ _ _ _ h3 H1 locs1 als _ (back _ _ _ h1 h2 h4) h5 hL hR)
  | 4, hr => exact vx_calll (a := a) hr hS (fun _ _ h => h) (fun _ h => h) (fun _ _ h => h) kx (fun r u t H1 locs1 h1 h2 h3 h4 _ _ h5 => kv (ma_L r.toInt) _ u t H1 locs1 h1 h2 h3 h4 h5 ⟨r, rfl, rfl⟩)
  | 5, hr => exact vx_callf (a := a) hr hS (fun _ _ h => h) (fun _ h => h) (fun _ _ h => h) kx (fun r u t H1 locs1 h1 h2 h3 h4 _ _ h5 => kv (ma_F r) _ u t H1 locs1 h1 h2 h3 h4 h5 rfl)
  | 6, hr => exact vx_calld (a := a) hr hS (fun _ _ h => h) (fun _ h => h) (fun _ _ h => h) kx (fun r u t H1 locs1 h1 h2 h3 h4 _ _ h5 => kv (ma_D r) _ u t H1 locs1 h1 h2 h3 h4 h5 rfl)
  | 1, hr => exact vx_calli (a := a) hr hS (fun _ _ h => h) (fun _ h => h) (fun _ _ h => h) kx (fun r u t H1 locs1 h1 h2 h3 h4 _ _ h5 => kv (ma_I r.toInt) _ u t H1 locs1 h1 h2 h3 h4 h5 ⟨r, rfl, rfl⟩)
  | 2, hr => exact vx_calli (a := a) hr hS (fun _ _ h => h) (fun _ h => h) (fun _ _ h => h) kx (fun r u t H1 locs1 h1 h2 h3 h4 _ _ h5 => kv (ma_I r.toInt) _ u t H1 locs1 h1 h2 h3 h4 h5 ⟨r, rfl, rfl⟩)
  | 3, hr => exact vx_calli (a := a) hr hS (fun _ _ h => h) (fun _ h => h) (fun _ _ h => h) kx (fun r u t H1 locs1 h1 h2 h3 h4 _ _ h5 => kv (ma_I r.toInt) _ u t H1 locs1 h1 h2 h3 h4 h5 ⟨r, rfl, rfl⟩)
  | n + 7, hr => exact vx_calli (a := a) hr hS (fun _ _ h => h) (fun _ h => h) (fun _ _ h => h) kx (fun r u t H1 locs1 h1 h2 h3 h4 _ _ h5 => kv (ma_I r.toInt) _ u t H1 locs1 h1 h2 h3 h4 h5 ⟨r, rfl, rfl⟩)
theorem ma_pop_e : ∀ (n : Nat) (st acc as rest : List ma_V), ma_pop n st acc = some (as, rest) → ∃ bs, bs.length = n ∧ st = bs ++ rest ∧ as = bs.reverse ++ acc
  | 0, st, acc, as, rest, h => by
    cases h
    exact ⟨[], rfl, rfl, rfl⟩
  | n + 1, [], acc, as, rest, h => by cases h
  | n + 1, v :: st, acc, as, rest, h => by
    obtain ⟨bs, h1, h2, h3⟩ := ma_pop_e n st (v :: acc) as rest h
    exact ⟨v :: bs, by rw [List.length_cons, h1], by rw [h2]; rfl, by rw [h3, List.reverse_cons, List.append_assoc]; rfl⟩
theorem ma_roomC (hR : d + 11 ≤ R.frames ∧ 43 * (d + 1) + 200 ≤ R.locals) (hn : ma_nL y ≤ 24) : (ma_rm d w).frames + 1 ≤ R.frames ∧ 8 + (ma_nL y + 11) + (ma_rm d w).locals ≤ R.locals := by
  obtain ⟨h1, h2⟩ := hR
  refine ⟨?_, ?_⟩
  · show d + 10 + 1 ≤ _
    omega
  · show 8 + (ma_nL y + 11) + (43 * d + 200) ≤ _
    omega
/-- a virtual call -/
theorem ma_s_virt {i : Nat} {q : Nat} {a0 : Nat} {r0 : Int} (C : ma_Cx p s m args c G cc o nL) (hLn : nL = c.maxLocals) (hq : (o, i, y) ∈ ma_ml ∧ y < ma_nM ∧ ma_stat y = false ∧ (ma_hc y).isEmpty = true ∧ q < 11 ∧ (ma_y y).cls = ma_C q) (hd : decode cc pc = .ok (.invokevirtual i, 3))
    (hR : d + 11 ≤ R.frames ∧ 43 * (d + 1) + 200 ≤ R.locals) (hRo : ma_Ro R E c0 s0) (hO : ∀ y as μ Post, O y as μ Post → ma_Ct l G d y as μ Post)
    (hX : ma_hX p l e R s m args below meth c Q E) (hE : ma_hE p l e R s m args below meth c Q G cc o nL c0 s0 E D) (hK : ∀ ls st k μ, K ls st k μ → ma_W p l e R s m args below meth c Q G nL c0 s0 (pc + 3) ls st k μ) (hJ : ∀ pc' ls st k μ, J pc' ls st k μ → ma_W p l e R s m args below meth c Q G nL c0 s0 pc' ls st k μ)
    (hp : ma_pop (ma_na y) st [] = some (as, ma_Rf a0 r0 :: rest)) (hc : (ma_ck a0).1 = 10 + q) (h : ma_call O E pc ls y (ma_Rf a0 r0 :: as) rest k μ K J D) : ma_W p l e R s m args below meth c Q G nL c0 s0 pc ls st k μ := by
  obtain ⟨hl, hyn, hst, hhc, hq12, hcl⟩ := hq
  obtain ⟨h4, hw, hcall⟩ := h
  obtain ⟨bs, b1, b2, b3⟩ := ma_pop_e _ _ _ _ _ hp
  rw [List.append_nil] at b3
  subst b2
  intro H locs als vs0 hH hS hL hRS
  obtain ⟨ws, vs1, rfl, hRb, hR1⟩ := ma_RS_app hRS
  obtain ⟨_, vs, rfl, ⟨rfl, hv⟩, hR2⟩ := ma_RS_cons hR1
  have hv : ma_val G a0 r0 := hv
  have hc8 := ma_catR hR2 h4
  obtain ⟨r1, r2, r3, r4⟩ := hRo
  obtain ⟨hplain, hmh, hvh, hpar, hnl⟩ := ma_cls_ok y hyn
  have hcw : ma_cw y = Cond.code (ma_y y) (ma_b y) (ma_nL y) (ma_ret y) := by unfold ma_cw; rw [if_pos hhc]
  have hM := hO _ _ _ _ hcall
  unfold ma_Ct at hM
  rw [hcw] at hM
  have hlink := C.2.2.2.2.1 _ (ma_WG_in (ma_ml_in _ (List.mem_map.mpr ⟨_, hl, rfl⟩)) (ma_ml_good _ (List.mem_map.mpr ⟨_, hl, rfl⟩)))
  have hsw := C.2.2.2.2.1 _ (ma_sw_ok y hyn)
  rw [hst] at hsw
  have hgi := ma_goodIn hyn
  rw [hcw] at hgi
  have cw : CallW R s args (ma_own o) (ma_C q) i (ma_y y) (ma_b y) (ma_nL y) (ma_ret y) (Cond.code (ma_y y) (ma_b y) (ma_nL y) (ma_ret y) :: ma_WG) (ma_rm d (ma_wc y)) (ma_wc y) (6 * ma_wc y) (ma_na y) :=
    ⟨callB_of (ma_na y) C.2.2.2.2.1 hgi rfl rfl rfl (C.2.2.2.2.1 _ (ma_iw_ok y hyn)) hlink ⟨hmh, hvh, hpar⟩ (ma_roomC hR hnl), hsw, by rw [← hcl]; exact C.2.2.2.2.1 _ (ma_vw_ok y hyn hst)⟩
  have hob := ((hH a0 r0 hv).2.2.2 q hc).1
  obtain ⟨cell, q1, q2, q3, -⟩ := hob
  obtain ⟨-, hfc, -⟩ := C.2.2.2.2.2.1.2.2 q hq12
  have hpre : PreV s H (ma_C q) (G.ad a0 r0) (ma_Pc G (ma_Rf a0 r0 :: as) μ) ws.reverse := ⟨ma_blind _ _ _, ⟨cell, q1, by rw [q3]; rfl, by rw [q2]; exact hfc⟩, fun U hU hW => ⟨⟨_, rfl, ⟨rfl, hv⟩, by rw [b3]; exact ma_RS_rev hRb⟩, by rw [hU]; exact hH.moved hW.alike, ma_KX.moved hW (by rw [hU]; exact hS) ⟨C.2.2.2.2.2.1, C.2.2.2.2.2.2.1, C.2.2.2.2.2.2.2.1, C.2.2.2.2.2.2.2.2⟩⟩⟩
  refine ma_after (rest := rest) (vs := vs) (w := ma_wc y) (vx_runV (nL := nL) (Ts := ma_WG) ⟨C.1, C.2.1, hLn.symm, C.2.2.2.1, C.2.2.2.2.1⟩ hM cw hpre rfl (by rw [List.length_reverse, ma_RS_len hRb, b1]) hL.2.1 (by rw [List.reverse_reverse]) (by show 2 * 0 + _ ≤ 8; omega) hd ⟨by omega, by omega⟩) hw hX hE hL hR2 hS hK hJ
/-- a static call -/
theorem ma_s_stat {i : Nat} (C : ma_Cx p s m args c G cc o nL) (hLn : nL = c.maxLocals) (hq : (o, i, y) ∈ ma_ml ∧ y < ma_nM ∧ ma_stat y = true) (hd : decode cc pc = .ok (.invokestatic i, 3))
    (hR : d + 11 ≤ R.frames ∧ 43 * (d + 1) + 200 ≤ R.locals) (hRo : ma_Ro R E c0 s0) (hO : ∀ y as μ Post, O y as μ Post → ma_Ct l G d y as μ Post)
    (hX : ma_hX p l e R s m args below meth c Q E) (hE : ma_hE p l e R s m args below meth c Q G cc o nL c0 s0 E D) (hK : ∀ ls st k μ, K ls st k μ → ma_W p l e R s m args below meth c Q G nL c0 s0 (pc + 3) ls st k μ) (hJ : ∀ pc' ls st k μ, J pc' ls st k μ → ma_W p l e R s m args below meth c Q G nL c0 s0 pc' ls st k μ)
    (hp : ma_pop (ma_na y) st [] = some (as, rest)) (h : ma_call O E pc ls y as rest k μ K J D) : ma_W p l e R s m args below meth c Q G nL c0 s0 pc ls st k μ := by
  obtain ⟨hl, hyn, hst⟩ := hq
  obtain ⟨h4, hw, hcall⟩ := h
  obtain ⟨bs, b1, b2, b3⟩ := ma_pop_e _ _ _ _ _ hp
  rw [List.append_nil] at b3
  subst b2
  intro H locs als vs0 hH hS hL hRS
  obtain ⟨ws, vs, rfl, hRb, hR2⟩ := ma_RS_app hRS
  have hc8 := ma_catR hR2 h4
  obtain ⟨r1, r2, r3, r4⟩ := hRo
  obtain ⟨hplain, hmh, hvh, hpar, hnl⟩ := ma_cls_ok y hyn
  have hM := hO _ _ _ _ hcall
  unfold ma_Ct at hM
  have hlink := C.2.2.2.2.1 _ (ma_WG_in (ma_ml_in _ (List.mem_map.mpr ⟨_, hl, rfl⟩)) (ma_ml_good _ (List.mem_map.mpr ⟨_, hl, rfl⟩)))
  have hsw := C.2.2.2.2.1 _ (ma_sw_ok y hyn)
  rw [hst] at hsw
  have hgi := ma_goodIn hyn
  have hpre : PreS s H (ma_Pc G as μ) ws.reverse := ⟨ma_blind _ _ _, fun U hU hW => ⟨⟨_, rfl, by rw [b3]; exact ma_RS_rev hRb⟩, by rw [hU]; exact hH.moved hW.alike, ma_KX.moved hW (by rw [hU]; exact hS) ⟨C.2.2.2.2.2.1, C.2.2.2.2.2.2.1, C.2.2.2.2.2.2.2.1, C.2.2.2.2.2.2.2.2⟩⟩⟩
  have hini := C.2.2.2.2.1 _ (ma_iw_ok y hyn)
  have hlen : ∀ sig, parseMethodDescriptor (ma_y y).desc = some sig → ma_na y = sig.parameters.length := fun sig hs => by
    rw [hs] at hpar
    exact (Option.some.inj hpar).symm
  by_cases hhc : (ma_hc y).isEmpty = true
  · have hcw : ma_cw y = Cond.code (ma_y y) (ma_b y) (ma_nL y) (ma_ret y) := by unfold ma_cw; rw [if_pos hhc]
    rw [hcw] at hM hgi
    exact ma_after (rest := rest) (vs := vs) (w := ma_wc y) (vx_runS (nL := nL) (Ts := ma_WG) ⟨C.1, C.2.1, hLn.symm, C.2.2.2.1, C.2.2.2.2.1⟩ hM ⟨callB_of (ma_na y) C.2.2.2.2.1 hgi rfl rfl rfl hini hlink ⟨hmh, hvh, hpar⟩ (ma_roomC hR hnl), hsw⟩ hpre rfl (by rw [List.length_reverse, ma_RS_len hRb, b1]) hL.2.1 (by rw [List.reverse_reverse]) (by show 2 * 0 + _ ≤ 8; omega) hd ⟨by omega, by omega⟩) hw hX hE hL hR2 hS hK hJ
  · have hcw : ma_cw y = Cond.codeWith (ma_y y) (ma_b y) (ma_nL y) (ma_ret y) (ma_hc y) := by unfold ma_cw; rw [if_neg hhc]
    have hcb := C.2.2.2.2.1 _ (ma_cw_ok y hyn)
    rw [hcw] at hM hgi hcb
    exact ma_after (rest := rest) (vs := vs) (w := ma_wc y) (vx_runSX (nL := nL) (Ts := ma_WG) (hh := ma_hc y) ⟨C.1, C.2.1, hLn.symm, C.2.2.2.1, C.2.2.2.2.1⟩ hM ⟨⟨rfl, rfl, (ma_roomC (w := ma_wc y) hR hnl).1, (ma_roomC (w := ma_wc y) hR hnl).2, pay_in C.2.2.2.2.1 hgi, List.mem_cons_self⟩, hcb, hini, ⟨hmh, hvh⟩, hlen, hlink, hsw⟩ hpre rfl (by rw [List.length_reverse, ma_RS_len hRb, b1]) hL.2.1 (by rw [List.reverse_reverse]) (by show 2 * 0 + _ ≤ 8; omega) hd ⟨by omega, by omega⟩) hw hX hE hL hR2 hS hK hJ
end CAL
end
section
/-! the throws: their words -/
def ma_sup : List String := ["java/lang/RuntimeException", "java/lang/Exception"]
theorem ma_th0_in : ∀ w ∈ (vx_at0 (ma_own 10) 99 (ma_ex 0) ma_sup).filter goodWord, w ∈ lw_tbl := ma_mem _ [44, 528, 537, 544, 547, 549, 529, 530, 65, 66, 531, 536, 545, 562, 518, 563, 520, 564, 522, 532, 534, 524, 551, 552, 553, 554, 554, 555, 556, 557, 557, 558, 559, 529, 550, 507, 515, 516, 517, 519, 521, 523, 560, 526, 525] (by decide +kernel)
theorem ma_th0_bad : ∀ w ∈ (vx_at0 (ma_own 10) 99 (ma_ex 0) ma_sup).filter (fun w => !goodWord w), w ∈ ma_nests ++ (ma_casts ++ ma_decls) := by decide +kernel
theorem ma_th0_ot : ∀ w ∈ Cond.classLink (ma_own 10) 97 (ma_ex 0) :: Cond.initialized (ma_ex 0) :: (vx_at0 (ma_own 10) 99 (ma_ex 0) ma_sup), vx_ot w = true := List.all_eq_true.mp (by decide +kernel)
theorem ma_th0_ini : Cond.initialized (ma_ex 0) ∈ ma_WG := ma_WG_in (List.mem_of_getElem? (i := 47) (by decide +kernel)) (by decide +kernel)
theorem ma_th1_in : ∀ w ∈ (vx_at0 (ma_own 10) 152 (ma_ex 1) ma_sup).filter goodWord, w ∈ lw_tbl := ma_mem _ [44, 528, 537, 544, 547, 549, 529, 530, 65, 66, 531, 536, 545, 562, 518, 563, 520, 564, 522, 532, 534, 524, 647, 648, 649, 554, 554, 555, 556, 557, 557, 558, 559, 529, 646, 638, 640, 542, 641, 642, 643, 644, 560, 526, 645] (by decide +kernel)
theorem ma_th1_bad : ∀ w ∈ (vx_at0 (ma_own 10) 152 (ma_ex 1) ma_sup).filter (fun w => !goodWord w), w ∈ ma_nests ++ (ma_casts ++ ma_decls) := by decide +kernel
theorem ma_th1_ot : ∀ w ∈ Cond.classLink (ma_own 10) 150 (ma_ex 1) :: Cond.initialized (ma_ex 1) :: (vx_at0 (ma_own 10) 152 (ma_ex 1) ma_sup), vx_ot w = true := List.all_eq_true.mp (by decide +kernel)
theorem ma_th1_ini : Cond.initialized (ma_ex 1) ∈ ma_WG := ma_WG_in (List.mem_of_getElem? (i := 55) (by decide +kernel)) (by decide +kernel)
theorem ma_th2_in : ∀ w ∈ (vx_at0 (ma_own 10) 106 (ma_ex 2) ma_sup).filter goodWord, w ∈ lw_tbl := ma_mem _ [44, 528, 537, 544, 547, 549, 529, 530, 65, 66, 531, 536, 545, 562, 518, 563, 520, 564, 522, 532, 534, 524, 685, 686, 687, 554, 554, 555, 556, 557, 557, 558, 559, 529, 684, 676, 678, 540, 679, 680, 681, 682, 560, 526, 683] (by decide +kernel)
theorem ma_th2_bad : ∀ w ∈ (vx_at0 (ma_own 10) 106 (ma_ex 2) ma_sup).filter (fun w => !goodWord w), w ∈ ma_nests ++ (ma_casts ++ ma_decls) := by decide +kernel
theorem ma_th2_ot : ∀ w ∈ Cond.classLink (ma_own 10) 104 (ma_ex 2) :: Cond.initialized (ma_ex 2) :: (vx_at0 (ma_own 10) 106 (ma_ex 2) ma_sup), vx_ot w = true := List.all_eq_true.mp (by decide +kernel)
theorem ma_th2_ini : Cond.initialized (ma_ex 2) ∈ ma_WG := ma_WG_in (List.mem_of_getElem? (i := 48) (by decide +kernel)) (by decide +kernel)
theorem ma_th3_in : ∀ w ∈ (vx_at0 (ma_own 10) 120 (ma_ex 3) ma_sup).filter goodWord, w ∈ lw_tbl := ma_mem _ [44, 528, 537, 544, 547, 549, 529, 530, 65, 66, 531, 536, 545, 562, 518, 563, 520, 564, 522, 532, 534, 524, 957, 958, 959, 554, 554, 555, 556, 557, 557, 558, 559, 529, 956, 948, 950, 541, 951, 952, 953, 954, 560, 526, 955] (by decide +kernel)
theorem ma_th3_bad : ∀ w ∈ (vx_at0 (ma_own 10) 120 (ma_ex 3) ma_sup).filter (fun w => !goodWord w), w ∈ ma_nests ++ (ma_casts ++ ma_decls) := by decide +kernel
theorem ma_th3_ot : ∀ w ∈ Cond.classLink (ma_own 10) 118 (ma_ex 3) :: Cond.initialized (ma_ex 3) :: (vx_at0 (ma_own 10) 120 (ma_ex 3) ma_sup), vx_ot w = true := List.all_eq_true.mp (by decide +kernel)
theorem ma_th3_ini : Cond.initialized (ma_ex 3) ∈ ma_WG := ma_WG_in (List.mem_of_getElem? (i := 49) (by decide +kernel)) (by decide +kernel)
theorem ma_th4_in : ∀ w ∈ (vx_at0 (ma_own 10) 177 (ma_ex 4) ma_sup).filter goodWord, w ∈ lw_tbl := ma_mem _ [44, 528, 537, 544, 547, 549, 529, 530, 65, 66, 531, 536, 545, 562, 518, 563, 520, 564, 522, 532, 534, 524, 975, 976, 977, 554, 554, 555, 556, 557, 557, 558, 559, 529, 974, 966, 968, 543, 969, 970, 971, 972, 560, 526, 973] (by decide +kernel)
theorem ma_th4_bad : ∀ w ∈ (vx_at0 (ma_own 10) 177 (ma_ex 4) ma_sup).filter (fun w => !goodWord w), w ∈ ma_nests ++ (ma_casts ++ ma_decls) := by decide +kernel
theorem ma_th4_ot : ∀ w ∈ Cond.classLink (ma_own 10) 175 (ma_ex 4) :: Cond.initialized (ma_ex 4) :: (vx_at0 (ma_own 10) 177 (ma_ex 4) ma_sup), vx_ot w = true := List.all_eq_true.mp (by decide +kernel)
theorem ma_th4_ini : Cond.initialized (ma_ex 4) ∈ ma_WG := ma_WG_in (List.mem_of_getElem? (i := 58) (by decide +kernel)) (by decide +kernel)
end
section
/-! what an instruction of a block must say, decided by a program; then every instruction of the small machine is true to the JVM -/
def ma_okl (o pc len : Nat) (ins : Instr) (p : Nat) (q : Int) : Bool := match ins with
  | .iload_n i => decide (len = 1)
  | .lload_n i => decide (len = 1)
  | .aload_n i => decide (len = 1)
  | .dload_n i => decide (len = 1)
  | .istore_n i => decide (len = 1)
  | .lstore_n i => decide (len = 1)
  | .dstore_n i => decide (len = 1)
  | .astore_n i => decide (len = 1)
  | .iload i => decide (len = 2)
  | .lload i => decide (len = 2)
  | .aload i => decide (len = 2)
  | .dload i => decide (len = 2)
  | .istore i => decide (len = 2)
  | .lstore i => decide (len = 2)
  | .dstore i => decide (len = 2)
  | .astore i => decide (len = 2)
  | .fload i => decide (len = 2)
  | .fstore i => decide (len = 2)
  | .iconst n => decide (len = 1) && decide ((Int32.ofInt n).toInt = q)
  | .bipush n => decide (len = 2) && decide ((Int8.ofInt n).toInt32.toInt = q)
  | .sipush n => decide (len = 3) && decide ((Int16.ofInt n).toInt32.toInt = q)
  | .lconst n => decide (len = 1) && decide ((Int64.ofNat n.val).toInt = q)
  | .dconst n => decide (len = 1)
  | .fconst n => decide (len = 1)
  | .ldc i => decide (len = 2) && decide ((p = 0 ∧ (o, i, q) ∈ ma_kI ∧ (-2147483648 ≤ q ∧ q < 2147483648)) ∨ (p ≠ 0 ∧ (o, i, q) ∈ ma_kF))
  | .ldc_w i => decide (len = 3) && decide ((p = 0 ∧ (o, i, q) ∈ ma_kI ∧ (-2147483648 ≤ q ∧ q < 2147483648)) ∨ (p ≠ 0 ∧ (o, i, q) ∈ ma_kF))
  | .ldc2_w i => decide (len = 3) && decide ((p = 0 ∧ (o, i, q) ∈ ma_kL ∧ -9223372036854775808 ≤ q ∧ q < 9223372036854775808) ∨ (p ≠ 0 ∧ (o, i, q) ∈ ma_kD))
  | .iadd => decide (len = 1)
  | .isub => decide (len = 1)
  | .imul => decide (len = 1)
  | .idiv => decide (len = 1)
  | .irem => decide (len = 1)
  | .iand => decide (len = 1)
  | .ior => decide (len = 1)
  | .ixor => decide (len = 1)
  | .ishl => decide (len = 1)
  | .ishr => decide (len = 1)
  | .iushr => decide (len = 1)
  | .ladd => decide (len = 1)
  | .lsub => decide (len = 1)
  | .lmul => decide (len = 1)
  | .ldiv => decide (len = 1)
  | .lrem => decide (len = 1)
  | .land => decide (len = 1)
  | .lor => decide (len = 1)
  | .lshl => decide (len = 1)
  | .lshr => decide (len = 1)
  | .lushr => decide (len = 1)
  | .i2l => decide (len = 1)
  | .l2i => decide (len = 1)
  | .i2c => decide (len = 1)
  | .i2d => decide (len = 1)
  | .i2f => decide (len = 1)
  | .f2d => decide (len = 1)
  | .ddiv => decide (len = 1)
  | .fdiv => decide (len = 1)
  | .lcmp => decide (len = 1)
  | .dup => decide (len = 1)
  | .pop => decide (len = 1)
  | .dup_x1 => decide (len = 1)
  | .dup2 => decide (len = 1)
  | .laload => decide (len = 1)
  | .baload => decide (len = 1)
  | .caload => decide (len = 1)
  | .daload => decide (len = 1)
  | .aaload => decide (len = 1)
  | .iastore => decide (len = 1)
  | .lastore => decide (len = 1)
  | .bastore => decide (len = 1)
  | .castore => decide (len = 1)
  | .dastore => decide (len = 1)
  | .iaload => decide (len = 1)
  | .arraylength => decide (len = 1)
  | .dcmp op => decide (len = 1)
  | .fcmp op => decide (len = 1)
  | .iinc i n9 => decide (len = 3)
  | .goto off => decide (len = 3) && decide (0 ≤ (pc : Int) + off)
  | .ifCond cd off => decide (len = 3) && decide (0 ≤ (pc : Int) + off)
  | .if_icmp cd off => decide (len = 3) && decide (0 ≤ (pc : Int) + off)
  | .tableswitch d lo hi offs => decide (0 ≤ (pc : Int) + d ∧ ∀ off ∈ offs, 0 ≤ (pc : Int) + off)
  | .getfield i => decide (len = 3) && decide ((o, i, p, q.toNat) ∈ ma_fl ∧ 0 ≤ q ∧ p < 11 ∧ q.toNat < ma_N p)
  | .putfield i => decide (len = 3) && decide ((o, i, p, q.toNat) ∈ ma_fl ∧ 0 ≤ q ∧ p < 11 ∧ q.toNat < ma_N p ∧ (ma_T p q.toNat).2.2.2 = false)
  | .getstatic i => decide (len = 3) && decide ((o, i) ∈ ma_sl)
  | .invokevirtual i => decide (len = 3) && decide ((o, i, p) ∈ ma_ml ∧ p < ma_nM ∧ ma_stat p = false ∧ (ma_hc p).isEmpty = true ∧ q.toNat < 11 ∧ (ma_y p).cls = ma_C q.toNat)
  | .invokestatic i => decide (len = 3) && decide ((p = 10002 ∧ (o, i) ∈ ma_mx) ∨ (p = 10003 ∧ (o, i) ∈ ma_mn) ∨ (p = 10004 ∧ (o, i) ∈ ma_md) ∨ (p = 10000 ∧ (o, i) ∈ ma_cp) ∨ ((o, i, p) ∈ ma_ml ∧ p < ma_nM ∧ ma_stat p = true) ∨ ((o, i, p) ∈ ma_mN ∧ p < ma_nM ∧ ma_stat p = true ∧ ma_wc p = 0 ∧ ma_rk p = 2 ∧ (ma_hc p).isEmpty = true))
  | .ireturn => decide (len = 1)
  | .lreturn => decide (len = 1)
  | .freturn => decide (len = 1)
  | .dreturn => decide (len = 1)
  | .return_ => decide (len = 1)
  | _ => false
def ma_okb (cc : ByteArray) (o pc : Nat) (a : ma_AI) : Bool := match a with
  | (len, .athrow, p, q) => decide (len = 8 ∧ o = 10 ∧ ma_thr[q.toNat]? = some (10, (ma_thr.getD q.toNat (0, 0, 0, 0)).2.1, (ma_thr.getD q.toNat (0, 0, 0, 0)).2.2.1, p)) && (decide (decode cc pc = .ok (.new (ma_thr.getD q.toNat (0, 0, 0, 0)).2.1, 3)) && (decide (decode cc (pc + 3) = .ok (.dup, 1)) && (decide (decode cc (pc + 4) = .ok (.invokespecial (ma_thr.getD q.toNat (0, 0, 0, 0)).2.2.1, 3)) && decide (decode cc (pc + 7) = .ok (.athrow, 1)))))
  | (len, ins, p, q) => decide (decode cc pc = .ok (ins, len)) && ma_okl o pc len ins p q
theorem ma_cpy_e {st : List ma_V} {F : Int → Int → Nat × Int → Int → Nat × Int → List ma_V → Prop} (h : match st with | .inl n :: .inl dp :: .inr (.inr (.inl b)) :: .inl sp :: .inr (.inr (.inl a)) :: rest => F n dp b sp a rest | _ => False) : ∃ n dp b sp a rest, st = .inl n :: .inl dp :: .inr (.inr (.inl b)) :: .inl sp :: .inr (.inr (.inl a)) :: rest ∧ F n dp b sp a rest := by
  split at h
  · exact ⟨_, _, _, _, _, _, rfl, h⟩
  · exact h.elim
section ALL
variable {p : Program} {l : Launch} {e : Env} {R : Room} {s : State} {m : MethodId} {args : Array Value} {below : List Frame} {meth : Method} {c : Code} {Q : State → Prop} {G : ma_G} {cc : ByteArray} {o nL c0 s0 pc k pp : Nat} {qq : Int} {ls st : List ma_V} {μ : ma_M} {O : ma_O} {E : ma_E} {K : ma_K} {J : ma_J} {D : ma_Dn}
variable {d : Nat}
/-- a static call of a nest mate's private method -/
theorem ma_s_nest {y i : Nat} {as rest : List ma_V} (C : ma_Cx p s m args c G cc o nL) (hLn : nL = c.maxLocals) (hq : (o, i, y) ∈ ma_mN ∧ y < ma_nM ∧ ma_stat y = true ∧ ma_wc y = 0 ∧ ma_rk y = 2 ∧ (ma_hc y).isEmpty = true) (hd : decode cc pc = .ok (.invokestatic i, 3))
    (hR : d + 11 ≤ R.frames ∧ 43 * (d + 1) + 200 ≤ R.locals) (hRo : ma_Ro R E c0 s0) (hO : ∀ y as μ Post, O y as μ Post → ma_Ct l G d y as μ Post)
    (hK : ∀ ls st k μ, K ls st k μ → ma_W p l e R s m args below meth c Q G nL c0 s0 (pc + 3) ls st k μ) (hp : ma_pop (ma_na y) st [] = some (as, rest)) (h : ma_call O E pc ls y as rest k μ K J D) : ma_W p l e R s m args below meth c Q G nL c0 s0 pc ls st k μ := by
  obtain ⟨hl, hyn, hst, hw0, hrk, hhc⟩ := hq
  obtain ⟨h4, hw, hcall⟩ := h
  obtain ⟨bs, b1, b2, b3⟩ := ma_pop_e _ _ _ _ _ hp
  rw [List.append_nil] at b3
  subst b2
  intro H locs als vs0 hH hS hL hRS
  obtain ⟨ws, vs, rfl, hRb, hR2⟩ := ma_RS_app hRS
  have hc8 := ma_catR hR2 h4
  obtain ⟨r1, r2, r3, r4⟩ := hRo
  obtain ⟨hplain, hmh, hvh, hpar, hnl⟩ := ma_cls_ok y hyn
  have hM := hO _ _ _ _ hcall
  unfold ma_Ct at hM
  have hcw : ma_cw y = Cond.code (ma_y y) (ma_b y) (ma_nL y) (ma_ret y) := by unfold ma_cw; rw [if_pos hhc]
  rw [hcw, hw0, hrk] at hM
  have hM2 : Met l (ma_y y) (Cond.code (ma_y y) (ma_b y) (ma_nL y) (ma_ret y) :: ma_WG) (ma_rm d 0) (ma_Pc G as μ) (ma_Qc G 2 (ma_cont E pc ls rest (k + 0) K J D)) 0 0 (ma_A G) :=
    MetFree.mono hM (fun _ _ z => z) (fun _ _ _ _ _ z => z) (fun a st o9 t _ z => by
      rcases z with z | ⟨q, -, E9, ce, L, ⟨u, ⟨hz, -⟩, -⟩, -⟩
      · exact z
      · exact absurd hz (Nat.lt_irrefl 0))
  have hsw := C.2.2.2.2.1 _ (ma_sw_ok y hyn)
  rw [hst] at hsw
  have hgi := ma_goodIn hyn
  rw [hcw] at hgi
  have hpre : PreS s H (ma_Pc G as μ) ws.reverse := ⟨ma_blind _ _ _, fun U hU hW => ⟨⟨_, rfl, by rw [b3]; exact ma_RS_rev hRb⟩, by rw [hU]; exact hH.moved hW.alike, ma_KX.moved hW (by rw [hU]; exact hS) ⟨C.2.2.2.2.2.1, C.2.2.2.2.2.2.1, C.2.2.2.2.2.2.2.1, C.2.2.2.2.2.2.2.2⟩⟩⟩
  have hini := C.2.2.2.2.1 _ (ma_iw_ok y hyn)
  have hnw : va_Nw (Cond.methodLinkNest (ma_own o) i (ma_y y) "Latticefit") s := C.2.2.2.2.2.2.2.2.1 _ (List.mem_append_left _ (List.mem_map.mpr ⟨_, hl, rfl⟩))
  refine va_calli (va_runSN (nL := nL) (Ts := ma_WG) ⟨C.1, C.2.1, hLn.symm, C.2.2.2.1, C.2.2.2.2.1⟩ hM2 ⟨va_cnB (ma_na y) C.2.2.2.2.1 hgi rfl rfl rfl hnw hini ⟨hmh, hvh, hpar⟩ (ma_roomC (w := 0) hR hnl), hsw, trivial⟩ hpre rfl (by rw [List.length_reverse, ma_RS_len hRb, b1]) hL.2.1 (by rw [List.reverse_reverse]) (by show 2 * 0 + _ ≤ 8; omega) hd ⟨by show c0 + k + 0 ≤ _; omega, by show s0 + 6 * k + 0 ≤ _; omega⟩) hS (fun _ _ z => z) (fun _ z => z) (fun r u t H1 locs1 h1 h2 h3 h5 _ _ h6 => ?_)
  have hH1 : ma_HR G s u H1 := by rw [← h1]; exact ma_HR.moved h2.symm h5
  exact hK _ _ _ _ h3 H1 locs1 als (_ :: vs) hH1 h6 hL ⟨⟨r, rfl, rfl⟩, hR2⟩
/-- Math.max of doubles where the first is a number and not 0 -/
theorem ma_s_maxD {i : Nat} (hq : (o, i) ∈ ma_md) (hRo : ma_Ro R E c0 s0) (hLn : nL = c.maxLocals) (C : ma_Cx p s m args c G cc o nL) (hd : decode cc pc = .ok (.invokestatic i, 3)) (hK : ∀ ls st k μ, K ls st k μ → ma_W p l e R s m args below meth c Q G nL c0 s0 (pc + 3) ls st k μ)
    (h : ma_pD st fun y st => ma_pD st fun x st => st.length ≤ 4 ∧ k ≤ E.2.2.2 ∧ Op.cmpValue (FP.dcmp x x) .l = 0 ∧ Op.cmpValue (FP.dcmp y y) .l = 0 ∧ Op.cmpValue (FP.dcmp x 0) .l ≠ 0 ∧ K ls (ma_D (if Op.cmpValue (FP.dcmp x y) .l < 0 then y else x) :: st) k μ) : ma_W p l e R s m args below meth c Q G nL c0 s0 pc ls st k μ := by
  cases hq
set_option maxHeartbeats 4000000 in
/-- every instruction -/
theorem ma_s_all (a : ma_AI) (C : ma_Cx p s m args c G cc o nL) (hLn : nL = c.maxLocals) (hLS : E.1 = G.LS ∧ G.LS ≤ 2048) (hok : ma_okb cc o pc a = true)
    (hR : d + 11 ≤ R.frames ∧ 43 * (d + 1) + 200 ≤ R.locals) (hRo : ma_Ro R E c0 s0) (hO : ∀ y as μ Post, O y as μ Post → ma_Ct l G d y as μ Post)
    (hX : ma_hX p l e R s m args below meth c Q E) (hE : ma_hE p l e R s m args below meth c Q G cc o nL c0 s0 E D)
    (hK : ∀ ls st k μ, K ls st k μ → ma_W p l e R s m args below meth c Q G nL c0 s0 (pc + a.1) ls st k μ) (hJ : ∀ pc' ls st k μ, J pc' ls st k μ → ma_W p l e R s m args below meth c Q G nL c0 s0 pc' ls st k μ) (h : ma_step O E a.2.1 a.2.2.1 a.2.2.2 pc ls st k μ K J D) : ma_W p l e R s m args below meth c Q G nL c0 s0 pc ls st k μ := by
  obtain ⟨len, ins, p9, q9⟩ := a
  cases ins with
  | iload_n i =>
    have hok : (decide (decode cc pc = .ok (.iload_n i, len)) && (decide (len = 1))) = true := hok
    simp only [Bool.and_eq_true, decide_eq_true_eq] at hok
    obtain ⟨hd, rfl⟩ := hok
    exact ma_s_iload_n C hd hK hJ h
  | lload_n i =>
    have hok : (decide (decode cc pc = .ok (.lload_n i, len)) && (decide (len = 1))) = true := hok
    simp only [Bool.and_eq_true, decide_eq_true_eq] at hok
    obtain ⟨hd, rfl⟩ := hok
    exact ma_s_lload_n C hd hK hJ h
  | aload_n i =>
    have hok : (decide (decode cc pc = .ok (.aload_n i, len)) && (decide (len = 1))) = true := hok
    simp only [Bool.and_eq_true, decide_eq_true_eq] at hok
    obtain ⟨hd, rfl⟩ := hok
    exact ma_s_aload_n C hd hK hJ h
  | dload_n i =>
    have hok : (decide (decode cc pc = .ok (.dload_n i, len)) && (decide (len = 1))) = true := hok
    simp only [Bool.and_eq_true, decide_eq_true_eq] at hok
    obtain ⟨hd, rfl⟩ := hok
    exact ma_s_dload_n C hd hK hJ h
  | istore_n i =>
    have hok : (decide (decode cc pc = .ok (.istore_n i, len)) && (decide (len = 1))) = true := hok
    simp only [Bool.and_eq_true, decide_eq_true_eq] at hok
    obtain ⟨hd, rfl⟩ := hok
    exact ma_s_istore_n C hd hK hJ h
  | lstore_n i =>
    have hok : (decide (decode cc pc = .ok (.lstore_n i, len)) && (decide (len = 1))) = true := hok
    simp only [Bool.and_eq_true, decide_eq_true_eq] at hok
    obtain ⟨hd, rfl⟩ := hok
    exact ma_s_lstore_n C hd hK hJ h
  | dstore_n i =>
    have hok : (decide (decode cc pc = .ok (.dstore_n i, len)) && (decide (len = 1))) = true := hok
    simp only [Bool.and_eq_true, decide_eq_true_eq] at hok
    obtain ⟨hd, rfl⟩ := hok
    exact ma_s_dstore_n C hd hK hJ h
  | astore_n i =>
    have hok : (decide (decode cc pc = .ok (.astore_n i, len)) && (decide (len = 1))) = true := hok
    simp only [Bool.and_eq_true, decide_eq_true_eq] at hok
    obtain ⟨hd, rfl⟩ := hok
    exact ma_s_astore_n C hd hK hJ h
  | iload i =>
    have hok : (decide (decode cc pc = .ok (.iload i, len)) && (decide (len = 2))) = true := hok
    simp only [Bool.and_eq_true, decide_eq_true_eq] at hok
    obtain ⟨hd, rfl⟩ := hok
    exact ma_s_iload C hd hK hJ h
  | lload i =>
    have hok : (decide (decode cc pc = .ok (.lload i, len)) && (decide (len = 2))) = true := hok
    simp only [Bool.and_eq_true, decide_eq_true_eq] at hok
    obtain ⟨hd, rfl⟩ := hok
    exact ma_s_lload C hd hK hJ h
  | aload i =>
    have hok : (decide (decode cc pc = .ok (.aload i, len)) && (decide (len = 2))) = true := hok
    simp only [Bool.and_eq_true, decide_eq_true_eq] at hok
    obtain ⟨hd, rfl⟩ := hok
    exact ma_s_aload C hd hK hJ h
  | dload i =>
    have hok : (decide (decode cc pc = .ok (.dload i, len)) && (decide (len = 2))) = true := hok
    simp only [Bool.and_eq_true, decide_eq_true_eq] at hok
    obtain ⟨hd, rfl⟩ := hok
    exact ma_s_dload C hd hK hJ h
  | istore i =>
    have hok : (decide (decode cc pc = .ok (.istore i, len)) && (decide (len = 2))) = true := hok
    simp only [Bool.and_eq_true, decide_eq_true_eq] at hok
    obtain ⟨hd, rfl⟩ := hok
    exact ma_s_istore C hd hK hJ h
  | lstore i =>
    have hok : (decide (decode cc pc = .ok (.lstore i, len)) && (decide (len = 2))) = true := hok
    simp only [Bool.and_eq_true, decide_eq_true_eq] at hok
    obtain ⟨hd, rfl⟩ := hok
    exact ma_s_lstore C hd hK hJ h
  | dstore i =>
    have hok : (decide (decode cc pc = .ok (.dstore i, len)) && (decide (len = 2))) = true := hok
    simp only [Bool.and_eq_true, decide_eq_true_eq] at hok
    obtain ⟨hd, rfl⟩ := hok
    exact ma_s_dstore C hd hK hJ h
  | astore i =>
    have hok : (decide (decode cc pc = .ok (.astore i, len)) && (decide (len = 2))) = true := hok
    simp only [Bool.and_eq_true, decide_eq_true_eq] at hok
    obtain ⟨hd, rfl⟩ := hok
    exact ma_s_astore C hd hK hJ h
  | fload i =>
    have hok : (decide (decode cc pc = .ok (.fload i, len)) && (decide (len = 2))) = true := hok
    simp only [Bool.and_eq_true, decide_eq_true_eq] at hok
    obtain ⟨hd, rfl⟩ := hok
    exact ma_s_fload C hd hK hJ h
  | fstore i =>
    have hok : (decide (decode cc pc = .ok (.fstore i, len)) && (decide (len = 2))) = true := hok
    simp only [Bool.and_eq_true, decide_eq_true_eq] at hok
    obtain ⟨hd, rfl⟩ := hok
    exact ma_s_fstore C hd hK hJ h
  | iconst n =>
    have hok : (decide (decode cc pc = .ok (.iconst n, len)) && (decide (len = 1) && decide ((Int32.ofInt n).toInt = q9))) = true := hok
    simp only [Bool.and_eq_true, decide_eq_true_eq] at hok
    obtain ⟨hd, rfl, c0_⟩ := hok
    exact ma_s_iconst c0_ C hd hK hJ h
  | bipush n =>
    have hok : (decide (decode cc pc = .ok (.bipush n, len)) && (decide (len = 2) && decide ((Int8.ofInt n).toInt32.toInt = q9))) = true := hok
    simp only [Bool.and_eq_true, decide_eq_true_eq] at hok
    obtain ⟨hd, rfl, c0_⟩ := hok
    exact ma_s_bipush c0_ C hd hK hJ h
  | sipush n =>
    have hok : (decide (decode cc pc = .ok (.sipush n, len)) && (decide (len = 3) && decide ((Int16.ofInt n).toInt32.toInt = q9))) = true := hok
    simp only [Bool.and_eq_true, decide_eq_true_eq] at hok
    obtain ⟨hd, rfl, c0_⟩ := hok
    exact ma_s_sipush c0_ C hd hK hJ h
  | lconst n =>
    have hok : (decide (decode cc pc = .ok (.lconst n, len)) && (decide (len = 1) && decide ((Int64.ofNat n.val).toInt = q9))) = true := hok
    simp only [Bool.and_eq_true, decide_eq_true_eq] at hok
    obtain ⟨hd, rfl, c0_⟩ := hok
    exact ma_s_lconst c0_ C hd hK hJ h
  | dconst n =>
    have hok : (decide (decode cc pc = .ok (.dconst n, len)) && (decide (len = 1))) = true := hok
    simp only [Bool.and_eq_true, decide_eq_true_eq] at hok
    obtain ⟨hd, rfl⟩ := hok
    exact ma_s_dconst C hd hK hJ h
  | fconst n =>
    have hok : (decide (decode cc pc = .ok (.fconst n, len)) && (decide (len = 1))) = true := hok
    simp only [Bool.and_eq_true, decide_eq_true_eq] at hok
    obtain ⟨hd, rfl⟩ := hok
    exact ma_s_fconst C hd hK hJ h
  | ldc i =>
    have hok : (decide (decode cc pc = .ok (.ldc i, len)) && (decide (len = 2) && decide ((p9 = 0 ∧ (o, i, q9) ∈ ma_kI ∧ (-2147483648 ≤ q9 ∧ q9 < 2147483648)) ∨ (p9 ≠ 0 ∧ (o, i, q9) ∈ ma_kF)))) = true := hok
    simp only [Bool.and_eq_true, decide_eq_true_eq] at hok
    obtain ⟨hd, rfl, c0_⟩ := hok
    exact c0_.elim (fun z => ma_s_ldcI z C hd hK hJ h) (fun z => ma_s_ldcF z C hd hK hJ h)
  | ldc_w i =>
    have hok : (decide (decode cc pc = .ok (.ldc_w i, len)) && (decide (len = 3) && decide ((p9 = 0 ∧ (o, i, q9) ∈ ma_kI ∧ (-2147483648 ≤ q9 ∧ q9 < 2147483648)) ∨ (p9 ≠ 0 ∧ (o, i, q9) ∈ ma_kF)))) = true := hok
    simp only [Bool.and_eq_true, decide_eq_true_eq] at hok
    obtain ⟨hd, rfl, c0_⟩ := hok
    exact c0_.elim (fun z => ma_s_ldcwI z C hd hK hJ h) (fun z => ma_s_ldcwF z C hd hK hJ h)
  | ldc2_w i =>
    have hok : (decide (decode cc pc = .ok (.ldc2_w i, len)) && (decide (len = 3) && decide ((p9 = 0 ∧ (o, i, q9) ∈ ma_kL ∧ -9223372036854775808 ≤ q9 ∧ q9 < 9223372036854775808) ∨ (p9 ≠ 0 ∧ (o, i, q9) ∈ ma_kD)))) = true := hok
    simp only [Bool.and_eq_true, decide_eq_true_eq] at hok
    obtain ⟨hd, rfl, c0_⟩ := hok
    exact c0_.elim (fun z => ma_s_ldc2L z C hd hK hJ h) (fun z => ma_s_ldc2D z C hd hK hJ h)
  | iadd =>
    have hok : (decide (decode cc pc = .ok (.iadd, len)) && (decide (len = 1))) = true := hok
    simp only [Bool.and_eq_true, decide_eq_true_eq] at hok
    obtain ⟨hd, rfl⟩ := hok
    exact ma_s_iadd C hd hK hJ h
  | isub =>
    have hok : (decide (decode cc pc = .ok (.isub, len)) && (decide (len = 1))) = true := hok
    simp only [Bool.and_eq_true, decide_eq_true_eq] at hok
    obtain ⟨hd, rfl⟩ := hok
    exact ma_s_isub C hd hK hJ h
  | imul =>
    have hok : (decide (decode cc pc = .ok (.imul, len)) && (decide (len = 1))) = true := hok
    simp only [Bool.and_eq_true, decide_eq_true_eq] at hok
    obtain ⟨hd, rfl⟩ := hok
    exact ma_s_imul C hd hK hJ h
  | idiv =>
    have hok : (decide (decode cc pc = .ok (.idiv, len)) && (decide (len = 1))) = true := hok
    simp only [Bool.and_eq_true, decide_eq_true_eq] at hok
    obtain ⟨hd, rfl⟩ := hok
    exact ma_s_idiv C hd hK hJ h
  | irem =>
    have hok : (decide (decode cc pc = .ok (.irem, len)) && (decide (len = 1))) = true := hok
    simp only [Bool.and_eq_true, decide_eq_true_eq] at hok
    obtain ⟨hd, rfl⟩ := hok
    exact ma_s_irem C hd hK hJ h
  | iand =>
    have hok : (decide (decode cc pc = .ok (.iand, len)) && (decide (len = 1))) = true := hok
    simp only [Bool.and_eq_true, decide_eq_true_eq] at hok
    obtain ⟨hd, rfl⟩ := hok
    exact ma_s_iand C hd hK hJ h
  | ior =>
    have hok : (decide (decode cc pc = .ok (.ior, len)) && (decide (len = 1))) = true := hok
    simp only [Bool.and_eq_true, decide_eq_true_eq] at hok
    obtain ⟨hd, rfl⟩ := hok
    exact ma_s_ior C hd hK hJ h
  | ixor =>
    have hok : (decide (decode cc pc = .ok (.ixor, len)) && (decide (len = 1))) = true := hok
    simp only [Bool.and_eq_true, decide_eq_true_eq] at hok
    obtain ⟨hd, rfl⟩ := hok
    exact ma_s_ixor C hd hK hJ h
  | ishl =>
    have hok : (decide (decode cc pc = .ok (.ishl, len)) && (decide (len = 1))) = true := hok
    simp only [Bool.and_eq_true, decide_eq_true_eq] at hok
    obtain ⟨hd, rfl⟩ := hok
    exact ma_s_ishl C hd hK hJ h
  | ishr =>
    have hok : (decide (decode cc pc = .ok (.ishr, len)) && (decide (len = 1))) = true := hok
    simp only [Bool.and_eq_true, decide_eq_true_eq] at hok
    obtain ⟨hd, rfl⟩ := hok
    exact ma_s_ishr C hd hK hJ h
  | iushr =>
    have hok : (decide (decode cc pc = .ok (.iushr, len)) && (decide (len = 1))) = true := hok
    simp only [Bool.and_eq_true, decide_eq_true_eq] at hok
    obtain ⟨hd, rfl⟩ := hok
    exact ma_s_iushr C hd hK hJ h
  | ladd =>
    have hok : (decide (decode cc pc = .ok (.ladd, len)) && (decide (len = 1))) = true := hok
    simp only [Bool.and_eq_true, decide_eq_true_eq] at hok
    obtain ⟨hd, rfl⟩ := hok
    exact ma_s_ladd C hd hK hJ h
  | lsub =>
    have hok : (decide (decode cc pc = .ok (.lsub, len)) && (decide (len = 1))) = true := hok
    simp only [Bool.and_eq_true, decide_eq_true_eq] at hok
    obtain ⟨hd, rfl⟩ := hok
    exact ma_s_lsub C hd hK hJ h
  | lmul =>
    have hok : (decide (decode cc pc = .ok (.lmul, len)) && (decide (len = 1))) = true := hok
    simp only [Bool.and_eq_true, decide_eq_true_eq] at hok
    obtain ⟨hd, rfl⟩ := hok
    exact ma_s_lmul C hd hK hJ h
  | ldiv =>
    have hok : (decide (decode cc pc = .ok (.ldiv, len)) && (decide (len = 1))) = true := hok
    simp only [Bool.and_eq_true, decide_eq_true_eq] at hok
    obtain ⟨hd, rfl⟩ := hok
    exact ma_s_ldiv C hd hK hJ h
  | lrem =>
    have hok : (decide (decode cc pc = .ok (.lrem, len)) && (decide (len = 1))) = true := hok
    simp only [Bool.and_eq_true, decide_eq_true_eq] at hok
    obtain ⟨hd, rfl⟩ := hok
    exact ma_s_lrem C hd hK hJ h
  | land =>
    have hok : (decide (decode cc pc = .ok (.land, len)) && (decide (len = 1))) = true := hok
    simp only [Bool.and_eq_true, decide_eq_true_eq] at hok
    obtain ⟨hd, rfl⟩ := hok
    exact ma_s_land C hd hK hJ h
  | lor =>
    have hok : (decide (decode cc pc = .ok (.lor, len)) && (decide (len = 1))) = true := hok
    simp only [Bool.and_eq_true, decide_eq_true_eq] at hok
    obtain ⟨hd, rfl⟩ := hok
    exact ma_s_lor C hd hK hJ h
  | lshl =>
    have hok : (decide (decode cc pc = .ok (.lshl, len)) && (decide (len = 1))) = true := hok
    simp only [Bool.and_eq_true, decide_eq_true_eq] at hok
    obtain ⟨hd, rfl⟩ := hok
    exact ma_s_lshl C hd hK hJ h
  | lshr =>
    have hok : (decide (decode cc pc = .ok (.lshr, len)) && (decide (len = 1))) = true := hok
    simp only [Bool.and_eq_true, decide_eq_true_eq] at hok
    obtain ⟨hd, rfl⟩ := hok
    exact ma_s_lshr C hd hK hJ h
  | lushr =>
    have hok : (decide (decode cc pc = .ok (.lushr, len)) && (decide (len = 1))) = true := hok
    simp only [Bool.and_eq_true, decide_eq_true_eq] at hok
    obtain ⟨hd, rfl⟩ := hok
    exact ma_s_lushr C hd hK hJ h
  | i2l =>
    have hok : (decide (decode cc pc = .ok (.i2l, len)) && (decide (len = 1))) = true := hok
    simp only [Bool.and_eq_true, decide_eq_true_eq] at hok
    obtain ⟨hd, rfl⟩ := hok
    exact ma_s_i2l C hd hK hJ h
  | l2i =>
    have hok : (decide (decode cc pc = .ok (.l2i, len)) && (decide (len = 1))) = true := hok
    simp only [Bool.and_eq_true, decide_eq_true_eq] at hok
    obtain ⟨hd, rfl⟩ := hok
    exact ma_s_l2i C hd hK hJ h
  | i2c =>
    have hok : (decide (decode cc pc = .ok (.i2c, len)) && (decide (len = 1))) = true := hok
    simp only [Bool.and_eq_true, decide_eq_true_eq] at hok
    obtain ⟨hd, rfl⟩ := hok
    exact ma_s_i2c C hd hK hJ h
  | i2d =>
    have hok : (decide (decode cc pc = .ok (.i2d, len)) && (decide (len = 1))) = true := hok
    simp only [Bool.and_eq_true, decide_eq_true_eq] at hok
    obtain ⟨hd, rfl⟩ := hok
    exact ma_s_i2d C hd hK hJ h
  | i2f =>
    have hok : (decide (decode cc pc = .ok (.i2f, len)) && (decide (len = 1))) = true := hok
    simp only [Bool.and_eq_true, decide_eq_true_eq] at hok
    obtain ⟨hd, rfl⟩ := hok
    exact ma_s_i2f C hd hK hJ h
  | f2d =>
    have hok : (decide (decode cc pc = .ok (.f2d, len)) && (decide (len = 1))) = true := hok
    simp only [Bool.and_eq_true, decide_eq_true_eq] at hok
    obtain ⟨hd, rfl⟩ := hok
    exact ma_s_f2d C hd hK hJ h
  | ddiv =>
    have hok : (decide (decode cc pc = .ok (.ddiv, len)) && (decide (len = 1))) = true := hok
    simp only [Bool.and_eq_true, decide_eq_true_eq] at hok
    obtain ⟨hd, rfl⟩ := hok
    exact ma_s_ddiv C hd hK hJ h
  | fdiv =>
    have hok : (decide (decode cc pc = .ok (.fdiv, len)) && (decide (len = 1))) = true := hok
    simp only [Bool.and_eq_true, decide_eq_true_eq] at hok
    obtain ⟨hd, rfl⟩ := hok
    exact ma_s_fdiv C hd hK hJ h
  | lcmp =>
    have hok : (decide (decode cc pc = .ok (.lcmp, len)) && (decide (len = 1))) = true := hok
    simp only [Bool.and_eq_true, decide_eq_true_eq] at hok
    obtain ⟨hd, rfl⟩ := hok
    exact ma_s_lcmp C hd hK hJ h
  | dup =>
    have hok : (decide (decode cc pc = .ok (.dup, len)) && (decide (len = 1))) = true := hok
    simp only [Bool.and_eq_true, decide_eq_true_eq] at hok
    obtain ⟨hd, rfl⟩ := hok
    exact ma_s_dup C hd hK hJ h
  | pop =>
    have hok : (decide (decode cc pc = .ok (.pop, len)) && (decide (len = 1))) = true := hok
    simp only [Bool.and_eq_true, decide_eq_true_eq] at hok
    obtain ⟨hd, rfl⟩ := hok
    exact ma_s_pop C hd hK hJ h
  | dup_x1 =>
    have hok : (decide (decode cc pc = .ok (.dup_x1, len)) && (decide (len = 1))) = true := hok
    simp only [Bool.and_eq_true, decide_eq_true_eq] at hok
    obtain ⟨hd, rfl⟩ := hok
    exact ma_s_dup_x1 C hd hK hJ h
  | dup2 =>
    have hok : (decide (decode cc pc = .ok (.dup2, len)) && (decide (len = 1))) = true := hok
    simp only [Bool.and_eq_true, decide_eq_true_eq] at hok
    obtain ⟨hd, rfl⟩ := hok
    exact ma_s_dup2 C hd hK hJ h
  | laload =>
    have hok : (decide (decode cc pc = .ok (.laload, len)) && (decide (len = 1))) = true := hok
    simp only [Bool.and_eq_true, decide_eq_true_eq] at hok
    obtain ⟨hd, rfl⟩ := hok
    exact ma_s_laload C hd hK hJ h
  | baload =>
    have hok : (decide (decode cc pc = .ok (.baload, len)) && (decide (len = 1))) = true := hok
    simp only [Bool.and_eq_true, decide_eq_true_eq] at hok
    obtain ⟨hd, rfl⟩ := hok
    exact ma_s_baload C hd hK hJ h
  | caload =>
    have hok : (decide (decode cc pc = .ok (.caload, len)) && (decide (len = 1))) = true := hok
    simp only [Bool.and_eq_true, decide_eq_true_eq] at hok
    obtain ⟨hd, rfl⟩ := hok
    exact ma_s_caload C hd hK hJ h
  | daload =>
    have hok : (decide (decode cc pc = .ok (.daload, len)) && (decide (len = 1))) = true := hok
    simp only [Bool.and_eq_true, decide_eq_true_eq] at hok
    obtain ⟨hd, rfl⟩ := hok
    exact ma_s_daload C hd hK hJ h
  | aaload =>
    have hok : (decide (decode cc pc = .ok (.aaload, len)) && (decide (len = 1))) = true := hok
    simp only [Bool.and_eq_true, decide_eq_true_eq] at hok
    obtain ⟨hd, rfl⟩ := hok
    exact ma_s_aaload C hd hK hJ h
  | iastore =>
    have hok : (decide (decode cc pc = .ok (.iastore, len)) && (decide (len = 1))) = true := hok
    simp only [Bool.and_eq_true, decide_eq_true_eq] at hok
    obtain ⟨hd, rfl⟩ := hok
    exact ma_s_iastore C hd hK hJ h
  | lastore =>
    have hok : (decide (decode cc pc = .ok (.lastore, len)) && (decide (len = 1))) = true := hok
    simp only [Bool.and_eq_true, decide_eq_true_eq] at hok
    obtain ⟨hd, rfl⟩ := hok
    exact ma_s_lastore C hd hK hJ h
  | bastore =>
    have hok : (decide (decode cc pc = .ok (.bastore, len)) && (decide (len = 1))) = true := hok
    simp only [Bool.and_eq_true, decide_eq_true_eq] at hok
    obtain ⟨hd, rfl⟩ := hok
    exact ma_s_bastore C hd hK hJ h
  | castore =>
    have hok : (decide (decode cc pc = .ok (.castore, len)) && (decide (len = 1))) = true := hok
    simp only [Bool.and_eq_true, decide_eq_true_eq] at hok
    obtain ⟨hd, rfl⟩ := hok
    exact ma_s_castore C hd hK hJ h
  | dastore =>
    have hok : (decide (decode cc pc = .ok (.dastore, len)) && (decide (len = 1))) = true := hok
    simp only [Bool.and_eq_true, decide_eq_true_eq] at hok
    obtain ⟨hd, rfl⟩ := hok
    exact ma_s_dastore C hd hK hJ h
  | iaload =>
    have hok : (decide (decode cc pc = .ok (.iaload, len)) && (decide (len = 1))) = true := hok
    simp only [Bool.and_eq_true, decide_eq_true_eq] at hok
    obtain ⟨hd, rfl⟩ := hok
    exact ma_s_iaload hLS C hd hK hJ h
  | arraylength =>
    have hok : (decide (decode cc pc = .ok (.arraylength, len)) && (decide (len = 1))) = true := hok
    simp only [Bool.and_eq_true, decide_eq_true_eq] at hok
    obtain ⟨hd, rfl⟩ := hok
    exact ma_s_arraylength hLS C hd hK hJ h
  | dcmp op =>
    have hok : (decide (decode cc pc = .ok (.dcmp op, len)) && (decide (len = 1))) = true := hok
    simp only [Bool.and_eq_true, decide_eq_true_eq] at hok
    obtain ⟨hd, rfl⟩ := hok
    exact ma_s_dcmp C hd hK hJ h
  | fcmp op =>
    have hok : (decide (decode cc pc = .ok (.fcmp op, len)) && (decide (len = 1))) = true := hok
    simp only [Bool.and_eq_true, decide_eq_true_eq] at hok
    obtain ⟨hd, rfl⟩ := hok
    exact ma_s_fcmp C hd hK hJ h
  | iinc i n9 =>
    have hok : (decide (decode cc pc = .ok (.iinc i n9, len)) && (decide (len = 3))) = true := hok
    simp only [Bool.and_eq_true, decide_eq_true_eq] at hok
    obtain ⟨hd, rfl⟩ := hok
    exact ma_s_iinc C hd hK hJ h
  | goto off =>
    have hok : (decide (decode cc pc = .ok (.goto off, len)) && (decide (len = 3) && decide (0 ≤ (pc : Int) + off))) = true := hok
    simp only [Bool.and_eq_true, decide_eq_true_eq] at hok
    obtain ⟨hd, rfl, c0_⟩ := hok
    exact ma_s_goto c0_ C hd hK hJ h
  | ifCond cd off =>
    have hok : (decide (decode cc pc = .ok (.ifCond cd off, len)) && (decide (len = 3) && decide (0 ≤ (pc : Int) + off))) = true := hok
    simp only [Bool.and_eq_true, decide_eq_true_eq] at hok
    obtain ⟨hd, rfl, c0_⟩ := hok
    exact ma_s_ifCond c0_ C hd hK hJ h
  | if_icmp cd off =>
    have hok : (decide (decode cc pc = .ok (.if_icmp cd off, len)) && (decide (len = 3) && decide (0 ≤ (pc : Int) + off))) = true := hok
    simp only [Bool.and_eq_true, decide_eq_true_eq] at hok
    obtain ⟨hd, rfl, c0_⟩ := hok
    exact ma_s_if_icmp c0_ C hd hK hJ h
  | tableswitch d lo hi offs =>
    have hok : (decide (decode cc pc = .ok (.tableswitch d lo hi offs, len)) && (decide (0 ≤ (pc : Int) + d ∧ ∀ off ∈ offs, 0 ≤ (pc : Int) + off))) = true := hok
    simp only [Bool.and_eq_true, decide_eq_true_eq] at hok
    obtain ⟨hd, c0_⟩ := hok
    exact ma_s_tableswitch c0_ C hd hK hJ h
  | getfield i =>
    have hok : (decide (decode cc pc = .ok (.getfield i, len)) && (decide (len = 3) && decide ((o, i, p9, q9.toNat) ∈ ma_fl ∧ 0 ≤ q9 ∧ p9 < 11 ∧ q9.toNat < ma_N p9))) = true := hok
    simp only [Bool.and_eq_true, decide_eq_true_eq] at hok
    obtain ⟨hd, rfl, c0_⟩ := hok
    exact ma_s_getfield c0_ C hd hK hJ h
  | putfield i =>
    have hok : (decide (decode cc pc = .ok (.putfield i, len)) && (decide (len = 3) && decide ((o, i, p9, q9.toNat) ∈ ma_fl ∧ 0 ≤ q9 ∧ p9 < 11 ∧ q9.toNat < ma_N p9 ∧ (ma_T p9 q9.toNat).2.2.2 = false))) = true := hok
    simp only [Bool.and_eq_true, decide_eq_true_eq] at hok
    obtain ⟨hd, rfl, c0_⟩ := hok
    exact ma_s_putfield c0_ C hd hK hJ h
  | getstatic i =>
    have hok : (decide (decode cc pc = .ok (.getstatic i, len)) && (decide (len = 3) && decide ((o, i) ∈ ma_sl))) = true := hok
    simp only [Bool.and_eq_true, decide_eq_true_eq] at hok
    obtain ⟨hd, rfl, c0_⟩ := hok
    exact ma_s_getstatic c0_ C hd hK hJ h
  | invokevirtual i =>
    have hok : (decide (decode cc pc = .ok (.invokevirtual i, len)) && (decide (len = 3) && decide ((o, i, p9) ∈ ma_ml ∧ p9 < ma_nM ∧ ma_stat p9 = false ∧ (ma_hc p9).isEmpty = true ∧ q9.toNat < 11 ∧ (ma_y p9).cls = ma_C q9.toNat))) = true := hok
    simp only [Bool.and_eq_true, decide_eq_true_eq] at hok
    obtain ⟨hd, rfl, c0_⟩ := hok
    have h : (match ma_pop (ma_na p9) st [] with
      | some (as, .inr (.inr (.inl a)) :: rest) => (ma_ck a.1).1 = 10 + q9.toNat ∧ ma_call O E pc ls p9 (ma_Rf a.1 a.2 :: as) rest k μ K J D
      | _ => False) := h
    generalize hp : ma_pop (ma_na p9) st [] = z at h
    match z, hp, h with
    | some (as, .inr (.inr (.inl a)) :: rest), hp, h => exact ma_s_virt C hLn c0_ hd hR hRo hO hX hE hK hJ hp h.1 h.2
  | invokestatic i =>
    have hok : (decide (decode cc pc = .ok (.invokestatic i, len)) && (decide (len = 3) && decide ((p9 = 10002 ∧ (o, i) ∈ ma_mx) ∨ (p9 = 10003 ∧ (o, i) ∈ ma_mn) ∨ (p9 = 10004 ∧ (o, i) ∈ ma_md) ∨ (p9 = 10000 ∧ (o, i) ∈ ma_cp) ∨ ((o, i, p9) ∈ ma_ml ∧ p9 < ma_nM ∧ ma_stat p9 = true) ∨ ((o, i, p9) ∈ ma_mN ∧ p9 < ma_nM ∧ ma_stat p9 = true ∧ ma_wc p9 = 0 ∧ ma_rk p9 = 2 ∧ (ma_hc p9).isEmpty = true)))) = true := hok
    simp only [Bool.and_eq_true, decide_eq_true_eq] at hok
    obtain ⟨hd, rfl, c0_⟩ := hok
    rcases c0_ with ⟨rfl, c1_⟩ | ⟨rfl, c1_⟩ | ⟨rfl, c1_⟩ | ⟨rfl, c1_⟩ | c1_ | c1_
    · exact ma_s_mmax c1_ hRo hLn C hd hK h
    · exact ma_s_mmin c1_ hRo hLn C hd hK h
    · exact ma_s_maxD c1_ hRo hLn C hd hK h
    · obtain ⟨n, dp, b, sp, a, rest, rfl, h1, h2, h3, h4, h5, h6, h7, h8, h9, h10⟩ := ma_cpy_e (st := st) (F := fun n dp b sp a rest => rest.length ≤ 4 ∧ (ma_ck a.1).1 = 0 ∧ (ma_ck b.1).1 = 0 ∧ a.1 ≠ b.1 ∧ 0 ≤ n ∧ 0 ≤ sp ∧ 0 ≤ dp ∧ sp + n ≤ (ma_ck a.1).2.1 ∧ dp + n ≤ (ma_ck b.1).2.1 ∧ K ls rest k (ma_cpy μ a.1 a.2 sp b.1 b.2 dp n)) h
      exact ma_s_acopy c1_ hRo hLn C hd hK h1 h2 h3 h4 h5 h6 h7 h8 h9 h10
    · have hp4 : p9 < 155 := c1_.2.1
      have h : (match ma_pop (ma_na p9) st [] with
        | some (as, rest) => ma_call O E pc ls p9 as rest k μ K J D
        | _ => False) := by
        have h : (if p9 = 10002 then _ else if p9 = 10003 then _ else if p9 = 10004 then _ else if p9 = 10000 then _ else _) := h
        rwa [if_neg (by omega), if_neg (by omega), if_neg (by omega), if_neg (by omega)] at h
      generalize hp : ma_pop (ma_na p9) st [] = z at h
      match z, hp, h with
      | some (as, rest), hp, h => exact ma_s_stat C hLn c1_ hd hR hRo hO hX hE hK hJ hp h
    · have hp4 : p9 < 155 := c1_.2.1
      have h : (match ma_pop (ma_na p9) st [] with
        | some (as, rest) => ma_call O E pc ls p9 as rest k μ K J D
        | _ => False) := by
        have h : (if p9 = 10002 then _ else if p9 = 10003 then _ else if p9 = 10004 then _ else if p9 = 10000 then _ else _) := h
        rwa [if_neg (by omega), if_neg (by omega), if_neg (by omega), if_neg (by omega)] at h
      generalize hp : ma_pop (ma_na p9) st [] = z at h
      match z, hp, h with
      | some (as, rest), hp, h => exact ma_s_nest C hLn c1_ hd hR hRo hO hK hp h
  | ireturn =>
    have hok : (decide (decode cc pc = .ok (.ireturn, len)) && (decide (len = 1))) = true := hok
    simp only [Bool.and_eq_true, decide_eq_true_eq] at hok
    obtain ⟨hd, rfl⟩ := hok
    obtain ⟨v, st, rfl, h1⟩ := ma_pI_e h
    obtain ⟨rfl, h2, h3⟩ := ma_p0_e h1
    intro H locs als vs hH hS hL hR
    obtain ⟨w9, vs, rfl, hw9, hR1⟩ := ma_RS_cons hR
    cases ma_RS_nil hR1
    obtain ⟨x, rfl, rfl⟩ := hw9
    exact (hE k μ H locs hH hS).2.2.1 pc x als hd h2 h3
  | lreturn =>
    have hok : (decide (decode cc pc = .ok (.lreturn, len)) && (decide (len = 1))) = true := hok
    simp only [Bool.and_eq_true, decide_eq_true_eq] at hok
    obtain ⟨hd, rfl⟩ := hok
    obtain ⟨v, st, rfl, h1⟩ := ma_pL_e h
    obtain ⟨rfl, h2, h3⟩ := ma_p0_e h1
    intro H locs als vs hH hS hL hR
    obtain ⟨w9, vs, rfl, hw9, hR1⟩ := ma_RS_cons hR
    cases ma_RS_nil hR1
    obtain ⟨x, rfl, rfl⟩ := hw9
    exact (hE k μ H locs hH hS).2.2.2.1 pc x als hd h2 h3
  | freturn =>
    have hok : (decide (decode cc pc = .ok (.freturn, len)) && (decide (len = 1))) = true := hok
    simp only [Bool.and_eq_true, decide_eq_true_eq] at hok
    obtain ⟨hd, rfl⟩ := hok
    obtain ⟨v, st, rfl, h1⟩ := ma_pF_e h
    obtain ⟨rfl, h2, h3⟩ := ma_p0_e h1
    intro H locs als vs hH hS hL hR
    obtain ⟨w9, vs, rfl, hw9, hR1⟩ := ma_RS_cons hR
    cases ma_RS_nil hR1
    cases hw9
    exact (hE k μ H locs hH hS).2.2.2.2.1 pc v als hd h2 h3
  | dreturn =>
    have hok : (decide (decode cc pc = .ok (.dreturn, len)) && (decide (len = 1))) = true := hok
    simp only [Bool.and_eq_true, decide_eq_true_eq] at hok
    obtain ⟨hd, rfl⟩ := hok
    obtain ⟨v, st, rfl, h1⟩ := ma_pD_e h
    obtain ⟨rfl, h2, h3⟩ := ma_p0_e h1
    intro H locs als vs hH hS hL hR
    obtain ⟨w9, vs, rfl, hw9, hR1⟩ := ma_RS_cons hR
    cases ma_RS_nil hR1
    cases hw9
    exact (hE k μ H locs hH hS).2.2.2.2.2.1 pc v als hd h2 h3
  | return_ =>
    have hok : (decide (decode cc pc = .ok (.return_, len)) && (decide (len = 1))) = true := hok
    simp only [Bool.and_eq_true, decide_eq_true_eq] at hok
    obtain ⟨hd, rfl⟩ := hok
    obtain ⟨rfl, h1, h2⟩ := ma_p0_e h
    intro H locs als vs hH hS hL hR
    cases ma_RS_nil hR
    exact (hE k μ H locs hH hS).2.2.2.2.2.2 pc als hd h1 h2
  | athrow =>
    have hok : (decide (len = 8 ∧ o = 10 ∧ ma_thr[q9.toNat]? = some (10, (ma_thr.getD q9.toNat (0, 0, 0, 0)).2.1, (ma_thr.getD q9.toNat (0, 0, 0, 0)).2.2.1, p9)) && (decide (decode cc pc = .ok (.new (ma_thr.getD q9.toNat (0, 0, 0, 0)).2.1, 3)) && (decide (decode cc (pc + 3) = .ok (.dup, 1)) && (decide (decode cc (pc + 4) = .ok (.invokespecial (ma_thr.getD q9.toNat (0, 0, 0, 0)).2.2.1, 3)) && decide (decode cc (pc + 7) = .ok (.athrow, 1)))))) = true := hok
    simp only [Bool.and_eq_true, decide_eq_true_eq] at hok
    obtain ⟨⟨rfl, c1_, c0_⟩, d0, d3, d4, d7⟩ := hok
    obtain ⟨rfl, h1, h2, h3⟩ := ma_p0_e h
    intro H locs als vs hH hS hL hR
    cases ma_RS_nil hR
    exact (hE k μ H locs hH hS).2.1 pc p9 q9.toNat als c1_ hL.2.1 c0_ d0 d3 d4 d7 h1 h2 h3
  | _ => exact h.elim
end ALL
end
section
/-! bodies: what runs on the small machine runs on the JVM -/
def ma_okB (cc : ByteArray) (o : Nat) : List ma_AI → Nat → Bool
  | [], _ => true
  | a :: cs, pc => ma_okb cc o pc a && ma_okB cc o cs (pc + a.1)
abbrev ma_Tb := List (Nat × List Bool × List ma_AI)
def ma_at : ma_Tb → ma_B
  | [], _ => none
  | x :: t, pc => if pc = x.1 then some x.2 else ma_at t pc
def ma_chk (cc : ByteArray) (o nL : Nat) (t : ma_Tb) : Bool := t.all fun x => decide (x.2.1.length = nL) && ma_okB cc o x.2.2 x.1
theorem ma_at_mem : ∀ (t : ma_Tb) (pc : Nat) (b : List Bool × List ma_AI), ma_at t pc = some b → (pc, b) ∈ t
  | [], _, _, h => by cases h
  | x :: t, pc, b, h => by
    unfold ma_at at h
    by_cases hc : pc = x.1
    · rw [if_pos hc] at h
      cases h
      subst hc
      exact List.mem_cons_self
    · rw [if_neg hc] at h
      exact List.mem_cons_of_mem _ (ma_at_mem t pc b h)
theorem ma_chk_at {cc : ByteArray} {o nL : Nat} {t : ma_Tb} (h : ma_chk cc o nL t = true) {pc : Nat} {b : List Bool × List ma_AI} (hb : ma_at t pc = some b) : b.1.length = nL ∧ ma_okB cc o b.2 pc = true := by
  have h2 := List.all_eq_true.mp h _ (ma_at_mem t pc b hb)
  simp only [Bool.and_eq_true, decide_eq_true_eq] at h2
  exact h2
section RUN
variable {p : Program} {l : Launch} {e : Env} {R : Room} {s : State} {m : MethodId} {args : Array Value} {below : List Frame} {meth : Method} {c : Code} {Q : State → Prop} {G : ma_G} {cc : ByteArray} {o nL c0 s0 pc k pp : Nat} {qq : Int} {ls st : List ma_V} {μ : ma_M} {O : ma_O} {E : ma_E} {K : ma_K} {J : ma_J} {D : ma_Dn}
variable {d : Nat}
theorem ma_s_den (C : ma_Cx p s m args c G cc o nL) (hLn : nL = c.maxLocals) (hLS : E.1 = G.LS ∧ G.LS ≤ 2048)
    (hR : d + 11 ≤ R.frames ∧ 43 * (d + 1) + 200 ≤ R.locals) (hRo : ma_Ro R E c0 s0) (hO : ∀ y as μ Post, O y as μ Post → ma_Ct l G d y as μ Post)
    (hX : ma_hX p l e R s m args below meth c Q E) (hE : ma_hE p l e R s m args below meth c Q G cc o nL c0 s0 E D) (hJ : ∀ pc' ls st k μ, J pc' ls st k μ → ma_W p l e R s m args below meth c Q G nL c0 s0 pc' ls st k μ) :
    ∀ (cs : List ma_AI) (pc : Nat) (ls st : List ma_V) (k : Nat) (μ : ma_M), ma_okB cc o cs pc = true → ma_den O E cs pc ls st k μ J D → ma_W p l e R s m args below meth c Q G nL c0 s0 pc ls st k μ
  | [], pc, ls, st, k, μ, _, h => hJ _ _ _ _ _ h
  | a :: cs, pc, ls, st, k, μ, hok, h => by
    unfold ma_okB at hok
    rw [Bool.and_eq_true] at hok
    exact ma_s_all a C hLn hLS hok.1 hR hRo hO hX hE (fun ls st k μ h9 => ma_s_den C hLn hLS hR hRo hO hX hE hJ cs _ ls st k μ hok.2 h9) hJ h
theorem ma_s_run {t : ma_Tb} (C : ma_Cx p s m args c G cc o nL) (hLn : nL = c.maxLocals) (hLS : E.1 = G.LS ∧ G.LS ≤ 2048) (hchk : ma_chk cc o nL t = true)
    (hR : d + 11 ≤ R.frames ∧ 43 * (d + 1) + 200 ≤ R.locals) (hRo : ma_Ro R E c0 s0) (hO : ∀ y as μ Post, O y as μ Post → ma_Ct l G d y as μ Post)
    (hX : ma_hX p l e R s m args below meth c Q E) (hE : ma_hE p l e R s m args below meth c Q G cc o nL c0 s0 E D) (h : ma_run O E (ma_at t) D pc ls st k μ) : ma_W p l e R s m args below meth c Q G nL c0 s0 pc ls st k μ := by
  refine h (fun pc ls st k μ => ma_W p l e R s m args below meth c Q G nL c0 s0 pc ls st k μ) (fun pc b ls st k μ hb hd => ?_)
  obtain ⟨h1, h2⟩ := ma_chk_at hchk hb
  have h3 := ma_s_den C hLn hLS hR hRo hO hX hE (fun _ _ _ _ _ z => z) b.2 pc _ st k μ h2 hd
  intro H locs als vs hH hS hL hR9
  exact h3 H locs als vs hH hS (hL.msk h1) hR9
end RUN
/-- the entry of a body -/
def ma_nU (v : ma_V) : Bool := match v with | .inr (.inr (.inr (.inr (.inr (.inr _))))) => false | _ => true
theorem ma_nU_ne {v : ma_V} (h : ma_nU v = true) : v ≠ ma_U := fun z => by rw [z] at h; cases h
theorem ma_sl_len {G : ma_G} : ∀ {as : List ma_V} {vl : List Value}, ma_RS G as vl → as.all ma_nU = true → (lg_sl vl).length = (ma_slots as).length
  | [], vl, h, _ => by rw [ma_RS_nil h]; rfl
  | a :: as, vl, h, hn => by
    obtain ⟨w, ws, rfl, h1, h2⟩ := ma_RS_cons h
    rw [List.all_cons, Bool.and_eq_true] at hn
    have ih := ma_sl_len h2 hn.2
    have hc := ma_Rv_cat h1 (ma_nU_ne hn.1)
    show (List.flatMap _ (w :: ws)).length = _
    rw [List.flatMap_cons, List.length_append]
    cases ha : ma_c2 a with
    | true =>
      rw [if_pos (hc.mp ha)]
      simp only [ma_slots, ha, List.length_cons, List.length_nil]
      have : (lg_sl ws).length = (ma_slots as).length := ih
      unfold lg_sl at this
      omega
    | false =>
      rw [if_neg (fun z => by rw [hc.mpr z] at ha; cases ha)]
      simp only [ma_slots, ha, List.length_cons, List.length_nil]
      have : (lg_sl ws).length = (ma_slots as).length := ih
      unfold lg_sl at this
      omega
theorem ma_sl_at {G : ma_G} : ∀ {as : List ma_V} {vl : List Value}, ma_RS G as vl → as.all ma_nU = true → ∀ (i : Nat) (v : ma_V), (ma_slots as)[i]? = some v → v = ma_U ∨ ∃ w, (lg_sl vl)[i]? = some (.val w) ∧ ma_Rv G v w
  | [], vl, h, _, i, v, hv => by simp [ma_slots] at hv
  | a :: as, vl, h, hn, i, v, hv => by
    obtain ⟨w, ws, rfl, h1, h2⟩ := ma_RS_cons h
    rw [List.all_cons, Bool.and_eq_true] at hn
    have hc := ma_Rv_cat h1 (ma_nU_ne hn.1)
    have e : lg_sl (w :: ws) = (if w.category = 2 then [.val w, .second] else [.val w]) ++ lg_sl ws := by
      unfold lg_sl
      rw [List.flatMap_cons]
    rw [e]
    cases ha : ma_c2 a with
    | true =>
      rw [if_pos (hc.mp ha)]
      simp only [ma_slots, ha] at hv
      match i, hv with
      | 0, hv => cases hv; exact Or.inr ⟨w, rfl, h1⟩
      | 1, hv => cases hv; exact Or.inl rfl
      | i + 2, hv => exact ma_sl_at h2 hn.2 i v hv
    | false =>
      rw [if_neg (fun z => by rw [hc.mpr z] at ha; cases ha)]
      simp only [ma_slots, ha] at hv
      match i, hv with
      | 0, hv => cases hv; exact Or.inr ⟨w, rfl, h1⟩
      | i + 1, hv => exact ma_sl_at h2 hn.2 i v hv
theorem ma_entry_RL {G : ma_G} {as : List ma_V} {vl : List Value} {nL : Nat} (h : ma_RS G as vl) (hn : as.all ma_nU = true) (hl : (ma_slots as).length ≤ nL) : ma_RL G nL (ma_entry nL as) ((lg_sl vl ++ List.replicate (nL - (lg_sl vl).length) Slot.unset).toArray) := by
  have e := ma_sl_len h hn
  have h3 := lv_entry vl (n := nL) (by omega)
  refine ⟨?_, h3.1, h3.2.1, fun i v hv => ?_⟩
  · unfold ma_entry
    rw [List.length_append, List.length_replicate]
    omega
  · unfold ma_entry at hv
    by_cases hi : i < (ma_slots as).length
    · rw [List.getElem?_append_left hi] at hv
      rcases ma_sl_at h hn i v hv with q | ⟨w, q1, q2⟩
      · exact Or.inl q
      · refine Or.inr ⟨w, ?_, q2⟩
        rw [List.getElem?_toArray, List.getElem?_append_left (by omega)]
        exact q1
    · rw [List.getElem?_append_right (by omega)] at hv
      have := List.mem_of_getElem? hv
      exact Or.inl (List.eq_of_mem_replicate this)
/-- handlers -/
theorem ma_caught : ∀ (hh hc : List (Nat × Nat × Nat × Nat)) (pc e9 h9 : Nat), hh.length = hc.length → (∀ q ∈ hh.zip hc, q.1.1 = q.2.1 ∧ q.1.2.1 = q.2.2.1 ∧ q.1.2.2.1 = q.2.2.2.1 ∧ (q.2.2.2.2, q.1.2.2.2) ∈ ma_hl ∧ q.1.2.2.2 < 5 ∧ q.2.2.2.2 ≠ 0) → ma_catch hh pc e9 = some h9 →
    ∃ (pre : List ExceptionTableEntry) (x : ExceptionTableEntry) (suf : List ExceptionTableEntry), tableOf hc = pre ++ x :: suf ∧ (∀ z ∈ pre, covers z pc = false ∨ (z.catchType ≠ 0 ∧ ∃ c9, (z.catchType, c9) ∈ ma_hl ∧ c9 < 5 ∧ e9 ≠ c9)) ∧ covers x pc = true ∧ x.handlerPc = h9 ∧ (x.catchType, e9) ∈ ma_hl ∧ x.catchType ≠ 0
  | [], hc, pc, e9, h9, _, _, h => by cases h
  | a :: hh, [], pc, e9, h9, hl, _, h => by simp at hl
  | (f, t, hd, c9) :: hh, (f2, t2, hd2, ct) :: hc, pc, e9, h9, hl, hq, h => by
    obtain ⟨q1, q2, q3, q4, q5, q6⟩ := hq ((f, t, hd, c9), (f2, t2, hd2, ct)) (by rw [List.zip_cons_cons]; exact List.mem_cons_self)
    dsimp only at q1 q2 q3 q4 q5 q6
    subst q1; subst q2; subst q3
    unfold ma_catch at h
    by_cases hcc : f ≤ pc ∧ pc < t ∧ c9 = e9
    · rw [if_pos hcc] at h
      cases h
      obtain ⟨c1, c2, rfl⟩ := hcc
      exact ⟨[], ⟨f, t, hd, ct⟩, tableOf hc, rfl, fun z hz => (by cases hz), by simp [covers, c1, c2], rfl, q4, q6⟩
    · rw [if_neg hcc] at h
      obtain ⟨pre, x, suf, g1, g2, g3⟩ := ma_caught hh hc pc e9 h9 (by simpa using hl) (fun q hq9 => hq q (by rw [List.zip_cons_cons]; exact List.mem_cons_of_mem _ hq9)) h
      refine ⟨⟨f, t, hd, ct⟩ :: pre, x, suf, by show ⟨f, t, hd, ct⟩ :: tableOf hc = _; rw [g1]; rfl, fun z hz => ?_, g3⟩
      rcases List.mem_cons.mp hz with rfl | hz
      · by_cases hcv : f ≤ pc ∧ pc < t
        · exact Or.inr ⟨q6, c9, q4, q5, fun z => hcc ⟨hcv.1, hcv.2, z.symm⟩⟩
        · refine Or.inl ?_
          simp only [covers, Bool.and_eq_false_iff, decide_eq_false_iff_not]
          by_cases z : f ≤ pc
          · exact Or.inr (fun z2 => hcv ⟨z, z2⟩)
          · exact Or.inl z
      · exact g2 z hz
def ma_hok (y : Nat) : Bool := decide ((ma_hh y).length = (ma_hc y).length) && ((ma_hh y).zip (ma_hc y)).all fun q => decide (q.1.1 = q.2.1 ∧ q.1.2.1 = q.2.2.1 ∧ q.1.2.2.1 = q.2.2.2.1 ∧ (q.2.2.2.2, q.1.2.2.2) ∈ ma_hl ∧ q.1.2.2.2 < 5 ∧ q.2.2.2.2 ≠ 0)
theorem ma_hok_all : ∀ y, y < ma_nM → ma_hok y = true := by decide +kernel
theorem ma_hcls : ∀ y, y < ma_nM → (ma_hh y ≠ [] → (ma_y y).cls = "LatticefitLaw") := by decide +kernel
theorem ma_cst_ok : ∀ e, e < 5 → (ma_ex e, ma_ex e) ∈ ma_cst := by decide +kernel
theorem ma_ret_ok : ∀ y, y < ma_nM → (ma_rk y = 0 → ma_ret y = none) ∧ (ma_rk y = 1 → ma_ret y = some .int) ∧ (ma_rk y = 2 → ma_ret y = some .boolean) ∧ (ma_rk y = 3 → ma_ret y = some .char) ∧ (ma_rk y = 4 → ma_ret y = some .long) ∧ (ma_rk y = 5 → ma_ret y = some .float) ∧ (ma_rk y = 6 → ma_ret y = some .double) := by decide +kernel
section BOD
variable {p : Program} {l : Launch} {e : Env} {R : Room} {s : State} {m : MethodId} {args : Array Value} {below : List Frame} {meth : Method} {c : Code} {Q : State → Prop} {G : ma_G} {cc : ByteArray} {o nL c0 s0 pc k pp : Nat} {qq : Int} {ls st : List ma_V} {μ : ma_M} {O : ma_O} {E : ma_E} {K : ma_K} {J : ma_J} {D : ma_Dn}
theorem ma_hX_of {y : Nat} (hy : y < ma_nM) (C : ma_Cx p s m args c G cc o nL) (ho : ma_own o = (ma_y y).cls) (hE : E.2.1 = ma_hh y) (hT : c.exceptionTable.toList = tableOf (ma_hc y)) : ma_hX p l e R s m args below meth c Q E := by
  intro pc e9 h9 hc he H locs cells slots ls rest q ce h1 h2 h3 h4
  rw [hE] at hc
  have hok := ma_hok_all y hy
  unfold ma_hok at hok
  rw [Bool.and_eq_true, decide_eq_true_eq] at hok
  obtain ⟨pre, x, suf, g1, g2, g3, g4, g5, g6⟩ := ma_caught _ _ pc e9 h9 hok.1 (fun q hq => by simpa only [decide_eq_true_eq] using List.all_eq_true.mp hok.2 q hq) hc
  have hne : ma_hh y ≠ [] := fun z => by rw [z] at hc; cases hc
  have hcl := ma_hcls y hy hne
  have hown : s.vm.findClass "LatticefitLaw" = some m.cls := by rw [← hcl, ← ho]; exact C.2.2.2.1
  have hw : ∀ ct c9, (ct, c9) ∈ ma_hl → (Cond.classLink "LatticefitLaw" ct (ma_ex c9)).before args s = true := fun ct c9 hm => C.2.2.2.2.1 _ (ma_WG_in (ma_hl_in _ (List.mem_map.mpr ⟨_, hm, rfl⟩)) (ma_hl_good _ (List.mem_map.mpr ⟨_, hm, rfl⟩)))
  refine vx_catch hown pre x suf (by rw [hT, g1]) (fun z hz => ?_) g3 g6 (hw _ _ g5) (va_Nw.use rfl (C.2.2.2.2.2.2.2.2.1 _ (List.mem_append_right _ (List.mem_append_left _ (List.mem_map.mpr ⟨_, ma_cst_ok e9 he, rfl⟩))))) h1 h2 h3 (by rw [g4]; exact h4)
  rcases g2 z hz with q | ⟨q1, c9, q2, q3, q4⟩
  · exact Or.inl q
  · exact Or.inr ⟨q1, _, hw _ _ q2, C.2.2.2.2.2.2.2.2.2.2.2.2 e9 c9 he q3 q4⟩
theorem ma_HR_grow {μ : ma_M} {H H1 : Heap} (h : ma_HR G s μ H) (hq : ∀ q : Nat, q < H.size → H1[q]? = H[q]?) : ma_HR G s μ H1 := fun k r hv => by
  obtain ⟨h1, h2, h3, h4⟩ := h k r hv
  have lt : ∀ {cell : Cell}, H[G.ad k r]? = some cell → H1[G.ad k r]? = some cell := fun {cell} z => by
    rw [hq _ (Array.getElem?_eq_some_iff.mp z).1]; exact z
  refine ⟨fun z => ⟨lt (h1 z).1, (h1 z).2⟩, fun z => lt (h2 z), fun z => ?_, fun ci z => ?_⟩
  · obtain ⟨cell, q1, q2⟩ := h3 z
    exact ⟨cell, lt q1, q2⟩
  · obtain ⟨⟨cell, q1, q2⟩, q3⟩ := h4 ci z
    exact ⟨⟨cell, lt q1, q2⟩, q3⟩
end BOD
end
section
/-! the blocks of the methods, written by a program from their bytes -/
def mb_Latticefit_isRouted : ma_Tb := [(0, [true], (1, .aload_n 0, 0, 0) :: (3, .getfield 87, 10, 10) :: (1, .iconst (2), 0, 2) :: (3, .if_icmp .lt (7), 0, 0) :: (1, .iconst (1), 0, 1) :: (3, .goto (4), 0, 0) :: []),
  (12, [false], (1, .iconst (0), 0, 0) :: []),
  (13, [false], (1, .ireturn, 0, 0) :: [])]
def mt_Latticefit_isConsistent_7 : List ma_AI := (3, .ifCond .ne (5), 0, 0) :: (1, .iconst (0), 0, 0) :: (1, .ireturn, 0, 0) :: []
def mt_Latticefit_isConsistent_27 : List ma_AI := (3, .ifCond .ne (5), 0, 0) :: (1, .iconst (0), 0, 0) :: (1, .ireturn, 0, 0) :: []
def mt_Latticefit_isConsistent_47 : List ma_AI := (3, .ifCond .ne (7), 0, 0) :: []
def mb_Latticefit_isConsistent : ma_Tb := [(0, [true], (1, .aload_n 0, 0, 0) :: (3, .getfield 10, 10, 0) :: (3, .invokevirtual 341, 2, 3) :: mt_Latticefit_isConsistent_7),
  (12, [true], (1, .aload_n 0, 0, 0) :: (3, .getfield 87, 10, 10) :: (1, .iconst (1), 0, 1) :: (3, .if_icmp .lt (15), 0, 0) :: (1, .aload_n 0, 0, 0) :: (3, .getfield 37, 10, 3) :: (3, .invokevirtual 344, 5, 6) :: mt_Latticefit_isConsistent_27),
  (32, [true], (1, .aload_n 0, 0, 0) :: (3, .getfield 87, 10, 10) :: (1, .iconst (2), 0, 2) :: (3, .if_icmp .lt (13), 0, 0) :: (1, .aload_n 0, 0, 0) :: (3, .getfield 44, 10, 4) :: (3, .invokevirtual 224, 6, 7) :: mt_Latticefit_isConsistent_47),
  (50, [false], (1, .iconst (1), 0, 1) :: (3, .goto (4), 0, 0) :: []),
  (54, [false], (1, .iconst (0), 0, 0) :: []),
  (55, [false], (1, .ireturn, 0, 0) :: [])]
def mt_Circuit_isSound_15 : List ma_AI := (3, .ifCond .eq (25), 0, 0) :: (1, .aload_n 0, 0, 0) :: (3, .getfield 15, 3, 1) :: (1, .iload_n 1, 0, 0) :: (1, .iaload, 0, 0) :: (1, .iload_n 1, 0, 0) :: (3, .if_icmp .ge (13), 0, 0) :: (1, .aload_n 0, 0, 0) :: (3, .getfield 19, 3, 2) :: (1, .iload_n 1, 0, 0) :: (1, .iaload, 0, 0) :: (1, .iload_n 1, 0, 0) :: (3, .if_icmp .lt (5), 0, 0) :: []
def mt_Circuit_isSound_61 : List ma_AI := (3, .ifCond .ne (5), 0, 0) :: (1, .iconst (0), 0, 0) :: (1, .ireturn, 0, 0) :: []
def mt_Circuit_isSound_92 : List ma_AI := (3, .ifCond .ne (5), 0, 0) :: (1, .iconst (0), 0, 0) :: (1, .ireturn, 0, 0) :: []
def mb_Circuit_isSound : ma_Tb := [(0, [true, false], (1, .iconst (0), 0, 0) :: (1, .istore_n 1, 0, 0) :: []),
  (2, [true, true], (1, .iload_n 1, 0, 0) :: (1, .aload_n 0, 0, 0) :: (3, .getfield 43, 3, 10) :: (3, .if_icmp .ge (65), 0, 0) :: (1, .aload_n 0, 0, 0) :: (1, .iload_n 1, 0, 0) :: (3, .invokevirtual 57, 3, 3) :: mt_Circuit_isSound_15),
  (38, [false, false], (1, .iconst (0), 0, 0) :: (1, .ireturn, 0, 0) :: []),
  (40, [true, true], (1, .aload_n 0, 0, 0) :: (3, .getfield 9, 3, 0) :: (1, .iload_n 1, 0, 0) :: (1, .caload, 0, 0) :: (2, .bipush (114), 0, 114) :: (3, .if_icmp .ne (18), 0, 0) :: (1, .aload_n 0, 0, 0) :: (1, .aload_n 0, 0, 0) :: (3, .getfield 22, 3, 3) :: (1, .iload_n 1, 0, 0) :: (1, .iaload, 0, 0) :: (3, .invokevirtual 61, 4, 3) :: mt_Circuit_isSound_61),
  (66, [true, true], (3, .iinc 1 (1), 0, 0) :: (3, .goto (-67), 0, 0) :: []),
  (72, [true, false], (1, .iconst (0), 0, 0) :: (1, .istore_n 1, 0, 0) :: []),
  (74, [true, true], (1, .iload_n 1, 0, 0) :: (1, .aload_n 0, 0, 0) :: (3, .getfield 53, 3, 13) :: (3, .if_icmp .ge (24), 0, 0) :: (1, .aload_n 0, 0, 0) :: (1, .aload_n 0, 0, 0) :: (3, .getfield 40, 3, 9) :: (1, .iload_n 1, 0, 0) :: (1, .iaload, 0, 0) :: (3, .invokevirtual 61, 4, 3) :: mt_Circuit_isSound_92),
  (97, [true, true], (3, .iinc 1 (1), 0, 0) :: (3, .goto (-26), 0, 0) :: []),
  (103, [false, false], (1, .iconst (1), 0, 1) :: (1, .ireturn, 0, 0) :: [])]
def mb_Circuit_isGate : ma_Tb := [(0, [true, true], (1, .aload_n 0, 0, 0) :: (3, .getfield 9, 3, 0) :: (1, .iload_n 1, 0, 0) :: (1, .caload, 0, 0) :: (2, .bipush (105), 0, 105) :: (3, .if_icmp .eq (18), 0, 0) :: (1, .aload_n 0, 0, 0) :: (3, .getfield 9, 3, 0) :: (1, .iload_n 1, 0, 0) :: (1, .caload, 0, 0) :: (2, .bipush (114), 0, 114) :: (3, .if_icmp .eq (7), 0, 0) :: (1, .iconst (1), 0, 1) :: (3, .goto (4), 0, 0) :: []),
  (26, [false, false], (1, .iconst (0), 0, 0) :: []),
  (27, [false, false], (1, .ireturn, 0, 0) :: [])]
def mb_Circuit_isNode : ma_Tb := [(0, [true, true], (1, .iload_n 1, 0, 0) :: (3, .ifCond .lt (15), 0, 0) :: (1, .iload_n 1, 0, 0) :: (1, .aload_n 0, 0, 0) :: (3, .getfield 43, 3, 10) :: (3, .if_icmp .ge (7), 0, 0) :: (1, .iconst (1), 0, 1) :: (3, .goto (4), 0, 0) :: []),
  (16, [false, false], (1, .iconst (0), 0, 0) :: []),
  (17, [false, false], (1, .ireturn, 0, 0) :: [])]
def mb_Places_isSound : ma_Tb := [(0, [true, false, false, false], (1, .iconst (0), 0, 0) :: (1, .istore_n 1, 0, 0) :: (1, .iconst (0), 0, 0) :: (1, .istore_n 2, 0, 0) :: []),
  (4, [true, true, true, false], (1, .iload_n 2, 0, 0) :: (2, .bipush (36), 0, 36) :: (3, .if_icmp .ge (55), 0, 0) :: (1, .aload_n 0, 0, 0) :: (3, .getfield 15, 6, 1) :: (1, .iload_n 2, 0, 0) :: (1, .iaload, 0, 0) :: (1, .istore_n 3, 0, 0) :: (1, .iload_n 3, 0, 0) :: (1, .aload_n 0, 0, 0) :: (3, .getfield 41, 6, 9) :: (3, .getfield 51, 0, 7) :: (3, .if_icmp .ge (17), 0, 0) :: (1, .iload_n 3, 0, 0) :: (3, .ifCond .lt (15), 0, 0) :: (1, .aload_n 0, 0, 0) :: (3, .getfield 9, 6, 0) :: (1, .iload_n 3, 0, 0) :: (1, .iaload, 0, 0) :: (1, .iload_n 2, 0, 0) :: (3, .if_icmp .eq (5), 0, 0) :: []),
  (42, [false, false, false, false], (1, .iconst (0), 0, 0) :: (1, .ireturn, 0, 0) :: []),
  (44, [true, true, true, true], (1, .iload_n 1, 0, 0) :: (1, .iload_n 3, 0, 0) :: (3, .ifCond .lt (7), 0, 0) :: (1, .iconst (1), 0, 1) :: (3, .goto (4), 0, 0) :: []),
  (53, [true, false, true, false], (1, .iconst (0), 0, 0) :: []),
  (54, [true, false, true, false], (1, .iadd, 0, 0) :: (1, .istore_n 1, 0, 0) :: (3, .iinc 2 (1), 0, 0) :: (3, .goto (-55), 0, 0) :: []),
  (62, [true, true, false, false], (1, .iload_n 1, 0, 0) :: (1, .aload_n 0, 0, 0) :: (3, .getfield 41, 6, 9) :: (3, .getfield 51, 0, 7) :: (3, .if_icmp .ne (7), 0, 0) :: (1, .iconst (1), 0, 1) :: (3, .goto (4), 0, 0) :: []),
  (77, [false, false, false, false], (1, .iconst (0), 0, 0) :: []),
  (78, [false, false, false, false], (1, .ireturn, 0, 0) :: [])]
def mb_Routes_isCrowded : ma_Tb := [(0, [true, false], (1, .iconst (0), 0, 0) :: (1, .istore_n 1, 0, 0) :: []),
  (2, [true, true], (1, .iload_n 1, 0, 0) :: (2, .bipush (84), 0, 84) :: (3, .if_icmp .ge (21), 0, 0) :: (1, .aload_n 0, 0, 0) :: (3, .getfield 20, 7, 2) :: (1, .iload_n 1, 0, 0) :: (1, .iaload, 0, 0) :: (1, .iconst (2), 0, 2) :: (3, .if_icmp .le (5), 0, 0) :: (1, .iconst (1), 0, 1) :: (1, .ireturn, 0, 0) :: []),
  (20, [true, true], (3, .iinc 1 (1), 0, 0) :: (3, .goto (-21), 0, 0) :: []),
  (26, [false, false], (1, .iconst (0), 0, 0) :: (1, .ireturn, 0, 0) :: [])]
def mt_LatticefitLaw_map_4 : List ma_AI := (1, .ireturn, 0, 0) :: []
def mb_LatticefitLaw_map : ma_Tb := [(0, [true, false], (1, .aload_n 0, 0, 0) :: (3, .invokevirtual 40, 8, 10) :: mt_LatticefitLaw_map_4),
  (5, [false, false], (1, .astore_n 1, 0, 0) :: (2, .ldc 17, 0, (-900001)) :: (1, .ireturn, 0, 0) :: []),
  (9, [false, false], (1, .astore_n 1, 0, 0) :: (2, .ldc 24, 0, (-900002)) :: (1, .ireturn, 0, 0) :: [])]
def mt_Latticefit_map_36 : List ma_AI := (1, .aload_n 0, 0, 0) :: (3, .getfield 28, 10, 2) :: (3, .getfield 147, 0, 7) :: (2, .bipush (36), 0, 36) :: (3, .if_icmp .le (11), 0, 0) :: (8, .athrow, 1, 1) :: []
def mt_Latticefit_map_25 : List ma_AI := (1, .aload_n 0, 0, 0) :: (3, .getfield 28, 10, 2) :: (1, .aload_n 0, 0, 0) :: (3, .getfield 21, 10, 1) :: (3, .invokevirtual 143, 14, 0) :: mt_Latticefit_map_36
def mt_Latticefit_map_70 : List ma_AI := (1, .aload_n 0, 0, 0) :: (1, .iconst (1), 0, 1) :: (3, .putfield 87, 10, 10) :: (1, .aload_n 0, 0, 0) :: (3, .getfield 28, 10, 2) :: (3, .getfield 147, 0, 7) :: (1, .ireturn, 0, 0) :: []
def mt_Latticefit_map_63 : List ma_AI := (1, .aload_n 0, 0, 0) :: (3, .getfield 44, 10, 4) :: (3, .invokevirtual 156, 24, 7) :: mt_Latticefit_map_70
def mb_Latticefit_map : ma_Tb := [(0, [true], (1, .aload_n 0, 0, 0) :: (3, .getfield 10, 10, 0) :: (3, .getfield 133, 3, 13) :: (3, .ifCond .ne (11), 0, 0) :: (8, .athrow, 0, 0) :: []),
  (18, [true], (1, .aload_n 0, 0, 0) :: (3, .getfield 21, 10, 1) :: (3, .invokevirtual 140, 9, 4) :: mt_Latticefit_map_25),
  (56, [true], (1, .aload_n 0, 0, 0) :: (3, .getfield 37, 10, 3) :: (3, .invokevirtual 153, 23, 6) :: mt_Latticefit_map_63)]
def mt_Cuts_findAll_43 : List ma_AI := (1, .aload_n 0, 0, 0) :: (3, .getfield 25, 4, 3) :: (1, .iload_n 1, 0, 0) :: (1, .iconst (1), 0, 1) :: (1, .aload_n 0, 0, 0) :: (3, .getfield 18, 4, 1) :: (1, .iload_n 1, 0, 0) :: (1, .aaload, 0, 0) :: (1, .iconst (0), 0, 0) :: (1, .iaload, 0, 0) :: (1, .iadd, 0, 0) :: (1, .iastore, 0, 0) :: []
def mt_Cuts_findAll_35 : List ma_AI := (3, .ifCond .eq (24), 0, 0) :: (1, .aload_n 0, 0, 0) :: (1, .iload_n 1, 0, 0) :: (3, .invokevirtual 42, 10, 4) :: mt_Cuts_findAll_43
def mb_Cuts_findAll : ma_Tb := [(0, [true, false], (1, .iconst (0), 0, 0) :: (1, .istore_n 1, 0, 0) :: []),
  (2, [true, true], (1, .iload_n 1, 0, 0) :: (1, .aload_n 0, 0, 0) :: (3, .getfield 28, 4, 4) :: (3, .getfield 32, 3, 10) :: (3, .if_icmp .ge (100), 0, 0) :: (1, .aload_n 0, 0, 0) :: (3, .getfield 21, 4, 2) :: (1, .iload_n 1, 0, 0) :: (1, .iconst (0), 0, 0) :: (1, .iastore, 0, 0) :: (1, .aload_n 0, 0, 0) :: (3, .getfield 25, 4, 3) :: (1, .iload_n 1, 0, 0) :: (1, .iconst (0), 0, 0) :: (1, .iastore, 0, 0) :: (1, .aload_n 0, 0, 0) :: (3, .getfield 28, 4, 4) :: (1, .iload_n 1, 0, 0) :: (3, .invokevirtual 38, 3, 3) :: mt_Cuts_findAll_35),
  (59, [true, true], (1, .aload_n 0, 0, 0) :: (3, .getfield 11, 4, 0) :: (1, .iload_n 1, 0, 0) :: (1, .aaload, 0, 0) :: (1, .aload_n 0, 0, 0) :: (3, .getfield 21, 4, 2) :: (1, .iload_n 1, 0, 0) :: (1, .iaload, 0, 0) :: (1, .lconst 1, 0, 1) :: (1, .iload_n 1, 0, 0) :: (1, .lshl, 0, 0) :: (1, .lastore, 0, 0) :: (1, .aload_n 0, 0, 0) :: (3, .getfield 18, 4, 1) :: (1, .iload_n 1, 0, 0) :: (1, .aaload, 0, 0) :: (1, .aload_n 0, 0, 0) :: (3, .getfield 21, 4, 2) :: (1, .iload_n 1, 0, 0) :: (1, .iaload, 0, 0) :: (1, .aload_n 0, 0, 0) :: (3, .getfield 25, 4, 3) :: (1, .iload_n 1, 0, 0) :: (1, .iaload, 0, 0) :: (1, .iastore, 0, 0) :: (1, .aload_n 0, 0, 0) :: (3, .getfield 21, 4, 2) :: (1, .iload_n 1, 0, 0) :: (1, .dup2, 0, 0) :: (1, .iaload, 0, 0) :: (1, .iconst (1), 0, 1) :: (1, .iadd, 0, 0) :: (1, .iastore, 0, 0) :: (3, .iinc 1 (1), 0, 0) :: (3, .goto (-105), 0, 0) :: []),
  (110, [false, false], (1, .return_, 0, 0) :: [])]
def mt_Cuts_offerAll_83 : List ma_AI := (3, .goto (68), 0, 0) :: []
def mt_Cuts_offerAll_145 : List ma_AI := (3, .iinc 6 (1), 0, 0) :: (3, .goto (-59), 0, 0) :: []
def mb_Cuts_offerAll : ma_Tb := [(0, [true, true, false, false, false, false, false], (1, .aload_n 0, 0, 0) :: (3, .getfield 28, 4, 4) :: (3, .getfield 46, 3, 1) :: (1, .iload_n 1, 0, 0) :: (1, .iaload, 0, 0) :: (1, .istore_n 2, 0, 0) :: (1, .aload_n 0, 0, 0) :: (3, .getfield 28, 4, 4) :: (3, .getfield 49, 3, 2) :: (1, .iload_n 1, 0, 0) :: (1, .iaload, 0, 0) :: (1, .istore_n 3, 0, 0) :: (1, .aload_n 0, 0, 0) :: (3, .getfield 28, 4, 4) :: (3, .getfield 52, 3, 0) :: (1, .iload_n 1, 0, 0) :: (1, .caload, 0, 0) :: (2, .bipush (110), 0, 110) :: (3, .if_icmp .ne (7), 0, 0) :: (1, .iconst (1), 0, 1) :: (3, .goto (4), 0, 0) :: []),
  (38, [true, true, true, true, false, false, false], (1, .iconst (0), 0, 0) :: []),
  (39, [true, true, true, true, false, false, false], (2, .istore 4, 0, 0) :: (1, .iconst (0), 0, 0) :: (2, .istore 5, 0, 0) :: []),
  (44, [true, true, true, true, true, true, false], (2, .iload 5, 0, 0) :: (1, .aload_n 0, 0, 0) :: (3, .getfield 21, 4, 2) :: (1, .iload_n 2, 0, 0) :: (1, .iaload, 0, 0) :: (3, .if_icmp .ge (105), 0, 0) :: (2, .iload 4, 0, 0) :: (3, .ifCond .eq (29), 0, 0) :: (1, .aload_n 0, 0, 0) :: (1, .iload_n 1, 0, 0) :: (1, .aload_n 0, 0, 0) :: (3, .getfield 11, 4, 0) :: (1, .iload_n 2, 0, 0) :: (1, .aaload, 0, 0) :: (2, .iload 5, 0, 0) :: (1, .laload, 0, 0) :: (1, .aload_n 0, 0, 0) :: (3, .getfield 18, 4, 1) :: (1, .iload_n 2, 0, 0) :: (1, .aaload, 0, 0) :: (2, .iload 5, 0, 0) :: (1, .iaload, 0, 0) :: (3, .invokevirtual 56, 11, 4) :: mt_Cuts_offerAll_83),
  (86, [true, true, true, true, true, true, false], (1, .iconst (0), 0, 0) :: (2, .istore 6, 0, 0) :: []),
  (89, [true, true, true, true, true, true, true], (2, .iload 6, 0, 0) :: (1, .aload_n 0, 0, 0) :: (3, .getfield 21, 4, 2) :: (1, .iload_n 3, 0, 0) :: (1, .iaload, 0, 0) :: (3, .if_icmp .ge (54), 0, 0) :: (1, .aload_n 0, 0, 0) :: (1, .iload_n 1, 0, 0) :: (1, .aload_n 0, 0, 0) :: (3, .getfield 11, 4, 0) :: (1, .iload_n 2, 0, 0) :: (1, .aaload, 0, 0) :: (2, .iload 5, 0, 0) :: (1, .laload, 0, 0) :: (1, .aload_n 0, 0, 0) :: (3, .getfield 11, 4, 0) :: (1, .iload_n 3, 0, 0) :: (1, .aaload, 0, 0) :: (2, .iload 6, 0, 0) :: (1, .laload, 0, 0) :: (1, .lor, 0, 0) :: (1, .aload_n 0, 0, 0) :: (3, .getfield 18, 4, 1) :: (1, .iload_n 2, 0, 0) :: (1, .aaload, 0, 0) :: (2, .iload 5, 0, 0) :: (1, .iaload, 0, 0) :: (1, .aload_n 0, 0, 0) :: (3, .getfield 18, 4, 1) :: (1, .iload_n 3, 0, 0) :: (1, .aaload, 0, 0) :: (2, .iload 6, 0, 0) :: (1, .iaload, 0, 0) :: (3, .invokestatic 60, 10002, 0) :: (3, .invokevirtual 56, 11, 4) :: mt_Cuts_offerAll_145),
  (151, [true, true, true, true, true, true, false], (3, .iinc 5 (1), 0, 0) :: (3, .goto (-110), 0, 0) :: []),
  (157, [false, false, false, false, false, false, false], (1, .return_, 0, 0) :: [])]
def mt_Cuts_offer_4 : List ma_AI := (1, .iconst (4), 0, 4) :: (3, .if_icmp .le (4), 0, 0) :: (1, .return_, 0, 0) :: []
def mt_Cuts_offer_33 : List ma_AI := (3, .ifCond .eq (9), 0, 0) :: (3, .iinc 5 (1), 0, 0) :: (3, .goto (-27), 0, 0) :: []
def mb_Cuts_offer : ma_Tb := [(0, [true, true, true, false, true, false, false, false], (1, .lload_n 2, 0, 0) :: (3, .invokestatic 66, 12, 0) :: mt_Cuts_offer_4),
  (9, [true, true, true, false, true, false, false, false], (1, .iconst (0), 0, 0) :: (2, .istore 5, 0, 0) :: []),
  (12, [true, true, true, false, true, true, false, false], (2, .iload 5, 0, 0) :: (1, .aload_n 0, 0, 0) :: (3, .getfield 21, 4, 2) :: (1, .iload_n 1, 0, 0) :: (1, .iaload, 0, 0) :: (3, .if_icmp .ge (22), 0, 0) :: (1, .aload_n 0, 0, 0) :: (1, .iload_n 1, 0, 0) :: (2, .iload 5, 0, 0) :: (1, .lload_n 2, 0, 0) :: (2, .iload 4, 0, 0) :: (3, .invokevirtual 72, 13, 4) :: mt_Cuts_offer_33),
  (42, [true, true, true, false, true, true, false, false], (2, .iload 5, 0, 0) :: (1, .aload_n 0, 0, 0) :: (3, .getfield 21, 4, 2) :: (1, .iload_n 1, 0, 0) :: (1, .iaload, 0, 0) :: (3, .if_icmp .ge (21), 0, 0) :: (1, .aload_n 0, 0, 0) :: (3, .getfield 11, 4, 0) :: (1, .iload_n 1, 0, 0) :: (1, .aaload, 0, 0) :: (2, .iload 5, 0, 0) :: (1, .laload, 0, 0) :: (1, .lload_n 2, 0, 0) :: (1, .lcmp, 0, 0) :: (3, .ifCond .ne (7), 0, 0) :: (1, .iconst (1), 0, 1) :: (3, .goto (4), 0, 0) :: []),
  (71, [true, true, true, false, true, true, false, false], (1, .iconst (0), 0, 0) :: []),
  (72, [true, true, true, false, true, true, false, false], (2, .istore 6, 0, 0) :: (2, .iload 6, 0, 0) :: (3, .ifCond .ne (10), 0, 0) :: (2, .iload 5, 0, 0) :: (2, .bipush (6), 0, 6) :: (3, .if_icmp .lt (4), 0, 0) :: []),
  (86, [false, false, false, false, false, false, false, false], (1, .return_, 0, 0) :: []),
  (87, [true, true, true, false, true, true, false, false], (1, .aload_n 0, 0, 0) :: (3, .getfield 21, 4, 2) :: (1, .iload_n 1, 0, 0) :: (1, .iaload, 0, 0) :: (2, .bipush (6), 0, 6) :: (3, .if_icmp .ge (13), 0, 0) :: (1, .aload_n 0, 0, 0) :: (3, .getfield 21, 4, 2) :: (1, .iload_n 1, 0, 0) :: (1, .dup2, 0, 0) :: (1, .iaload, 0, 0) :: (1, .iconst (1), 0, 1) :: (1, .iadd, 0, 0) :: (1, .iastore, 0, 0) :: []),
  (108, [true, true, true, false, true, true, false, false], (1, .aload_n 0, 0, 0) :: (3, .getfield 21, 4, 2) :: (1, .iload_n 1, 0, 0) :: (1, .iaload, 0, 0) :: (1, .iconst (1), 0, 1) :: (1, .isub, 0, 0) :: (2, .istore 7, 0, 0) :: []),
  (118, [true, true, true, false, true, true, false, true], (2, .iload 7, 0, 0) :: (2, .iload 5, 0, 0) :: (3, .if_icmp .le (49), 0, 0) :: (1, .aload_n 0, 0, 0) :: (3, .getfield 11, 4, 0) :: (1, .iload_n 1, 0, 0) :: (1, .aaload, 0, 0) :: (2, .iload 7, 0, 0) :: (1, .aload_n 0, 0, 0) :: (3, .getfield 11, 4, 0) :: (1, .iload_n 1, 0, 0) :: (1, .aaload, 0, 0) :: (2, .iload 7, 0, 0) :: (1, .iconst (1), 0, 1) :: (1, .isub, 0, 0) :: (1, .laload, 0, 0) :: (1, .lastore, 0, 0) :: (1, .aload_n 0, 0, 0) :: (3, .getfield 18, 4, 1) :: (1, .iload_n 1, 0, 0) :: (1, .aaload, 0, 0) :: (2, .iload 7, 0, 0) :: (1, .aload_n 0, 0, 0) :: (3, .getfield 18, 4, 1) :: (1, .iload_n 1, 0, 0) :: (1, .aaload, 0, 0) :: (2, .iload 7, 0, 0) :: (1, .iconst (1), 0, 1) :: (1, .isub, 0, 0) :: (1, .iaload, 0, 0) :: (1, .iastore, 0, 0) :: (3, .iinc 7 (-1), 0, 0) :: (3, .goto (-50), 0, 0) :: []),
  (171, [true, true, true, false, true, true, false, false], (1, .aload_n 0, 0, 0) :: (3, .getfield 11, 4, 0) :: (1, .iload_n 1, 0, 0) :: (1, .aaload, 0, 0) :: (2, .iload 5, 0, 0) :: (1, .lload_n 2, 0, 0) :: (1, .lastore, 0, 0) :: (1, .aload_n 0, 0, 0) :: (3, .getfield 18, 4, 1) :: (1, .iload_n 1, 0, 0) :: (1, .aaload, 0, 0) :: (2, .iload 5, 0, 0) :: (2, .iload 4, 0, 0) :: (1, .iastore, 0, 0) :: (1, .return_, 0, 0) :: [])]
def mb_Long_bitCount : ma_Tb := [(0, [true, false], (1, .lload_n 0, 0, 0) :: (1, .lload_n 0, 0, 0) :: (1, .iconst (1), 0, 1) :: (1, .lushr, 0, 0) :: (3, .ldc2_w 314, 0, 6148914691236517205) :: (1, .land, 0, 0) :: (1, .lsub, 0, 0) :: (1, .lstore_n 0, 0, 0) :: (1, .lload_n 0, 0, 0) :: (3, .ldc2_w 316, 0, 3689348814741910323) :: (1, .land, 0, 0) :: (1, .lload_n 0, 0, 0) :: (1, .iconst (2), 0, 2) :: (1, .lushr, 0, 0) :: (3, .ldc2_w 316, 0, 3689348814741910323) :: (1, .land, 0, 0) :: (1, .ladd, 0, 0) :: (1, .lstore_n 0, 0, 0) :: (1, .lload_n 0, 0, 0) :: (1, .lload_n 0, 0, 0) :: (1, .iconst (4), 0, 4) :: (1, .lushr, 0, 0) :: (1, .ladd, 0, 0) :: (3, .ldc2_w 318, 0, 1085102592571150095) :: (1, .land, 0, 0) :: (1, .lstore_n 0, 0, 0) :: (1, .lload_n 0, 0, 0) :: (1, .lload_n 0, 0, 0) :: (2, .bipush (8), 0, 8) :: (1, .lushr, 0, 0) :: (1, .ladd, 0, 0) :: (1, .lstore_n 0, 0, 0) :: (1, .lload_n 0, 0, 0) :: (1, .lload_n 0, 0, 0) :: (2, .bipush (16), 0, 16) :: (1, .lushr, 0, 0) :: (1, .ladd, 0, 0) :: (1, .lstore_n 0, 0, 0) :: (1, .lload_n 0, 0, 0) :: (1, .lload_n 0, 0, 0) :: (2, .bipush (32), 0, 32) :: (1, .lushr, 0, 0) :: (1, .ladd, 0, 0) :: (1, .lstore_n 0, 0, 0) :: (1, .lload_n 0, 0, 0) :: (1, .l2i, 0, 0) :: (2, .bipush (127), 0, 127) :: (1, .iand, 0, 0) :: (1, .ireturn, 0, 0) :: [])]
def mt_Cuts_isBehind_49 : List ma_AI := (2, .istore 7, 0, 0) :: (2, .iload 6, 0, 0) :: (2, .iload 7, 0, 0) :: (3, .if_icmp .eq (16), 0, 0) :: (2, .iload 6, 0, 0) :: (2, .iload 7, 0, 0) :: (3, .if_icmp .ge (7), 0, 0) :: (1, .iconst (1), 0, 1) :: (3, .goto (4), 0, 0) :: []
def mt_Cuts_isBehind_43 : List ma_AI := (2, .istore 6, 0, 0) :: (1, .lload_n 3, 0, 0) :: (3, .invokestatic 66, 12, 0) :: mt_Cuts_isBehind_49
def mb_Cuts_isBehind : ma_Tb := [(0, [true, true, true, true, false, true, false, false], (1, .aload_n 0, 0, 0) :: (3, .getfield 18, 4, 1) :: (1, .iload_n 1, 0, 0) :: (1, .aaload, 0, 0) :: (1, .iload_n 2, 0, 0) :: (1, .iaload, 0, 0) :: (2, .iload 5, 0, 0) :: (3, .if_icmp .eq (22), 0, 0) :: (1, .aload_n 0, 0, 0) :: (3, .getfield 18, 4, 1) :: (1, .iload_n 1, 0, 0) :: (1, .aaload, 0, 0) :: (1, .iload_n 2, 0, 0) :: (1, .iaload, 0, 0) :: (2, .iload 5, 0, 0) :: (3, .if_icmp .ge (7), 0, 0) :: (1, .iconst (1), 0, 1) :: (3, .goto (4), 0, 0) :: []),
  (30, [false, false, false, false, false, false, false, false], (1, .iconst (0), 0, 0) :: []),
  (31, [false, false, false, false, false, false, false, false], (1, .ireturn, 0, 0) :: []),
  (32, [true, true, true, true, false, false, false, false], (1, .aload_n 0, 0, 0) :: (3, .getfield 11, 4, 0) :: (1, .iload_n 1, 0, 0) :: (1, .aaload, 0, 0) :: (1, .iload_n 2, 0, 0) :: (1, .laload, 0, 0) :: (3, .invokestatic 66, 12, 0) :: mt_Cuts_isBehind_43),
  (69, [false, false, false, false, false, false, false, false], (1, .iconst (0), 0, 0) :: []),
  (70, [false, false, false, false, false, false, false, false], (1, .ireturn, 0, 0) :: []),
  (71, [true, true, true, true, false, false, false, false], (1, .aload_n 0, 0, 0) :: (3, .getfield 11, 4, 0) :: (1, .iload_n 1, 0, 0) :: (1, .aaload, 0, 0) :: (1, .iload_n 2, 0, 0) :: (1, .laload, 0, 0) :: (1, .lload_n 3, 0, 0) :: (1, .lcmp, 0, 0) :: (3, .ifCond .ge (7), 0, 0) :: (1, .iconst (1), 0, 1) :: (3, .goto (4), 0, 0) :: []),
  (88, [false, false, false, false, false, false, false, false], (1, .iconst (0), 0, 0) :: []),
  (89, [false, false, false, false, false, false, false, false], (1, .ireturn, 0, 0) :: [])]
def mt_Blocks_pack_18 : List ma_AI := (1, .iconst (0), 0, 0) :: (1, .istore_n 2, 0, 0) :: []
def mt_Blocks_pack_5 : List ma_AI := (1, .aload_n 0, 0, 0) :: (1, .iconst (0), 0, 0) :: (3, .putfield 47, 0, 7) :: (1, .aload_n 0, 0, 0) :: (3, .getfield 29, 0, 5) :: (1, .iconst (-1), 0, (-1)) :: (3, .invokestatic 51, 19, 0) :: mt_Blocks_pack_18
def mt_Blocks_pack_45 : List ma_AI := (3, .iinc 2 (1), 0, 0) :: (3, .goto (-28), 0, 0) :: []
def mt_Blocks_pack_92 : List ma_AI := (1, .aload_n 0, 0, 0) :: (3, .getfield 15, 0, 1) :: (1, .aload_n 0, 0, 0) :: (3, .getfield 47, 0, 7) :: (1, .iconst (-1), 0, (-1)) :: (1, .iastore, 0, 0) :: (1, .aload_n 0, 0, 0) :: (1, .dup, 0, 0) :: (3, .getfield 47, 0, 7) :: (1, .iconst (1), 0, 1) :: (1, .iadd, 0, 0) :: (3, .putfield 47, 0, 7) :: []
def mt_Blocks_pack_89 : List ma_AI := (3, .invokevirtual 78, 21, 0) :: mt_Blocks_pack_92
def mb_Blocks_pack : ma_Tb := [(0, [true, true, false], (1, .aload_n 0, 0, 0) :: (1, .aload_n 1, 0, 0) :: (3, .invokevirtual 43, 15, 0) :: mt_Blocks_pack_5),
  (20, [true, true, true], (1, .iload_n 2, 0, 0) :: (1, .aload_n 0, 0, 0) :: (3, .getfield 39, 0, 9) :: (3, .getfield 57, 3, 12) :: (3, .if_icmp .ge (23), 0, 0) :: (1, .aload_n 0, 0, 0) :: (1, .aload_n 0, 0, 0) :: (3, .getfield 39, 0, 9) :: (3, .getfield 62, 3, 8) :: (1, .iload_n 2, 0, 0) :: (1, .iaload, 0, 0) :: (1, .aload_n 1, 0, 0) :: (3, .invokevirtual 65, 20, 0) :: mt_Blocks_pack_45),
  (51, [true, true, false], (1, .iconst (0), 0, 0) :: (1, .istore_n 2, 0, 0) :: []),
  (53, [true, true, true], (1, .iload_n 2, 0, 0) :: (1, .aload_n 0, 0, 0) :: (3, .getfield 39, 0, 9) :: (3, .getfield 69, 3, 10) :: (3, .if_icmp .ge (57), 0, 0) :: (1, .aload_n 0, 0, 0) :: (3, .getfield 32, 0, 6) :: (1, .iload_n 2, 0, 0) :: (1, .baload, 0, 0) :: (3, .ifCond .eq (42), 0, 0) :: (1, .aload_n 0, 0, 0) :: (3, .getfield 29, 0, 5) :: (1, .iload_n 2, 0, 0) :: (1, .iaload, 0, 0) :: (3, .ifCond .ge (33), 0, 0) :: (1, .aload_n 0, 0, 0) :: (1, .iload_n 2, 0, 0) :: (1, .aload_n 1, 0, 0) :: (1, .iload_n 2, 0, 0) :: (3, .invokevirtual 72, 16, 4) :: mt_Blocks_pack_89),
  (112, [true, true, true], (3, .iinc 2 (1), 0, 0) :: (3, .goto (-62), 0, 0) :: []),
  (118, [false, false, false], (1, .return_, 0, 0) :: [])]
def mt_Blocks_markNeeded_63 : List ma_AI := (1, .bastore, 0, 0) :: (3, .iinc 2 (1), 0, 0) :: (3, .goto (-44), 0, 0) :: []
def mt_Blocks_markNeeded_114 : List ma_AI := (1, .bastore, 0, 0) :: (3, .iinc 2 (1), 0, 0) :: (3, .goto (-46), 0, 0) :: []
def mt_Blocks_markNeeded_150 : List ma_AI := (1, .iload_n 2, 0, 0) :: (3, .invokevirtual 95, 17, 0) :: []
def mb_Blocks_markNeeded : ma_Tb := [(0, [true, true, false, false], (1, .iconst (0), 0, 0) :: (1, .istore_n 2, 0, 0) :: []),
  (2, [true, true, true, false], (1, .iload_n 2, 0, 0) :: (2, .bipush (48), 0, 48) :: (3, .if_icmp .ge (16), 0, 0) :: (1, .aload_n 0, 0, 0) :: (3, .getfield 32, 0, 6) :: (1, .iload_n 2, 0, 0) :: (1, .iconst (0), 0, 0) :: (1, .bastore, 0, 0) :: (3, .iinc 2 (1), 0, 0) :: (3, .goto (-16), 0, 0) :: []),
  (21, [true, true, false, false], (1, .iconst (0), 0, 0) :: (1, .istore_n 2, 0, 0) :: []),
  (23, [true, true, true, false], (1, .iload_n 2, 0, 0) :: (1, .aload_n 0, 0, 0) :: (3, .getfield 39, 0, 9) :: (3, .getfield 82, 3, 13) :: (3, .if_icmp .ge (39), 0, 0) :: (1, .aload_n 0, 0, 0) :: (3, .getfield 32, 0, 6) :: (1, .aload_n 0, 0, 0) :: (3, .getfield 39, 0, 9) :: (3, .getfield 85, 3, 9) :: (1, .iload_n 2, 0, 0) :: (1, .iaload, 0, 0) :: (1, .aload_n 0, 0, 0) :: (3, .getfield 39, 0, 9) :: (1, .aload_n 0, 0, 0) :: (3, .getfield 39, 0, 9) :: (3, .getfield 85, 3, 9) :: (1, .iload_n 2, 0, 0) :: (1, .iaload, 0, 0) :: (3, .invokevirtual 88, 3, 3) :: mt_Blocks_markNeeded_63),
  (70, [true, true, false, false], (1, .iconst (0), 0, 0) :: (1, .istore_n 2, 0, 0) :: []),
  (72, [true, true, true, false], (1, .iload_n 2, 0, 0) :: (1, .aload_n 0, 0, 0) :: (3, .getfield 39, 0, 9) :: (3, .getfield 57, 3, 12) :: (3, .if_icmp .ge (41), 0, 0) :: (1, .aload_n 0, 0, 0) :: (3, .getfield 39, 0, 9) :: (3, .getfield 92, 3, 3) :: (1, .aload_n 0, 0, 0) :: (3, .getfield 39, 0, 9) :: (3, .getfield 62, 3, 8) :: (1, .iload_n 2, 0, 0) :: (1, .iaload, 0, 0) :: (1, .iaload, 0, 0) :: (1, .istore_n 3, 0, 0) :: (1, .aload_n 0, 0, 0) :: (3, .getfield 32, 0, 6) :: (1, .iload_n 3, 0, 0) :: (1, .aload_n 0, 0, 0) :: (3, .getfield 39, 0, 9) :: (1, .iload_n 3, 0, 0) :: (3, .invokevirtual 88, 3, 3) :: mt_Blocks_markNeeded_114),
  (121, [true, true, false, false], (1, .aload_n 0, 0, 0) :: (3, .getfield 39, 0, 9) :: (3, .getfield 69, 3, 10) :: (1, .iconst (1), 0, 1) :: (1, .isub, 0, 0) :: (1, .istore_n 2, 0, 0) :: []),
  (131, [true, true, true, false], (1, .iload_n 2, 0, 0) :: (3, .ifCond .lt (28), 0, 0) :: (1, .aload_n 0, 0, 0) :: (3, .getfield 32, 0, 6) :: (1, .iload_n 2, 0, 0) :: (1, .baload, 0, 0) :: (3, .ifCond .eq (13), 0, 0) :: (1, .aload_n 0, 0, 0) :: (1, .aload_n 1, 0, 0) :: (1, .iload_n 2, 0, 0) :: (3, .invokevirtual 72, 16, 4) :: mt_Blocks_markNeeded_150),
  (154, [true, true, true, false], (3, .iinc 2 (-1), 0, 0) :: (3, .goto (-26), 0, 0) :: []),
  (160, [false, false, false, false], (1, .return_, 0, 0) :: [])]
def mb_Cuts_own : ma_Tb := [(0, [true, true], (1, .aload_n 0, 0, 0) :: (3, .getfield 11, 4, 0) :: (1, .iload_n 1, 0, 0) :: (1, .aaload, 0, 0) :: (1, .iconst (0), 0, 0) :: (1, .laload, 0, 0) :: (1, .lreturn, 0, 0) :: [])]
def mt_Blocks_markCut_27 : List ma_AI := (3, .ifCond .eq (11), 0, 0) :: (1, .aload_n 0, 0, 0) :: (3, .getfield 32, 0, 6) :: (2, .iload 4, 0, 0) :: (1, .iconst (1), 0, 1) :: (1, .bastore, 0, 0) :: []
def mt_Blocks_markCut_15 : List ma_AI := (3, .ifCond .eq (23), 0, 0) :: (1, .aload_n 0, 0, 0) :: (3, .getfield 39, 0, 9) :: (2, .iload 4, 0, 0) :: (3, .invokevirtual 88, 3, 3) :: mt_Blocks_markCut_27
def mb_Blocks_markCut : ma_Tb := [(0, [true, true, false, true, false], (1, .iconst (0), 0, 0) :: (2, .istore 4, 0, 0) :: []),
  (3, [true, true, false, true, true], (2, .iload 4, 0, 0) :: (1, .iload_n 3, 0, 0) :: (3, .if_icmp .ge (38), 0, 0) :: (1, .lload_n 1, 0, 0) :: (2, .iload 4, 0, 0) :: (3, .invokestatic 99, 18, 0) :: mt_Blocks_markCut_15),
  (38, [true, true, false, true, true], (3, .iinc 4 (1), 0, 0) :: (3, .goto (-38), 0, 0) :: []),
  (44, [false, false, false, false, false], (1, .return_, 0, 0) :: [])]
def mb_Blocks_isIn : ma_Tb := [(0, [true, false, true], (1, .lload_n 0, 0, 0) :: (1, .iload_n 2, 0, 0) :: (1, .lshr, 0, 0) :: (1, .lconst 1, 0, 1) :: (1, .land, 0, 0) :: (1, .lconst 0, 0, 0) :: (1, .lcmp, 0, 0) :: (3, .ifCond .eq (7), 0, 0) :: (1, .iconst (1), 0, 1) :: (3, .goto (4), 0, 0) :: []),
  (14, [false, false, false], (1, .iconst (0), 0, 0) :: []),
  (15, [false, false, false], (1, .ireturn, 0, 0) :: [])]
def mb_Arrays_fill_AIIV : ma_Tb := [(0, [true, true, false, false], (1, .iconst (0), 0, 0) :: (1, .istore_n 2, 0, 0) :: (1, .aload_n 0, 0, 0) :: (1, .arraylength, 0, 0) :: (1, .istore_n 3, 0, 0) :: []),
  (5, [true, true, true, true], (1, .iload_n 2, 0, 0) :: (1, .iload_n 3, 0, 0) :: (3, .if_icmp .ge (13), 0, 0) :: (1, .aload_n 0, 0, 0) :: (1, .iload_n 2, 0, 0) :: (1, .iload_n 1, 0, 0) :: (1, .iastore, 0, 0) :: (3, .iinc 2 (1), 0, 0) :: (3, .goto (-12), 0, 0) :: []),
  (20, [false, false, false, false], (1, .return_, 0, 0) :: [])]
def mt_Blocks_putRegister_58 : List ma_AI := (3, .goto (49), 0, 0) :: []
def mt_Blocks_putRegister_55 : List ma_AI := (3, .invokevirtual 78, 21, 0) :: mt_Blocks_putRegister_58
def mb_Blocks_putRegister : ma_Tb := [(0, [true, true, true, false], (1, .aload_n 0, 0, 0) :: (3, .getfield 39, 0, 9) :: (3, .getfield 92, 3, 3) :: (1, .iload_n 1, 0, 0) :: (1, .iaload, 0, 0) :: (1, .istore_n 3, 0, 0) :: (1, .aload_n 0, 0, 0) :: (3, .getfield 15, 0, 1) :: (1, .aload_n 0, 0, 0) :: (3, .getfield 47, 0, 7) :: (1, .iload_n 1, 0, 0) :: (1, .iastore, 0, 0) :: (1, .aload_n 0, 0, 0) :: (3, .getfield 29, 0, 5) :: (1, .iload_n 1, 0, 0) :: (1, .aload_n 0, 0, 0) :: (3, .getfield 47, 0, 7) :: (1, .iastore, 0, 0) :: (1, .aload_n 0, 0, 0) :: (3, .getfield 32, 0, 6) :: (1, .iload_n 3, 0, 0) :: (1, .baload, 0, 0) :: (3, .ifCond .eq (25), 0, 0) :: (1, .aload_n 0, 0, 0) :: (3, .getfield 29, 0, 5) :: (1, .iload_n 3, 0, 0) :: (1, .iaload, 0, 0) :: (3, .ifCond .ge (16), 0, 0) :: (1, .aload_n 0, 0, 0) :: (1, .iload_n 3, 0, 0) :: (1, .aload_n 2, 0, 0) :: (1, .iload_n 3, 0, 0) :: (3, .invokevirtual 72, 16, 4) :: mt_Blocks_putRegister_55),
  (61, [true, false, false, true], (1, .aload_n 0, 0, 0) :: (3, .getfield 9, 0, 0) :: (1, .aload_n 0, 0, 0) :: (3, .getfield 47, 0, 7) :: (1, .iconst (-1), 0, (-1)) :: (1, .iastore, 0, 0) :: (1, .aload_n 0, 0, 0) :: (3, .getfield 18, 0, 2) :: (1, .aload_n 0, 0, 0) :: (3, .getfield 47, 0, 7) :: (3, .getstatic 103, 0, 0) :: (1, .iconst (0), 0, 0) :: (1, .iaload, 0, 0) :: (1, .iastore, 0, 0) :: (1, .aload_n 0, 0, 0) :: (3, .getfield 21, 0, 3) :: (1, .aload_n 0, 0, 0) :: (3, .getfield 47, 0, 7) :: (1, .iconst (1), 0, 1) :: (1, .iastore, 0, 0) :: (1, .aload_n 0, 0, 0) :: (3, .getfield 26, 0, 4) :: (1, .aload_n 0, 0, 0) :: (3, .getfield 47, 0, 7) :: (1, .aaload, 0, 0) :: (1, .iconst (0), 0, 0) :: (1, .iload_n 3, 0, 0) :: (1, .iastore, 0, 0) :: []),
  (107, [true, false, false, false], (1, .aload_n 0, 0, 0) :: (1, .dup, 0, 0) :: (3, .getfield 47, 0, 7) :: (1, .iconst (1), 0, 1) :: (1, .iadd, 0, 0) :: (3, .putfield 47, 0, 7) :: (1, .return_, 0, 0) :: [])]
def mt_Blocks_putGate_18 : List ma_AI := (3, .ifCond .eq (42), 0, 0) :: (2, .iload 4, 0, 0) :: (1, .iconst (4), 0, 4) :: (3, .if_icmp .ge (36), 0, 0) :: (1, .aload_n 0, 0, 0) :: (3, .getfield 36, 0, 8) :: (2, .iload 5, 0, 0) :: (3, .getstatic 103, 0, 0) :: (2, .iload 4, 0, 0) :: (1, .iaload, 0, 0) :: (1, .iastore, 0, 0) :: (1, .aload_n 0, 0, 0) :: (3, .getfield 26, 0, 4) :: (1, .aload_n 0, 0, 0) :: (3, .getfield 47, 0, 7) :: (1, .aaload, 0, 0) :: (2, .iload 4, 0, 0) :: (2, .iload 5, 0, 0) :: (1, .iastore, 0, 0) :: (3, .iinc 4 (1), 0, 0) :: (3, .goto (39), 0, 0) :: []
def mt_Blocks_putGate_91 : List ma_AI := (3, .goto (4), 0, 0) :: []
def mt_Blocks_putGate_75 : List ma_AI := (3, .ifCond .eq (19), 0, 0) :: (1, .aload_n 0, 0, 0) :: (3, .getfield 39, 0, 9) :: (2, .iload 5, 0, 0) :: (1, .aload_n 0, 0, 0) :: (3, .getfield 36, 0, 8) :: (3, .invokevirtual 106, 22, 3) :: mt_Blocks_putGate_91
def mb_Blocks_putGate : ma_Tb := [(0, [true, true, true, false, false, false], (1, .iconst (0), 0, 0) :: (2, .istore 4, 0, 0) :: (1, .iconst (0), 0, 0) :: (2, .istore 5, 0, 0) :: []),
  (6, [true, true, true, false, true, true], (2, .iload 5, 0, 0) :: (1, .iload_n 1, 0, 0) :: (3, .if_icmp .gt (93), 0, 0) :: (1, .lload_n 2, 0, 0) :: (2, .iload 5, 0, 0) :: (3, .invokestatic 99, 18, 0) :: mt_Blocks_putGate_18),
  (60, [true, true, true, false, true, true], (1, .aload_n 0, 0, 0) :: (3, .getfield 36, 0, 8) :: (2, .iload 5, 0, 0) :: (1, .aload_n 0, 0, 0) :: (3, .getfield 39, 0, 9) :: (2, .iload 5, 0, 0) :: (3, .invokevirtual 88, 3, 3) :: mt_Blocks_putGate_75),
  (94, [true, true, true, false, true, true], (1, .iconst (0), 0, 0) :: []),
  (95, [true, true, true, false, true, true], (1, .iastore, 0, 0) :: []),
  (96, [true, true, true, false, true, true], (3, .iinc 5 (1), 0, 0) :: (3, .goto (-93), 0, 0) :: []),
  (102, [true, true, false, false, true, false], (1, .aload_n 0, 0, 0) :: (3, .getfield 9, 0, 0) :: (1, .aload_n 0, 0, 0) :: (3, .getfield 47, 0, 7) :: (1, .iload_n 1, 0, 0) :: (1, .iastore, 0, 0) :: (1, .aload_n 0, 0, 0) :: (3, .getfield 18, 0, 2) :: (1, .aload_n 0, 0, 0) :: (3, .getfield 47, 0, 7) :: (1, .aload_n 0, 0, 0) :: (3, .getfield 36, 0, 8) :: (1, .iload_n 1, 0, 0) :: (1, .iaload, 0, 0) :: (1, .iastore, 0, 0) :: (1, .aload_n 0, 0, 0) :: (3, .getfield 21, 0, 3) :: (1, .aload_n 0, 0, 0) :: (3, .getfield 47, 0, 7) :: (2, .iload 4, 0, 0) :: (1, .iastore, 0, 0) :: (1, .aload_n 0, 0, 0) :: (3, .getfield 29, 0, 5) :: (1, .iload_n 1, 0, 0) :: (1, .aload_n 0, 0, 0) :: (3, .getfield 47, 0, 7) :: (1, .iastore, 0, 0) :: (1, .return_, 0, 0) :: [])]
def mb_Circuit_joined : ma_Tb := [(0, [true, true, true, false, false, false], (1, .aload_n 2, 0, 0) :: (1, .aload_n 0, 0, 0) :: (3, .getfield 15, 3, 1) :: (1, .iload_n 1, 0, 0) :: (1, .iaload, 0, 0) :: (1, .iaload, 0, 0) :: (1, .istore_n 3, 0, 0) :: (1, .aload_n 2, 0, 0) :: (1, .aload_n 0, 0, 0) :: (3, .getfield 19, 3, 2) :: (1, .iload_n 1, 0, 0) :: (1, .iaload, 0, 0) :: (1, .iaload, 0, 0) :: (2, .istore 4, 0, 0) :: (1, .aload_n 0, 0, 0) :: (3, .getfield 9, 3, 0) :: (1, .iload_n 1, 0, 0) :: (1, .caload, 0, 0) :: (2, .istore 5, 0, 0) :: (2, .iload 5, 0, 0) :: (2, .bipush (97), 0, 97) :: (3, .if_icmp .ne (8), 0, 0) :: (1, .iload_n 3, 0, 0) :: (2, .iload 4, 0, 0) :: (1, .iand, 0, 0) :: (1, .ireturn, 0, 0) :: []),
  (39, [false, false, false, true, true, true], (2, .iload 5, 0, 0) :: (2, .bipush (111), 0, 111) :: (3, .if_icmp .ne (8), 0, 0) :: (1, .iload_n 3, 0, 0) :: (2, .iload 4, 0, 0) :: (1, .ior, 0, 0) :: (1, .ireturn, 0, 0) :: []),
  (51, [false, false, false, true, true, true], (2, .iload 5, 0, 0) :: (2, .bipush (120), 0, 120) :: (3, .if_icmp .ne (8), 0, 0) :: (1, .iload_n 3, 0, 0) :: (2, .iload 4, 0, 0) :: (1, .ixor, 0, 0) :: (1, .ireturn, 0, 0) :: []),
  (63, [false, false, false, true, false, false], (1, .iload_n 3, 0, 0) :: (1, .iconst (-1), 0, (-1)) :: (1, .ixor, 0, 0) :: (2, .ldc 56, 0, 65535) :: (1, .iand, 0, 0) :: (1, .ireturn, 0, 0) :: [])]
def mt_Places_putAnew_8 : List ma_AI := (1, .iconst (0), 0, 0) :: (1, .istore_n 1, 0, 0) :: []
def mb_Places_putAnew : ma_Tb := [(0, [true, false], (1, .aload_n 0, 0, 0) :: (3, .getfield 15, 6, 1) :: (1, .iconst (-1), 0, (-1)) :: (3, .invokestatic 45, 19, 0) :: mt_Places_putAnew_8),
  (10, [true, true], (1, .iload_n 1, 0, 0) :: (1, .aload_n 0, 0, 0) :: (3, .getfield 41, 6, 9) :: (3, .getfield 51, 0, 7) :: (3, .if_icmp .ge (36), 0, 0) :: (1, .iload_n 1, 0, 0) :: (2, .bipush (36), 0, 36) :: (3, .if_icmp .ge (30), 0, 0) :: (1, .aload_n 0, 0, 0) :: (3, .getfield 9, 6, 0) :: (1, .iload_n 1, 0, 0) :: (1, .iload_n 1, 0, 0) :: (1, .iastore, 0, 0) :: (1, .aload_n 0, 0, 0) :: (3, .getfield 15, 6, 1) :: (1, .iload_n 1, 0, 0) :: (1, .iload_n 1, 0, 0) :: (1, .iastore, 0, 0) :: (1, .aload_n 0, 0, 0) :: (3, .getfield 18, 6, 2) :: (1, .iload_n 1, 0, 0) :: (1, .iconst (0), 0, 0) :: (1, .bastore, 0, 0) :: (3, .iinc 1 (1), 0, 0) :: (3, .goto (-41), 0, 0) :: []),
  (54, [false, false], (1, .return_, 0, 0) :: [])]
def mt_Routes_clear_18 : List ma_AI := (3, .iinc 1 (1), 0, 0) :: (3, .goto (-19), 0, 0) :: []
def mt_Routes_clear_48 : List ma_AI := (1, .return_, 0, 0) :: []
def mt_Routes_clear_40 : List ma_AI := (1, .aload_n 0, 0, 0) :: (3, .getfield 23, 7, 3) :: (1, .lconst 0, 0, 0) :: (3, .invokestatic 53, 25, 0) :: mt_Routes_clear_48
def mt_Routes_clear_32 : List ma_AI := (1, .aload_n 0, 0, 0) :: (3, .getfield 27, 7, 4) :: (1, .iconst (0), 0, 0) :: (3, .invokestatic 47, 19, 0) :: mt_Routes_clear_40
def mb_Routes_clear : ma_Tb := [(0, [true, false], (1, .iconst (0), 0, 0) :: (1, .istore_n 1, 0, 0) :: []),
  (2, [true, true], (1, .iload_n 1, 0, 0) :: (2, .bipush (48), 0, 48) :: (3, .if_icmp .ge (19), 0, 0) :: (1, .aload_n 0, 0, 0) :: (3, .getfield 11, 7, 0) :: (1, .iload_n 1, 0, 0) :: (1, .aaload, 0, 0) :: (1, .iconst (-1), 0, (-1)) :: (3, .invokestatic 47, 19, 0) :: mt_Routes_clear_18),
  (24, [true, false], (1, .aload_n 0, 0, 0) :: (3, .getfield 20, 7, 2) :: (1, .iconst (0), 0, 0) :: (3, .invokestatic 47, 19, 0) :: mt_Routes_clear_32)]
def mb_Arrays_fill_AJJV : ma_Tb := [(0, [true, true, false, false, false], (1, .iconst (0), 0, 0) :: (1, .istore_n 3, 0, 0) :: (1, .aload_n 0, 0, 0) :: (1, .arraylength, 0, 0) :: (2, .istore 4, 0, 0) :: []),
  (6, [true, true, false, true, true], (1, .iload_n 3, 0, 0) :: (2, .iload 4, 0, 0) :: (3, .if_icmp .ge (13), 0, 0) :: (1, .aload_n 0, 0, 0) :: (1, .iload_n 3, 0, 0) :: (1, .lload_n 1, 0, 0) :: (1, .lastore, 0, 0) :: (3, .iinc 3 (1), 0, 0) :: (3, .goto (-13), 0, 0) :: []),
  (22, [false, false, false, false, false], (1, .return_, 0, 0) :: [])]
def mt_LatticefitLaw_anneal_7 : List ma_AI := (1, .ireturn, 0, 0) :: []
def mb_LatticefitLaw_anneal : ma_Tb := [(0, [true, true, true, true, false], (1, .aload_n 0, 0, 0) :: (1, .iload_n 1, 0, 0) :: (1, .iload_n 2, 0, 0) :: (1, .iload_n 3, 0, 0) :: (3, .invokevirtual 50, 27, 10) :: mt_LatticefitLaw_anneal_7),
  (8, [false, false, false, false, false], (2, .astore 4, 0, 0) :: (2, .ldc 17, 0, (-900001)) :: (1, .ireturn, 0, 0) :: []),
  (13, [false, false, false, false, false], (2, .astore 4, 0, 0) :: (2, .ldc 24, 0, (-900002)) :: (1, .ireturn, 0, 0) :: [])]
def mt_Latticefit_anneal_50 : List ma_AI := (2, .istore 4, 0, 0) :: (2, .iload 4, 0, 0) :: (3, .ifCond .le (8), 0, 0) :: (1, .aload_n 0, 0, 0) :: (1, .iconst (1), 0, 1) :: (3, .putfield 87, 10, 10) :: []
def mt_Latticefit_anneal_40 : List ma_AI := (1, .aload_n 0, 0, 0) :: (3, .getfield 37, 10, 3) :: (1, .iload_n 1, 0, 0) :: (1, .iload_n 2, 0, 0) :: (1, .iload_n 3, 0, 0) :: (3, .invokevirtual 210, 29, 6) :: mt_Latticefit_anneal_50
def mb_Latticefit_anneal : ma_Tb := [(0, [true, true, true, true, false], (1, .iload_n 1, 0, 0) :: (3, .ifCond .lt (26), 0, 0) :: (1, .iload_n 2, 0, 0) :: (1, .iconst (1), 0, 1) :: (3, .if_icmp .lt (21), 0, 0) :: (1, .iload_n 2, 0, 0) :: (3, .sipush (200), 0, 200) :: (3, .if_icmp .gt (14), 0, 0) :: (1, .iload_n 3, 0, 0) :: (1, .iconst (1), 0, 1) :: (3, .if_icmp .lt (9), 0, 0) :: (1, .iload_n 3, 0, 0) :: (2, .bipush (50), 0, 50) :: (3, .if_icmp .le (11), 0, 0) :: []),
  (27, [false, false, false, false, false], (8, .athrow, 2, 2) :: []),
  (35, [true, true, true, true, false], (1, .aload_n 0, 0, 0) :: (1, .iconst (1), 0, 1) :: (3, .invokevirtual 207, 28, 10) :: mt_Latticefit_anneal_40),
  (62, [false, false, false, false, true], (2, .iload 4, 0, 0) :: (1, .ireturn, 0, 0) :: [])]
def mb_Latticefit_needStage : ma_Tb := [(0, [true, true], (1, .aload_n 0, 0, 0) :: (3, .getfield 87, 10, 10) :: (1, .iload_n 1, 0, 0) :: (3, .if_icmp .ge (11), 0, 0) :: (8, .athrow, 0, 0) :: []),
  (16, [false, false], (1, .return_, 0, 0) :: [])]
def mt_Places_swapByChance_68 : List ma_AI := (3, .ifCond .eq (6), 0, 0) :: (3, .iinc 7 (1), 0, 0) :: []
def mt_Places_swapByChance_55 : List ma_AI := (3, .ifCond .eq (19), 0, 0) :: (1, .aload_n 0, 0, 0) :: (2, .iload 9, 0, 0) :: (2, .iload 10, 0, 0) :: (2, .iload 6, 0, 0) :: (3, .invokevirtual 159, 34, 6) :: mt_Places_swapByChance_68
def mt_Places_swapByChance_45 : List ma_AI := (2, .istore 10, 0, 0) :: (1, .aload_n 0, 0, 0) :: (2, .iload 9, 0, 0) :: (2, .iload 10, 0, 0) :: (3, .invokevirtual 155, 32, 6) :: mt_Places_swapByChance_55
def mt_Places_swapByChance_38 : List ma_AI := (2, .lstore 4, 0, 0) :: (2, .lload 4, 0, 0) :: (3, .invokestatic 151, 31, 0) :: mt_Places_swapByChance_45
def mt_Places_swapByChance_31 : List ma_AI := (2, .istore 9, 0, 0) :: (2, .lload 4, 0, 0) :: (3, .invokestatic 147, 30, 0) :: mt_Places_swapByChance_38
def mt_Places_swapByChance_24 : List ma_AI := (2, .lstore 4, 0, 0) :: (2, .lload 4, 0, 0) :: (3, .invokestatic 151, 31, 0) :: mt_Places_swapByChance_31
def mb_Places_swapByChance : ma_Tb := [(0, [true, true, true, true, false, false, false, false, false, false, false], (1, .iload_n 1, 0, 0) :: (1, .i2l, 0, 0) :: (2, .lstore 4, 0, 0) :: (1, .iload_n 3, 0, 0) :: (2, .istore 6, 0, 0) :: (1, .iconst (0), 0, 0) :: (2, .istore 7, 0, 0) :: (1, .iconst (1), 0, 1) :: (2, .istore 8, 0, 0) :: []),
  (13, [true, false, true, false, true, false, true, true, true, false, false], (2, .iload 8, 0, 0) :: (1, .iload_n 2, 0, 0) :: (3, .if_icmp .gt (81), 0, 0) :: (2, .lload 4, 0, 0) :: (3, .invokestatic 147, 30, 0) :: mt_Places_swapByChance_24),
  (74, [true, false, true, false, true, false, true, true, true, false, false], (2, .iload 8, 0, 0) :: (2, .bipush (8), 0, 8) :: (1, .irem, 0, 0) :: (3, .ifCond .ne (12), 0, 0) :: (2, .iload 6, 0, 0) :: (1, .iconst (1), 0, 1) :: (3, .if_icmp .le (6), 0, 0) :: (3, .iinc 6 (-1), 0, 0) :: []),
  (91, [true, false, true, false, true, false, true, true, true, false, false], (3, .iinc 8 (1), 0, 0) :: (3, .goto (-81), 0, 0) :: []),
  (97, [false, false, false, false, false, false, false, true, false, false, false], (2, .iload 7, 0, 0) :: (1, .ireturn, 0, 0) :: [])]
def mb_Places_nextChance : ma_Tb := [(0, [true, false], (1, .lload_n 0, 0, 0) :: (3, .ldc2_w 163, 0, 1103515245) :: (1, .lmul, 0, 0) :: (3, .ldc2_w 165, 0, 12345) :: (1, .ladd, 0, 0) :: (3, .ldc2_w 167, 0, 2147483648) :: (1, .lrem, 0, 0) :: (1, .lreturn, 0, 0) :: [])]
def mb_Places_cellTold : ma_Tb := [(0, [true, false], (1, .lload_n 0, 0, 0) :: (3, .ldc2_w 169, 0, 65536) :: (1, .ldiv, 0, 0) :: (3, .ldc2_w 171, 0, 36) :: (1, .lrem, 0, 0) :: (1, .l2i, 0, 0) :: (1, .ireturn, 0, 0) :: [])]
def mt_Places_maySwap_38 : List ma_AI := (3, .ifCond .ne (7), 0, 0) :: (1, .iconst (1), 0, 1) :: (3, .goto (4), 0, 0) :: []
def mt_Places_maySwap_30 : List ma_AI := (3, .ifCond .ne (15), 0, 0) :: (1, .aload_n 0, 0, 0) :: (1, .iload_n 2, 0, 0) :: (3, .invokevirtual 173, 33, 6) :: mt_Places_maySwap_38
def mb_Places_maySwap : ma_Tb := [(0, [true, true, true], (1, .iload_n 1, 0, 0) :: (1, .iload_n 2, 0, 0) :: (3, .if_icmp .eq (21), 0, 0) :: (1, .aload_n 0, 0, 0) :: (3, .getfield 15, 6, 1) :: (1, .iload_n 1, 0, 0) :: (1, .iaload, 0, 0) :: (3, .ifCond .ge (14), 0, 0) :: (1, .aload_n 0, 0, 0) :: (3, .getfield 15, 6, 1) :: (1, .iload_n 2, 0, 0) :: (1, .iaload, 0, 0) :: (3, .ifCond .ge (5), 0, 0) :: []),
  (23, [false, false, false], (1, .iconst (0), 0, 0) :: (1, .ireturn, 0, 0) :: []),
  (25, [true, true, true], (1, .aload_n 0, 0, 0) :: (1, .iload_n 1, 0, 0) :: (3, .invokevirtual 173, 33, 6) :: mt_Places_maySwap_30),
  (45, [false, false, false], (1, .iconst (0), 0, 0) :: []),
  (46, [false, false, false], (1, .ireturn, 0, 0) :: [])]
def mb_Places_holdsFixed : ma_Tb := [(0, [true, true], (1, .aload_n 0, 0, 0) :: (3, .getfield 15, 6, 1) :: (1, .iload_n 1, 0, 0) :: (1, .iaload, 0, 0) :: (3, .ifCond .lt (21), 0, 0) :: (1, .aload_n 0, 0, 0) :: (3, .getfield 18, 6, 2) :: (1, .aload_n 0, 0, 0) :: (3, .getfield 15, 6, 1) :: (1, .iload_n 1, 0, 0) :: (1, .iaload, 0, 0) :: (1, .baload, 0, 0) :: (3, .ifCond .eq (7), 0, 0) :: (1, .iconst (1), 0, 1) :: (3, .goto (4), 0, 0) :: []),
  (27, [false, false], (1, .iconst (0), 0, 0) :: []),
  (28, [false, false], (1, .ireturn, 0, 0) :: [])]
def mt_Places_swapIfGood_31 : List ma_AI := (2, .iload 5, 0, 0) :: (1, .isub, 0, 0) :: (1, .iload_n 3, 0, 0) :: (3, .if_icmp .ge (5), 0, 0) :: (1, .iconst (1), 0, 1) :: (1, .ireturn, 0, 0) :: []
def mt_Places_swapIfGood_22 : List ma_AI := (2, .iload 4, 0, 0) :: (3, .if_icmp .gt (16), 0, 0) :: (1, .aload_n 0, 0, 0) :: (3, .invokevirtual 181, 38, 6) :: mt_Places_swapIfGood_31
def mt_Places_swapIfGood_18 : List ma_AI := (1, .aload_n 0, 0, 0) :: (3, .invokevirtual 177, 35, 6) :: mt_Places_swapIfGood_22
def mt_Places_swapIfGood_10 : List ma_AI := (2, .istore 5, 0, 0) :: (1, .aload_n 0, 0, 0) :: (1, .iload_n 1, 0, 0) :: (1, .iload_n 2, 0, 0) :: (3, .invokevirtual 184, 44, 6) :: mt_Places_swapIfGood_18
def mt_Places_swapIfGood_4 : List ma_AI := (2, .istore 4, 0, 0) :: (1, .aload_n 0, 0, 0) :: (3, .invokevirtual 181, 38, 6) :: mt_Places_swapIfGood_10
def mt_Places_swapIfGood_46 : List ma_AI := (1, .iconst (0), 0, 0) :: (1, .ireturn, 0, 0) :: []
def mb_Places_swapIfGood : ma_Tb := [(0, [true, true, true, true, false, false], (1, .aload_n 0, 0, 0) :: (3, .invokevirtual 177, 35, 6) :: mt_Places_swapIfGood_4),
  (40, [true, true, true, false, false, false], (1, .aload_n 0, 0, 0) :: (1, .iload_n 1, 0, 0) :: (1, .iload_n 2, 0, 0) :: (3, .invokevirtual 184, 44, 6) :: mt_Places_swapIfGood_46)]
def mt_Places_clockExcess_8 : List ma_AI := (1, .iconst (0), 0, 0) :: (1, .istore_n 1, 0, 0) :: []
def mt_Places_clockExcess_40 : List ma_AI := (2, .bipush (12), 0, 12) :: (1, .idiv, 0, 0) :: (1, .dup2, 0, 0) :: (1, .iaload, 0, 0) :: (1, .iconst (1), 0, 1) :: (1, .aload_n 0, 0, 0) :: (3, .getfield 37, 6, 8) :: (3, .getfield 139, 3, 5) :: (1, .iload_n 2, 0, 0) :: (1, .iaload, 0, 0) :: (1, .ishl, 0, 0) :: (1, .ior, 0, 0) :: (1, .iastore, 0, 0) :: (3, .iinc 1 (1), 0, 0) :: (3, .goto (-51), 0, 0) :: []
def mt_Places_clockExcess_88 : List ma_AI := (1, .iconst (2), 0, 2) :: (1, .isub, 0, 0) :: (3, .invokestatic 130, 10002, 0) :: (1, .iadd, 0, 0) :: (1, .istore_n 1, 0, 0) :: (3, .iinc 2 (1), 0, 0) :: (3, .goto (-30), 0, 0) :: []
def mb_Places_clockExcess : ma_Tb := [(0, [true, false, false], (1, .aload_n 0, 0, 0) :: (3, .getfield 34, 6, 7) :: (1, .iconst (0), 0, 0) :: (3, .invokestatic 45, 19, 0) :: mt_Places_clockExcess_8),
  (10, [true, true, false], (1, .iload_n 1, 0, 0) :: (1, .aload_n 0, 0, 0) :: (3, .getfield 37, 6, 8) :: (3, .getfield 133, 3, 12) :: (3, .if_icmp .ge (46), 0, 0) :: (1, .aload_n 0, 0, 0) :: (3, .getfield 37, 6, 8) :: (3, .getfield 136, 3, 8) :: (1, .iload_n 1, 0, 0) :: (1, .iaload, 0, 0) :: (1, .istore_n 2, 0, 0) :: (1, .aload_n 0, 0, 0) :: (3, .getfield 34, 6, 7) :: (1, .aload_n 0, 0, 0) :: (1, .iload_n 2, 0, 0) :: (3, .invokevirtual 69, 36, 6) :: mt_Places_clockExcess_40),
  (64, [true, false, false], (1, .iconst (0), 0, 0) :: (1, .istore_n 1, 0, 0) :: (1, .iconst (0), 0, 0) :: (1, .istore_n 2, 0, 0) :: []),
  (68, [true, true, true], (1, .iload_n 2, 0, 0) :: (1, .aload_n 0, 0, 0) :: (3, .getfield 34, 6, 7) :: (1, .arraylength, 0, 0) :: (3, .if_icmp .ge (27), 0, 0) :: (1, .iload_n 1, 0, 0) :: (1, .iconst (0), 0, 0) :: (1, .aload_n 0, 0, 0) :: (3, .getfield 34, 6, 7) :: (1, .iload_n 2, 0, 0) :: (1, .iaload, 0, 0) :: (3, .invokestatic 142, 37, 0) :: mt_Places_clockExcess_88),
  (101, [false, true, false], (1, .iload_n 1, 0, 0) :: (1, .ireturn, 0, 0) :: [])]
def mb_Places_cellOfNode : ma_Tb := [(0, [true, true, false], (1, .aload_n 0, 0, 0) :: (3, .getfield 41, 6, 9) :: (3, .getfield 57, 0, 5) :: (1, .iload_n 1, 0, 0) :: (1, .iaload, 0, 0) :: (1, .istore_n 2, 0, 0) :: (1, .iload_n 2, 0, 0) :: (3, .ifCond .ge (7), 0, 0) :: (1, .iconst (0), 0, 0) :: (3, .goto (9), 0, 0) :: []),
  (18, [true, false, true], (1, .aload_n 0, 0, 0) :: (3, .getfield 9, 6, 0) :: (1, .iload_n 2, 0, 0) :: (1, .iaload, 0, 0) :: []),
  (24, [false, false, false], (1, .ireturn, 0, 0) :: [])]
def mb_Integer_bitCount : ma_Tb := [(0, [true], (1, .iload_n 0, 0, 0) :: (1, .iload_n 0, 0, 0) :: (1, .iconst (1), 0, 1) :: (1, .iushr, 0, 0) :: (3, .ldc_w 265, 0, 1431655765) :: (1, .iand, 0, 0) :: (1, .isub, 0, 0) :: (1, .istore_n 0, 0, 0) :: (1, .iload_n 0, 0, 0) :: (3, .ldc_w 266, 0, 858993459) :: (1, .iand, 0, 0) :: (1, .iload_n 0, 0, 0) :: (1, .iconst (2), 0, 2) :: (1, .iushr, 0, 0) :: (3, .ldc_w 266, 0, 858993459) :: (1, .iand, 0, 0) :: (1, .iadd, 0, 0) :: (1, .istore_n 0, 0, 0) :: (1, .iload_n 0, 0, 0) :: (1, .iload_n 0, 0, 0) :: (1, .iconst (4), 0, 4) :: (1, .iushr, 0, 0) :: (1, .iadd, 0, 0) :: (3, .ldc_w 267, 0, 252645135) :: (1, .iand, 0, 0) :: (1, .istore_n 0, 0, 0) :: (1, .iload_n 0, 0, 0) :: (1, .iload_n 0, 0, 0) :: (2, .bipush (8), 0, 8) :: (1, .iushr, 0, 0) :: (1, .iadd, 0, 0) :: (1, .istore_n 0, 0, 0) :: (1, .iload_n 0, 0, 0) :: (1, .iload_n 0, 0, 0) :: (2, .bipush (16), 0, 16) :: (1, .iushr, 0, 0) :: (1, .iadd, 0, 0) :: (1, .istore_n 0, 0, 0) :: (1, .iload_n 0, 0, 0) :: (2, .bipush (63), 0, 63) :: (1, .iand, 0, 0) :: (1, .ireturn, 0, 0) :: [])]
def mt_Places_findLengths_18 : List ma_AI := (1, .istore_n 2, 0, 0) :: (1, .aload_n 0, 0, 0) :: (3, .getfield 22, 6, 3) :: (1, .iload_n 1, 0, 0) :: (1, .iload_n 2, 0, 0) :: (2, .bipush (7), 0, 7) :: (1, .idiv, 0, 0) :: (1, .iastore, 0, 0) :: (1, .aload_n 0, 0, 0) :: (3, .getfield 25, 6, 4) :: (1, .iload_n 1, 0, 0) :: (1, .aload_n 0, 0, 0) :: (3, .getfield 22, 6, 3) :: (1, .iload_n 1, 0, 0) :: (1, .iaload, 0, 0) :: (1, .iastore, 0, 0) :: (1, .aload_n 0, 0, 0) :: (3, .getfield 28, 6, 5) :: (1, .iload_n 1, 0, 0) :: (1, .iload_n 2, 0, 0) :: (2, .bipush (7), 0, 7) :: (1, .irem, 0, 0) :: (1, .iastore, 0, 0) :: (1, .aload_n 0, 0, 0) :: (3, .getfield 31, 6, 6) :: (1, .iload_n 1, 0, 0) :: (1, .aload_n 0, 0, 0) :: (3, .getfield 28, 6, 5) :: (1, .iload_n 1, 0, 0) :: (1, .iaload, 0, 0) :: (1, .iastore, 0, 0) :: (3, .iinc 1 (1), 0, 0) :: (3, .goto (-64), 0, 0) :: []
def mt_Places_findLengths_121 : List ma_AI := (3, .iinc 2 (1), 0, 0) :: (3, .goto (-40), 0, 0) :: []
def mt_Places_findLengths_118 : List ma_AI := (3, .invokevirtual 118, 41, 6) :: mt_Places_findLengths_121
def mt_Places_findLengths_163 : List ma_AI := (3, .iinc 1 (1), 0, 0) :: (3, .goto (-31), 0, 0) :: []
def mt_Places_findLengths_160 : List ma_AI := (3, .invokevirtual 118, 41, 6) :: mt_Places_findLengths_163
def mt_Places_findLengths_190 : List ma_AI := (1, .iadd, 0, 0) :: (1, .istore_n 1, 0, 0) :: (3, .iinc 2 (1), 0, 0) :: (3, .goto (-22), 0, 0) :: []
def mb_Places_findLengths : ma_Tb := [(0, [true, false, false], (1, .iconst (0), 0, 0) :: (1, .istore_n 1, 0, 0) :: []),
  (2, [true, true, false], (1, .iload_n 1, 0, 0) :: (1, .aload_n 0, 0, 0) :: (3, .getfield 37, 6, 8) :: (3, .getfield 88, 3, 10) :: (3, .if_icmp .ge (59), 0, 0) :: (1, .aload_n 0, 0, 0) :: (1, .iload_n 1, 0, 0) :: (3, .invokevirtual 96, 39, 6) :: mt_Places_findLengths_18),
  (69, [true, false, false], (1, .iconst (0), 0, 0) :: (1, .istore_n 1, 0, 0) :: []),
  (71, [true, true, false], (1, .iload_n 1, 0, 0) :: (1, .aload_n 0, 0, 0) :: (3, .getfield 41, 6, 9) :: (3, .getfield 51, 0, 7) :: (3, .if_icmp .ge (54), 0, 0) :: (1, .iconst (0), 0, 0) :: (1, .istore_n 2, 0, 0) :: []),
  (84, [true, true, true], (1, .iload_n 2, 0, 0) :: (1, .aload_n 0, 0, 0) :: (3, .getfield 41, 6, 9) :: (3, .getfield 99, 0, 3) :: (1, .iload_n 1, 0, 0) :: (1, .iaload, 0, 0) :: (3, .if_icmp .ge (33), 0, 0) :: (1, .aload_n 0, 0, 0) :: (1, .aload_n 0, 0, 0) :: (3, .getfield 41, 6, 9) :: (3, .getfield 101, 0, 4) :: (1, .iload_n 1, 0, 0) :: (1, .aaload, 0, 0) :: (1, .iload_n 2, 0, 0) :: (1, .iaload, 0, 0) :: (1, .aload_n 0, 0, 0) :: (3, .getfield 9, 6, 0) :: (1, .iload_n 1, 0, 0) :: (1, .iaload, 0, 0) :: (3, .invokestatic 73, 40, 0) :: mt_Places_findLengths_118),
  (127, [true, true, false], (3, .iinc 1 (1), 0, 0) :: (3, .goto (-59), 0, 0) :: []),
  (133, [true, false, false], (1, .iconst (0), 0, 0) :: (1, .istore_n 1, 0, 0) :: []),
  (135, [true, true, false], (1, .iload_n 1, 0, 0) :: (1, .aload_n 0, 0, 0) :: (3, .getfield 37, 6, 8) :: (3, .getfield 109, 3, 13) :: (3, .if_icmp .ge (26), 0, 0) :: (1, .aload_n 0, 0, 0) :: (1, .aload_n 0, 0, 0) :: (3, .getfield 37, 6, 8) :: (3, .getfield 112, 3, 9) :: (1, .iload_n 1, 0, 0) :: (1, .iaload, 0, 0) :: (1, .iload_n 1, 0, 0) :: (3, .invokestatic 115, 42, 0) :: mt_Places_findLengths_160),
  (169, [true, false, false], (1, .iconst (0), 0, 0) :: (1, .istore_n 1, 0, 0) :: (1, .iconst (0), 0, 0) :: (1, .istore_n 2, 0, 0) :: []),
  (173, [true, true, true], (1, .iload_n 2, 0, 0) :: (1, .aload_n 0, 0, 0) :: (3, .getfield 37, 6, 8) :: (3, .getfield 88, 3, 10) :: (3, .if_icmp .ge (17), 0, 0) :: (1, .iload_n 1, 0, 0) :: (1, .aload_n 0, 0, 0) :: (1, .iload_n 2, 0, 0) :: (3, .invokevirtual 121, 43, 6) :: mt_Places_findLengths_190),
  (198, [false, true, false], (1, .iload_n 1, 0, 0) :: (1, .ireturn, 0, 0) :: [])]
def mt_Places_sourceCrossing_32 : List ma_AI := (1, .ireturn, 0, 0) :: []
def mt_Places_sourceCrossing_29 : List ma_AI := (3, .invokestatic 73, 40, 0) :: mt_Places_sourceCrossing_32
def mb_Places_sourceCrossing : ma_Tb := [(0, [true, true], (1, .aload_n 0, 0, 0) :: (3, .getfield 37, 6, 8) :: (3, .getfield 60, 3, 0) :: (1, .iload_n 1, 0, 0) :: (1, .caload, 0, 0) :: (2, .bipush (105), 0, 105) :: (3, .if_icmp .ne (13), 0, 0) :: (1, .aload_n 0, 0, 0) :: (3, .getfield 37, 6, 8) :: (3, .getfield 66, 3, 6) :: (1, .iload_n 1, 0, 0) :: (1, .iaload, 0, 0) :: (1, .ireturn, 0, 0) :: []),
  (24, [true, true], (1, .aload_n 0, 0, 0) :: (1, .iload_n 1, 0, 0) :: (3, .invokevirtual 69, 36, 6) :: mt_Places_sourceCrossing_29)]
def mb_Places_crossingAt : ma_Tb := [(0, [true], (2, .bipush (7), 0, 7) :: (1, .iload_n 0, 0, 0) :: (2, .bipush (6), 0, 6) :: (1, .idiv, 0, 0) :: (1, .imul, 0, 0) :: (1, .iload_n 0, 0, 0) :: (2, .bipush (6), 0, 6) :: (1, .irem, 0, 0) :: (1, .iadd, 0, 0) :: (1, .ireturn, 0, 0) :: [])]
def mb_Places_stretchTo : ma_Tb := [(0, [true, true, true, false, false], (1, .iload_n 2, 0, 0) :: (2, .bipush (7), 0, 7) :: (1, .idiv, 0, 0) :: (1, .istore_n 3, 0, 0) :: (1, .iload_n 2, 0, 0) :: (2, .bipush (7), 0, 7) :: (1, .irem, 0, 0) :: (2, .istore 4, 0, 0) :: (1, .aload_n 0, 0, 0) :: (3, .getfield 22, 6, 3) :: (1, .iload_n 1, 0, 0) :: (1, .aload_n 0, 0, 0) :: (3, .getfield 22, 6, 3) :: (1, .iload_n 1, 0, 0) :: (1, .iaload, 0, 0) :: (1, .iload_n 3, 0, 0) :: (3, .invokestatic 124, 10003, 0) :: (1, .iastore, 0, 0) :: (1, .aload_n 0, 0, 0) :: (3, .getfield 25, 6, 4) :: (1, .iload_n 1, 0, 0) :: (1, .aload_n 0, 0, 0) :: (3, .getfield 25, 6, 4) :: (1, .iload_n 1, 0, 0) :: (1, .iaload, 0, 0) :: (1, .iload_n 3, 0, 0) :: (3, .invokestatic 130, 10002, 0) :: (1, .iastore, 0, 0) :: (1, .aload_n 0, 0, 0) :: (3, .getfield 28, 6, 5) :: (1, .iload_n 1, 0, 0) :: (1, .aload_n 0, 0, 0) :: (3, .getfield 28, 6, 5) :: (1, .iload_n 1, 0, 0) :: (1, .iaload, 0, 0) :: (2, .iload 4, 0, 0) :: (3, .invokestatic 124, 10003, 0) :: (1, .iastore, 0, 0) :: (1, .aload_n 0, 0, 0) :: (3, .getfield 31, 6, 6) :: (1, .iload_n 1, 0, 0) :: (1, .aload_n 0, 0, 0) :: (3, .getfield 31, 6, 6) :: (1, .iload_n 1, 0, 0) :: (1, .iaload, 0, 0) :: (2, .iload 4, 0, 0) :: (3, .invokestatic 130, 10002, 0) :: (1, .iastore, 0, 0) :: (1, .return_, 0, 0) :: [])]
def mb_Places_crossingOfOutput : ma_Tb := [(0, [true], (2, .bipush (42), 0, 42) :: (1, .iload_n 0, 0, 0) :: (1, .iadd, 0, 0) :: (1, .ireturn, 0, 0) :: [])]
def mb_Places_lengthOf : ma_Tb := [(0, [true, true], (1, .aload_n 0, 0, 0) :: (3, .getfield 25, 6, 4) :: (1, .iload_n 1, 0, 0) :: (1, .iaload, 0, 0) :: (1, .aload_n 0, 0, 0) :: (3, .getfield 22, 6, 3) :: (1, .iload_n 1, 0, 0) :: (1, .iaload, 0, 0) :: (1, .isub, 0, 0) :: (1, .aload_n 0, 0, 0) :: (3, .getfield 31, 6, 6) :: (1, .iload_n 1, 0, 0) :: (1, .iaload, 0, 0) :: (1, .iadd, 0, 0) :: (1, .aload_n 0, 0, 0) :: (3, .getfield 28, 6, 5) :: (1, .iload_n 1, 0, 0) :: (1, .iaload, 0, 0) :: (1, .isub, 0, 0) :: (1, .ireturn, 0, 0) :: [])]
def mb_Places_exchange : ma_Tb := [(0, [true, true, true, false], (1, .aload_n 0, 0, 0) :: (3, .getfield 15, 6, 1) :: (1, .iload_n 1, 0, 0) :: (1, .iaload, 0, 0) :: (1, .istore_n 3, 0, 0) :: (1, .aload_n 0, 0, 0) :: (3, .getfield 15, 6, 1) :: (1, .iload_n 1, 0, 0) :: (1, .aload_n 0, 0, 0) :: (3, .getfield 15, 6, 1) :: (1, .iload_n 2, 0, 0) :: (1, .iaload, 0, 0) :: (1, .iastore, 0, 0) :: (1, .aload_n 0, 0, 0) :: (3, .getfield 15, 6, 1) :: (1, .iload_n 2, 0, 0) :: (1, .iload_n 3, 0, 0) :: (1, .iastore, 0, 0) :: (1, .aload_n 0, 0, 0) :: (3, .getfield 15, 6, 1) :: (1, .iload_n 1, 0, 0) :: (1, .iaload, 0, 0) :: (3, .ifCond .lt (15), 0, 0) :: (1, .aload_n 0, 0, 0) :: (3, .getfield 9, 6, 0) :: (1, .aload_n 0, 0, 0) :: (3, .getfield 15, 6, 1) :: (1, .iload_n 1, 0, 0) :: (1, .iaload, 0, 0) :: (1, .iload_n 1, 0, 0) :: (1, .iastore, 0, 0) :: []),
  (47, [true, false, true, false], (1, .aload_n 0, 0, 0) :: (3, .getfield 15, 6, 1) :: (1, .iload_n 2, 0, 0) :: (1, .iaload, 0, 0) :: (3, .ifCond .lt (15), 0, 0) :: (1, .aload_n 0, 0, 0) :: (3, .getfield 9, 6, 0) :: (1, .aload_n 0, 0, 0) :: (3, .getfield 15, 6, 1) :: (1, .iload_n 2, 0, 0) :: (1, .iaload, 0, 0) :: (1, .iload_n 2, 0, 0) :: (1, .iastore, 0, 0) :: []),
  (68, [false, false, false, false], (1, .return_, 0, 0) :: [])]
def mt_LatticefitLaw_route_5 : List ma_AI := (1, .ireturn, 0, 0) :: []
def mb_LatticefitLaw_route : ma_Tb := [(0, [true, true, false], (1, .aload_n 0, 0, 0) :: (1, .iload_n 1, 0, 0) :: (3, .invokevirtual 57, 46, 10) :: mt_LatticefitLaw_route_5),
  (6, [false, false, false], (1, .astore_n 2, 0, 0) :: (2, .ldc 17, 0, (-900001)) :: (1, .ireturn, 0, 0) :: []),
  (10, [false, false, false], (1, .astore_n 2, 0, 0) :: (2, .ldc 24, 0, (-900002)) :: (1, .ireturn, 0, 0) :: [])]
def mt_Latticefit_route_63 : List ma_AI := (3, .ifCond .ne (8), 0, 0) :: (1, .aload_n 0, 0, 0) :: (1, .iconst (2), 0, 2) :: (3, .putfield 87, 10, 10) :: []
def mt_Latticefit_route_55 : List ma_AI := (1, .istore_n 2, 0, 0) :: (1, .aload_n 0, 0, 0) :: (3, .getfield 44, 10, 4) :: (3, .invokevirtual 224, 6, 7) :: mt_Latticefit_route_63
def mt_Latticefit_route_47 : List ma_AI := (1, .aload_n 0, 0, 0) :: (3, .getfield 44, 10, 4) :: (1, .iload_n 1, 0, 0) :: (3, .invokevirtual 221, 49, 7) :: mt_Latticefit_route_55
def mt_Latticefit_route_36 : List ma_AI := (1, .aload_n 0, 0, 0) :: (3, .getfield 37, 10, 3) :: (1, .aload_n 0, 0, 0) :: (3, .getfield 44, 10, 4) :: (3, .invokevirtual 217, 47, 6) :: mt_Latticefit_route_47
def mt_Latticefit_route_24 : List ma_AI := (1, .aload_n 0, 0, 0) :: (1, .iconst (1), 0, 1) :: (3, .putfield 87, 10, 10) :: (1, .aload_n 0, 0, 0) :: (3, .getfield 44, 10, 4) :: (3, .invokevirtual 156, 24, 7) :: mt_Latticefit_route_36
def mb_Latticefit_route : ma_Tb := [(0, [true, true, false], (1, .iload_n 1, 0, 0) :: (1, .iconst (1), 0, 1) :: (3, .if_icmp .lt (9), 0, 0) :: (1, .iload_n 1, 0, 0) :: (2, .bipush (20), 0, 20) :: (3, .if_icmp .le (11), 0, 0) :: []),
  (11, [false, false, false], (8, .athrow, 2, 2) :: []),
  (19, [true, true, false], (1, .aload_n 0, 0, 0) :: (1, .iconst (1), 0, 1) :: (3, .invokevirtual 207, 28, 10) :: mt_Latticefit_route_24),
  (71, [false, false, true], (1, .iload_n 2, 0, 0) :: (1, .ireturn, 0, 0) :: [])]
def mt_Places_putPins_23 : List ma_AI := (1, .iastore, 0, 0) :: (3, .iinc 2 (1), 0, 0) :: (3, .goto (-25), 0, 0) :: []
def mt_Places_putPins_82 : List ma_AI := (3, .iinc 3 (1), 0, 0) :: (3, .goto (-40), 0, 0) :: []
def mt_Places_putPins_79 : List ma_AI := (3, .invokevirtual 105, 48, 7) :: mt_Places_putPins_82
def mt_Places_putPins_124 : List ma_AI := (3, .iinc 2 (1), 0, 0) :: (3, .goto (-31), 0, 0) :: []
def mt_Places_putPins_121 : List ma_AI := (3, .invokevirtual 105, 48, 7) :: mt_Places_putPins_124
def mb_Places_putPins : ma_Tb := [(0, [true, true, false, false], (1, .iconst (0), 0, 0) :: (1, .istore_n 2, 0, 0) :: []),
  (2, [true, true, true, false], (1, .iload_n 2, 0, 0) :: (1, .aload_n 0, 0, 0) :: (3, .getfield 37, 6, 8) :: (3, .getfield 88, 3, 10) :: (3, .if_icmp .ge (20), 0, 0) :: (1, .aload_n 1, 0, 0) :: (3, .getfield 91, 7, 1) :: (1, .iload_n 2, 0, 0) :: (1, .aload_n 0, 0, 0) :: (1, .iload_n 2, 0, 0) :: (3, .invokevirtual 96, 39, 6) :: mt_Places_putPins_23),
  (30, [true, true, false, false], (1, .iconst (0), 0, 0) :: (1, .istore_n 2, 0, 0) :: []),
  (32, [true, true, true, false], (1, .iload_n 2, 0, 0) :: (1, .aload_n 0, 0, 0) :: (3, .getfield 41, 6, 9) :: (3, .getfield 51, 0, 7) :: (3, .if_icmp .ge (54), 0, 0) :: (1, .iconst (0), 0, 0) :: (1, .istore_n 3, 0, 0) :: []),
  (45, [true, true, true, true], (1, .iload_n 3, 0, 0) :: (1, .aload_n 0, 0, 0) :: (3, .getfield 41, 6, 9) :: (3, .getfield 99, 0, 3) :: (1, .iload_n 2, 0, 0) :: (1, .iaload, 0, 0) :: (3, .if_icmp .ge (33), 0, 0) :: (1, .aload_n 1, 0, 0) :: (1, .aload_n 0, 0, 0) :: (3, .getfield 41, 6, 9) :: (3, .getfield 101, 0, 4) :: (1, .iload_n 2, 0, 0) :: (1, .aaload, 0, 0) :: (1, .iload_n 3, 0, 0) :: (1, .iaload, 0, 0) :: (1, .aload_n 0, 0, 0) :: (3, .getfield 9, 6, 0) :: (1, .iload_n 2, 0, 0) :: (1, .iaload, 0, 0) :: (3, .invokestatic 73, 40, 0) :: mt_Places_putPins_79),
  (88, [true, true, true, false], (3, .iinc 2 (1), 0, 0) :: (3, .goto (-59), 0, 0) :: []),
  (94, [true, true, false, false], (1, .iconst (0), 0, 0) :: (1, .istore_n 2, 0, 0) :: []),
  (96, [true, true, true, false], (1, .iload_n 2, 0, 0) :: (1, .aload_n 0, 0, 0) :: (3, .getfield 37, 6, 8) :: (3, .getfield 109, 3, 13) :: (3, .if_icmp .ge (26), 0, 0) :: (1, .aload_n 1, 0, 0) :: (1, .aload_n 0, 0, 0) :: (3, .getfield 37, 6, 8) :: (3, .getfield 112, 3, 9) :: (1, .iload_n 2, 0, 0) :: (1, .iaload, 0, 0) :: (1, .iload_n 2, 0, 0) :: (3, .invokestatic 115, 42, 0) :: mt_Places_putPins_121),
  (130, [false, false, false, false], (1, .return_, 0, 0) :: [])]
def mb_Routes_addSink : ma_Tb := [(0, [true, true, true], (1, .aload_n 0, 0, 0) :: (3, .getfield 23, 7, 3) :: (1, .iload_n 1, 0, 0) :: (1, .dup2, 0, 0) :: (1, .laload, 0, 0) :: (1, .lconst 1, 0, 1) :: (1, .iload_n 2, 0, 0) :: (1, .lshl, 0, 0) :: (1, .lor, 0, 0) :: (1, .lastore, 0, 0) :: (1, .return_, 0, 0) :: [])]
def mt_Routes_makeRounds_35 : List ma_AI := (3, .iinc 3 (1), 0, 0) :: (3, .goto (-24), 0, 0) :: []
def mt_Routes_makeRounds_30 : List ma_AI := (1, .aload_n 0, 0, 0) :: (1, .iload_n 3, 0, 0) :: (3, .invokevirtual 69, 52, 7) :: mt_Routes_makeRounds_35
def mt_Routes_makeRounds_45 : List ma_AI := (3, .ifCond .ne (5), 0, 0) :: (1, .iload_n 2, 0, 0) :: (1, .ireturn, 0, 0) :: []
def mt_Routes_makeRounds_54 : List ma_AI := (3, .iinc 2 (1), 0, 0) :: (3, .goto (-55), 0, 0) :: []
def mb_Routes_makeRounds : ma_Tb := [(0, [true, true, false, false], (1, .iconst (1), 0, 1) :: (1, .istore_n 2, 0, 0) :: []),
  (2, [true, true, true, false], (1, .iload_n 2, 0, 0) :: (1, .iload_n 1, 0, 0) :: (3, .if_icmp .gt (56), 0, 0) :: (1, .aload_n 0, 0, 0) :: (1, .iload_n 2, 0, 0) :: (3, .putfield 56, 7, 10) :: (1, .iconst (0), 0, 0) :: (1, .istore_n 3, 0, 0) :: []),
  (14, [true, true, true, true], (1, .iload_n 3, 0, 0) :: (1, .aload_n 0, 0, 0) :: (3, .getfield 43, 7, 11) :: (3, .getfield 60, 3, 10) :: (3, .if_icmp .ge (19), 0, 0) :: (1, .aload_n 0, 0, 0) :: (1, .iload_n 3, 0, 0) :: (3, .invokevirtual 65, 50, 7) :: mt_Routes_makeRounds_30),
  (41, [true, true, true, false], (1, .aload_n 0, 0, 0) :: (3, .invokevirtual 72, 6, 7) :: mt_Routes_makeRounds_45),
  (50, [true, true, true, false], (1, .aload_n 0, 0, 0) :: (3, .invokevirtual 76, 63, 7) :: mt_Routes_makeRounds_54),
  (60, [false, true, false, false], (1, .iload_n 1, 0, 0) :: (1, .ireturn, 0, 0) :: [])]
def mt_Routes_giveUp_21 : List ma_AI := (3, .ifCond .eq (22), 0, 0) :: (1, .aload_n 0, 0, 0) :: (3, .getfield 20, 7, 2) :: (1, .iload_n 3, 0, 0) :: (1, .dup2, 0, 0) :: (1, .iaload, 0, 0) :: (1, .iconst (1), 0, 1) :: (1, .isub, 0, 0) :: (1, .iastore, 0, 0) :: (1, .aload_n 0, 0, 0) :: (3, .getfield 11, 7, 0) :: (1, .iload_n 1, 0, 0) :: (1, .aaload, 0, 0) :: (1, .iload_n 2, 0, 0) :: (1, .iconst (-1), 0, (-1)) :: (1, .iastore, 0, 0) :: []
def mb_Routes_giveUp : ma_Tb := [(0, [true, true, false, false], (1, .iconst (0), 0, 0) :: (1, .istore_n 2, 0, 0) :: []),
  (2, [true, true, true, false], (1, .iload_n 2, 0, 0) :: (2, .bipush (49), 0, 49) :: (3, .if_icmp .ge (44), 0, 0) :: (1, .aload_n 0, 0, 0) :: (3, .getfield 11, 7, 0) :: (1, .iload_n 1, 0, 0) :: (1, .aaload, 0, 0) :: (1, .iload_n 2, 0, 0) :: (1, .iaload, 0, 0) :: (1, .istore_n 3, 0, 0) :: (1, .iload_n 3, 0, 0) :: (3, .invokestatic 85, 51, 0) :: mt_Routes_giveUp_21),
  (43, [true, true, true, false], (3, .iinc 2 (1), 0, 0) :: (3, .goto (-44), 0, 0) :: []),
  (49, [false, false, false, false], (1, .return_, 0, 0) :: [])]
def mb_Latticefit_isEdge : ma_Tb := [(0, [true], (1, .iload_n 0, 0, 0) :: (3, .ifCond .lt (13), 0, 0) :: (1, .iload_n 0, 0, 0) :: (2, .bipush (84), 0, 84) :: (3, .if_icmp .ge (7), 0, 0) :: (1, .iconst (1), 0, 1) :: (3, .goto (4), 0, 0) :: []),
  (14, [false], (1, .iconst (0), 0, 0) :: []),
  (15, [false], (1, .ireturn, 0, 0) :: [])]
def mt_Routes_layTree_29 : List ma_AI := (3, .ifCond .ne (9), 0, 0) :: (1, .aload_n 0, 0, 0) :: (1, .iload_n 1, 0, 0) :: (1, .iload_n 2, 0, 0) :: (3, .invokevirtual 93, 54, 7) :: []
def mb_Routes_layTree : ma_Tb := [(0, [true, true, false], (1, .iconst (0), 0, 0) :: (1, .istore_n 2, 0, 0) :: []),
  (2, [true, true, true], (1, .iload_n 2, 0, 0) :: (2, .bipush (49), 0, 49) :: (3, .if_icmp .ge (39), 0, 0) :: (1, .aload_n 0, 0, 0) :: (3, .getfield 23, 7, 3) :: (1, .iload_n 1, 0, 0) :: (1, .laload, 0, 0) :: (1, .iload_n 2, 0, 0) :: (1, .lshr, 0, 0) :: (1, .lconst 1, 0, 1) :: (1, .land, 0, 0) :: (1, .lconst 0, 0, 0) :: (1, .lcmp, 0, 0) :: (3, .ifCond .eq (18), 0, 0) :: (1, .aload_n 0, 0, 0) :: (1, .iload_n 1, 0, 0) :: (1, .iload_n 2, 0, 0) :: (3, .invokevirtual 89, 53, 7) :: mt_Routes_layTree_29),
  (38, [true, true, true], (3, .iinc 2 (1), 0, 0) :: (3, .goto (-39), 0, 0) :: []),
  (44, [false, false, false], (1, .return_, 0, 0) :: [])]
def mb_Routes_isInTree : ma_Tb := [(0, [true, true, true], (1, .iload_n 2, 0, 0) :: (1, .aload_n 0, 0, 0) :: (3, .getfield 16, 7, 1) :: (1, .iload_n 1, 0, 0) :: (1, .iaload, 0, 0) :: (3, .if_icmp .eq (14), 0, 0) :: (1, .aload_n 0, 0, 0) :: (3, .getfield 11, 7, 0) :: (1, .iload_n 1, 0, 0) :: (1, .aaload, 0, 0) :: (1, .iload_n 2, 0, 0) :: (1, .iaload, 0, 0) :: (3, .ifCond .lt (7), 0, 0) :: []),
  (21, [false, false, false], (1, .iconst (1), 0, 1) :: (3, .goto (4), 0, 0) :: []),
  (25, [false, false, false], (1, .iconst (0), 0, 0) :: []),
  (26, [false, false, false], (1, .ireturn, 0, 0) :: [])]
def mt_Routes_addWay_5 : List ma_AI := (1, .iconst (0), 0, 0) :: (1, .istore_n 3, 0, 0) :: []
def mt_Routes_addWay_24 : List ma_AI := (2, .istore 4, 0, 0) :: (1, .aload_n 0, 0, 0) :: (3, .getfield 36, 7, 7) :: (2, .iload 4, 0, 0) :: (1, .iconst (1), 0, 1) :: (1, .bastore, 0, 0) :: (2, .iload 4, 0, 0) :: (1, .iload_n 2, 0, 0) :: (3, .if_icmp .ne (6), 0, 0) :: (3, .goto (15), 0, 0) :: []
def mt_Routes_addWay_49 : List ma_AI := (3, .iinc 3 (1), 0, 0) :: (3, .goto (-45), 0, 0) :: []
def mt_Routes_addWay_61 : List ma_AI := (1, .return_, 0, 0) :: []
def mb_Routes_addWay : ma_Tb := [(0, [true, true, true, false, false], (1, .aload_n 0, 0, 0) :: (1, .iload_n 1, 0, 0) :: (3, .invokevirtual 97, 55, 7) :: mt_Routes_addWay_5),
  (7, [true, true, true, true, false], (1, .iload_n 3, 0, 0) :: (2, .bipush (49), 0, 49) :: (3, .if_icmp .ge (45), 0, 0) :: (1, .aload_n 0, 0, 0) :: (3, .getfield 100, 7, 9) :: (3, .ifCond .le (38), 0, 0) :: (1, .aload_n 0, 0, 0) :: (3, .invokevirtual 103, 56, 7) :: mt_Routes_addWay_24),
  (43, [true, true, true, true, true], (1, .aload_n 0, 0, 0) :: (2, .iload 4, 0, 0) :: (3, .invokevirtual 107, 57, 7) :: mt_Routes_addWay_49),
  (55, [true, true, true, false, false], (1, .aload_n 0, 0, 0) :: (1, .iload_n 1, 0, 0) :: (1, .iload_n 2, 0, 0) :: (3, .invokevirtual 110, 60, 7) :: mt_Routes_addWay_61)]
def mt_Routes_openTree_40 : List ma_AI := (3, .ifCond .eq (30), 0, 0) :: (1, .aload_n 0, 0, 0) :: (3, .getfield 30, 7, 5) :: (1, .iload_n 2, 0, 0) :: (1, .iconst (0), 0, 0) :: (1, .iastore, 0, 0) :: (1, .aload_n 0, 0, 0) :: (3, .getfield 40, 7, 8) :: (1, .aload_n 0, 0, 0) :: (3, .getfield 100, 7, 9) :: (1, .iload_n 2, 0, 0) :: (1, .iastore, 0, 0) :: (1, .aload_n 0, 0, 0) :: (1, .dup, 0, 0) :: (3, .getfield 100, 7, 9) :: (1, .iconst (1), 0, 1) :: (1, .iadd, 0, 0) :: (3, .putfield 100, 7, 9) :: []
def mb_Routes_openTree : ma_Tb := [(0, [true, true, false], (1, .aload_n 0, 0, 0) :: (1, .iconst (0), 0, 0) :: (3, .putfield 100, 7, 9) :: (1, .iconst (0), 0, 0) :: (1, .istore_n 2, 0, 0) :: []),
  (7, [true, true, true], (1, .iload_n 2, 0, 0) :: (2, .bipush (49), 0, 49) :: (3, .if_icmp .ge (66), 0, 0) :: (1, .aload_n 0, 0, 0) :: (3, .getfield 36, 7, 7) :: (1, .iload_n 2, 0, 0) :: (1, .iconst (0), 0, 0) :: (1, .bastore, 0, 0) :: (1, .aload_n 0, 0, 0) :: (3, .getfield 30, 7, 5) :: (1, .iload_n 2, 0, 0) :: (1, .iconst (-1), 0, (-1)) :: (1, .iastore, 0, 0) :: (1, .aload_n 0, 0, 0) :: (3, .getfield 33, 7, 6) :: (1, .iload_n 2, 0, 0) :: (1, .iconst (-1), 0, (-1)) :: (1, .iastore, 0, 0) :: (1, .aload_n 0, 0, 0) :: (1, .iload_n 1, 0, 0) :: (1, .iload_n 2, 0, 0) :: (3, .invokevirtual 89, 53, 7) :: mt_Routes_openTree_40),
  (70, [true, true, true], (3, .iinc 2 (1), 0, 0) :: (3, .goto (-66), 0, 0) :: []),
  (76, [false, false, false], (1, .return_, 0, 0) :: [])]
def mb_Routes_takeCheapest : ma_Tb := [(0, [true, false, false, false], (1, .iconst (0), 0, 0) :: (1, .istore_n 1, 0, 0) :: (1, .iconst (1), 0, 1) :: (1, .istore_n 2, 0, 0) :: []),
  (4, [true, true, true, false], (1, .iload_n 2, 0, 0) :: (1, .aload_n 0, 0, 0) :: (3, .getfield 100, 7, 9) :: (3, .if_icmp .ge (58), 0, 0) :: (1, .aload_n 0, 0, 0) :: (3, .getfield 30, 7, 5) :: (1, .aload_n 0, 0, 0) :: (3, .getfield 40, 7, 8) :: (1, .iload_n 1, 0, 0) :: (1, .iaload, 0, 0) :: (1, .iaload, 0, 0) :: (1, .aload_n 0, 0, 0) :: (3, .getfield 30, 7, 5) :: (1, .aload_n 0, 0, 0) :: (3, .getfield 40, 7, 8) :: (1, .iload_n 2, 0, 0) :: (1, .iaload, 0, 0) :: (1, .iaload, 0, 0) :: (1, .isub, 0, 0) :: (1, .istore_n 3, 0, 0) :: (1, .iload_n 3, 0, 0) :: (3, .ifCond .gt (22), 0, 0) :: (1, .iload_n 3, 0, 0) :: (3, .ifCond .ne (20), 0, 0) :: (1, .aload_n 0, 0, 0) :: (3, .getfield 40, 7, 8) :: (1, .iload_n 2, 0, 0) :: (1, .iaload, 0, 0) :: (1, .aload_n 0, 0, 0) :: (3, .getfield 40, 7, 8) :: (1, .iload_n 1, 0, 0) :: (1, .iaload, 0, 0) :: (3, .if_icmp .ge (5), 0, 0) :: []),
  (59, [true, false, true, false], (1, .iload_n 2, 0, 0) :: (1, .istore_n 1, 0, 0) :: []),
  (61, [true, true, true, false], (3, .iinc 2 (1), 0, 0) :: (3, .goto (-60), 0, 0) :: []),
  (67, [true, true, false, false], (1, .aload_n 0, 0, 0) :: (3, .getfield 40, 7, 8) :: (1, .iload_n 1, 0, 0) :: (1, .iaload, 0, 0) :: (1, .istore_n 2, 0, 0) :: (1, .aload_n 0, 0, 0) :: (1, .dup, 0, 0) :: (3, .getfield 100, 7, 9) :: (1, .iconst (1), 0, 1) :: (1, .isub, 0, 0) :: (3, .putfield 100, 7, 9) :: (1, .aload_n 0, 0, 0) :: (3, .getfield 40, 7, 8) :: (1, .iload_n 1, 0, 0) :: (1, .aload_n 0, 0, 0) :: (3, .getfield 40, 7, 8) :: (1, .aload_n 0, 0, 0) :: (3, .getfield 100, 7, 9) :: (1, .iaload, 0, 0) :: (1, .iastore, 0, 0) :: (1, .iload_n 2, 0, 0) :: (1, .ireturn, 0, 0) :: [])]
def mb_Routes_openNeighbours : ma_Tb := [(0, [true, true, false, false, false], (1, .iload_n 1, 0, 0) :: (2, .bipush (7), 0, 7) :: (1, .idiv, 0, 0) :: (1, .istore_n 2, 0, 0) :: (1, .iload_n 1, 0, 0) :: (2, .bipush (7), 0, 7) :: (1, .irem, 0, 0) :: (1, .istore_n 3, 0, 0) :: (2, .bipush (42), 0, 42) :: (2, .bipush (6), 0, 6) :: (1, .iload_n 2, 0, 0) :: (1, .imul, 0, 0) :: (1, .iadd, 0, 0) :: (1, .iload_n 3, 0, 0) :: (1, .iadd, 0, 0) :: (2, .istore 4, 0, 0) :: (1, .iload_n 2, 0, 0) :: (3, .ifCond .le (16), 0, 0) :: (1, .aload_n 0, 0, 0) :: (1, .iload_n 1, 0, 0) :: (1, .iload_n 1, 0, 0) :: (2, .bipush (7), 0, 7) :: (1, .isub, 0, 0) :: (1, .iload_n 1, 0, 0) :: (2, .bipush (7), 0, 7) :: (1, .isub, 0, 0) :: (3, .invokevirtual 113, 58, 7) :: []),
  (38, [true, true, true, true, true], (1, .iload_n 2, 0, 0) :: (2, .bipush (6), 0, 6) :: (3, .if_icmp .ge (13), 0, 0) :: (1, .aload_n 0, 0, 0) :: (1, .iload_n 1, 0, 0) :: (1, .iload_n 1, 0, 0) :: (1, .iload_n 1, 0, 0) :: (2, .bipush (7), 0, 7) :: (1, .iadd, 0, 0) :: (3, .invokevirtual 113, 58, 7) :: []),
  (54, [true, true, false, true, true], (1, .iload_n 3, 0, 0) :: (3, .ifCond .le (15), 0, 0) :: (1, .aload_n 0, 0, 0) :: (1, .iload_n 1, 0, 0) :: (2, .iload 4, 0, 0) :: (1, .iconst (1), 0, 1) :: (1, .isub, 0, 0) :: (1, .iload_n 1, 0, 0) :: (1, .iconst (1), 0, 1) :: (1, .isub, 0, 0) :: (3, .invokevirtual 113, 58, 7) :: []),
  (70, [true, true, false, true, true], (1, .iload_n 3, 0, 0) :: (2, .bipush (6), 0, 6) :: (3, .if_icmp .ge (13), 0, 0) :: (1, .aload_n 0, 0, 0) :: (1, .iload_n 1, 0, 0) :: (2, .iload 4, 0, 0) :: (1, .iload_n 1, 0, 0) :: (1, .iconst (1), 0, 1) :: (1, .iadd, 0, 0) :: (3, .invokevirtual 113, 58, 7) :: []),
  (86, [false, false, false, false, false], (1, .return_, 0, 0) :: [])]
def mt_Routes_offerWay_21 : List ma_AI := (1, .iadd, 0, 0) :: (2, .istore 4, 0, 0) :: (1, .aload_n 0, 0, 0) :: (3, .getfield 30, 7, 5) :: (1, .iload_n 3, 0, 0) :: (1, .iaload, 0, 0) :: (3, .ifCond .ge (26), 0, 0) :: (1, .aload_n 0, 0, 0) :: (3, .getfield 40, 7, 8) :: (1, .aload_n 0, 0, 0) :: (3, .getfield 100, 7, 9) :: (1, .iload_n 3, 0, 0) :: (1, .iastore, 0, 0) :: (1, .aload_n 0, 0, 0) :: (1, .dup, 0, 0) :: (3, .getfield 100, 7, 9) :: (1, .iconst (1), 0, 1) :: (1, .iadd, 0, 0) :: (3, .putfield 100, 7, 9) :: (3, .goto (15), 0, 0) :: []
def mb_Routes_offerWay : ma_Tb := [(0, [true, true, true, true, false], (1, .aload_n 0, 0, 0) :: (3, .getfield 36, 7, 7) :: (1, .iload_n 3, 0, 0) :: (1, .baload, 0, 0) :: (3, .ifCond .eq (4), 0, 0) :: (1, .return_, 0, 0) :: []),
  (10, [true, true, true, true, false], (1, .aload_n 0, 0, 0) :: (3, .getfield 30, 7, 5) :: (1, .iload_n 1, 0, 0) :: (1, .iaload, 0, 0) :: (1, .aload_n 0, 0, 0) :: (1, .iload_n 2, 0, 0) :: (3, .invokevirtual 117, 59, 7) :: mt_Routes_offerWay_21),
  (56, [true, false, true, true, true], (1, .aload_n 0, 0, 0) :: (3, .getfield 30, 7, 5) :: (1, .iload_n 3, 0, 0) :: (1, .iaload, 0, 0) :: (2, .iload 4, 0, 0) :: (3, .if_icmp .gt (4), 0, 0) :: (1, .return_, 0, 0) :: []),
  (68, [true, false, true, true, true], (1, .aload_n 0, 0, 0) :: (3, .getfield 30, 7, 5) :: (1, .iload_n 3, 0, 0) :: (2, .iload 4, 0, 0) :: (1, .iastore, 0, 0) :: (1, .aload_n 0, 0, 0) :: (3, .getfield 33, 7, 6) :: (1, .iload_n 3, 0, 0) :: (1, .iload_n 2, 0, 0) :: (1, .iastore, 0, 0) :: (1, .return_, 0, 0) :: [])]
def mb_Routes_tollOf : ma_Tb := [(0, [true, true, false], (1, .aload_n 0, 0, 0) :: (3, .getfield 20, 7, 2) :: (1, .iload_n 1, 0, 0) :: (1, .iaload, 0, 0) :: (1, .iconst (1), 0, 1) :: (1, .iadd, 0, 0) :: (1, .iconst (2), 0, 2) :: (1, .isub, 0, 0) :: (1, .istore_n 2, 0, 0) :: (1, .iconst (1), 0, 1) :: (1, .aload_n 0, 0, 0) :: (3, .getfield 27, 7, 4) :: (1, .iload_n 1, 0, 0) :: (1, .iaload, 0, 0) :: (1, .iadd, 0, 0) :: (1, .iload_n 2, 0, 0) :: (3, .ifCond .le (14), 0, 0) :: (1, .iconst (4), 0, 4) :: (1, .aload_n 0, 0, 0) :: (3, .getfield 56, 7, 10) :: (1, .imul, 0, 0) :: (1, .iload_n 2, 0, 0) :: (1, .imul, 0, 0) :: (3, .goto (4), 0, 0) :: []),
  (34, [false, false, false], (1, .iconst (0), 0, 0) :: []),
  (35, [false, false, false], (1, .iadd, 0, 0) :: (1, .ireturn, 0, 0) :: [])]
def mt_Routes_takeWay_34 : List ma_AI := (3, .ifCond .ne (4), 0, 0) :: (1, .return_, 0, 0) :: []
def mt_Routes_takeWay_18 : List ma_AI := (3, .ifCond .ne (54), 0, 0) :: (1, .aload_n 0, 0, 0) :: (3, .getfield 33, 7, 6) :: (1, .iload_n 3, 0, 0) :: (1, .iaload, 0, 0) :: (2, .istore 5, 0, 0) :: (2, .iload 5, 0, 0) :: (3, .invokestatic 85, 51, 0) :: mt_Routes_takeWay_34
def mt_Routes_takeWay_65 : List ma_AI := (1, .istore_n 3, 0, 0) :: (3, .iinc 4 (1), 0, 0) :: (3, .goto (-64), 0, 0) :: []
def mb_Routes_takeWay : ma_Tb := [(0, [true, true, true, false, false, false], (1, .iload_n 2, 0, 0) :: (1, .istore_n 3, 0, 0) :: (1, .iconst (0), 0, 0) :: (2, .istore 4, 0, 0) :: []),
  (5, [true, true, false, true, true, false], (2, .iload 4, 0, 0) :: (2, .bipush (49), 0, 49) :: (3, .if_icmp .ge (63), 0, 0) :: (1, .aload_n 0, 0, 0) :: (1, .iload_n 1, 0, 0) :: (1, .iload_n 3, 0, 0) :: (3, .invokevirtual 89, 53, 7) :: mt_Routes_takeWay_18),
  (38, [true, true, false, true, true, true], (1, .aload_n 0, 0, 0) :: (3, .getfield 11, 7, 0) :: (1, .iload_n 1, 0, 0) :: (1, .aaload, 0, 0) :: (1, .iload_n 3, 0, 0) :: (2, .iload 5, 0, 0) :: (1, .iastore, 0, 0) :: (1, .aload_n 0, 0, 0) :: (3, .getfield 20, 7, 2) :: (2, .iload 5, 0, 0) :: (1, .dup2, 0, 0) :: (1, .iaload, 0, 0) :: (1, .iconst (1), 0, 1) :: (1, .iadd, 0, 0) :: (1, .iastore, 0, 0) :: (2, .iload 5, 0, 0) :: (1, .iload_n 3, 0, 0) :: (3, .invokestatic 121, 61, 0) :: mt_Routes_takeWay_65),
  (72, [false, false, false, false, false, false], (1, .return_, 0, 0) :: [])]
def mt_Routes_otherEnd_4 : List ma_AI := (1, .istore_n 2, 0, 0) :: (1, .iload_n 2, 0, 0) :: (1, .iload_n 0, 0, 0) :: (2, .bipush (42), 0, 42) :: (3, .if_icmp .ge (8), 0, 0) :: (2, .bipush (7), 0, 7) :: (3, .goto (4), 0, 0) :: []
def mb_Routes_otherEnd : ma_Tb := [(0, [true, true, false, false], (1, .iload_n 0, 0, 0) :: (3, .invokestatic 124, 62, 0) :: mt_Routes_otherEnd_4),
  (17, [false, true, true, false], (1, .iconst (1), 0, 1) :: []),
  (18, [false, true, true, false], (1, .iadd, 0, 0) :: (1, .istore_n 3, 0, 0) :: (1, .iload_n 1, 0, 0) :: (1, .iload_n 2, 0, 0) :: (3, .if_icmp .ne (7), 0, 0) :: (1, .iload_n 3, 0, 0) :: (3, .goto (4), 0, 0) :: []),
  (29, [false, false, true, false], (1, .iload_n 2, 0, 0) :: []),
  (30, [false, false, false, false], (1, .ireturn, 0, 0) :: [])]
def mb_Routes_lowEnd : ma_Tb := [(0, [true, false], (1, .iload_n 0, 0, 0) :: (2, .bipush (42), 0, 42) :: (3, .if_icmp .ge (5), 0, 0) :: (1, .iload_n 0, 0, 0) :: (1, .ireturn, 0, 0) :: []),
  (8, [true, false], (1, .iload_n 0, 0, 0) :: (2, .bipush (42), 0, 42) :: (1, .isub, 0, 0) :: (1, .istore_n 1, 0, 0) :: (2, .bipush (7), 0, 7) :: (1, .iload_n 1, 0, 0) :: (2, .bipush (6), 0, 6) :: (1, .idiv, 0, 0) :: (1, .imul, 0, 0) :: (1, .iload_n 1, 0, 0) :: (2, .bipush (6), 0, 6) :: (1, .irem, 0, 0) :: (1, .iadd, 0, 0) :: (1, .ireturn, 0, 0) :: [])]
def mb_Routes_raisePrices : ma_Tb := [(0, [true, false], (1, .iconst (0), 0, 0) :: (1, .istore_n 1, 0, 0) :: []),
  (2, [true, true], (1, .iload_n 1, 0, 0) :: (2, .bipush (84), 0, 84) :: (3, .if_icmp .ge (30), 0, 0) :: (1, .aload_n 0, 0, 0) :: (3, .getfield 27, 7, 4) :: (1, .iload_n 1, 0, 0) :: (1, .dup2, 0, 0) :: (1, .iaload, 0, 0) :: (1, .iconst (0), 0, 0) :: (1, .aload_n 0, 0, 0) :: (3, .getfield 20, 7, 2) :: (1, .iload_n 1, 0, 0) :: (1, .iaload, 0, 0) :: (1, .iconst (2), 0, 2) :: (1, .isub, 0, 0) :: (3, .invokestatic 79, 10002, 0) :: (1, .iadd, 0, 0) :: (1, .iastore, 0, 0) :: (3, .iinc 1 (1), 0, 0) :: (3, .goto (-30), 0, 0) :: []),
  (35, [false, false], (1, .return_, 0, 0) :: [])]
def mt_LatticefitLaw_build_4 : List ma_AI := (1, .ireturn, 0, 0) :: []
def mb_LatticefitLaw_build : ma_Tb := [(0, [true, false], (1, .aload_n 0, 0, 0) :: (3, .invokevirtual 60, 65, 10) :: mt_LatticefitLaw_build_4),
  (5, [false, false], (1, .astore_n 1, 0, 0) :: (2, .ldc 17, 0, (-900001)) :: (1, .ireturn, 0, 0) :: [])]
def mt_Latticefit_build_24 : List ma_AI := (1, .ireturn, 0, 0) :: []
def mt_Latticefit_build_12 : List ma_AI := (1, .aload_n 0, 0, 0) :: (1, .iconst (3), 0, 3) :: (3, .putfield 87, 10, 10) :: (1, .aload_n 0, 0, 0) :: (3, .getfield 60, 10, 6) :: (3, .invokevirtual 266, 78, 5) :: mt_Latticefit_build_24
def mt_Latticefit_build_5 : List ma_AI := (1, .aload_n 0, 0, 0) :: (3, .getfield 69, 10, 7) :: (3, .invokevirtual 263, 66, 1) :: mt_Latticefit_build_12
def mb_Latticefit_build : ma_Tb := [(0, [true], (1, .aload_n 0, 0, 0) :: (1, .iconst (2), 0, 2) :: (3, .invokevirtual 207, 28, 10) :: mt_Latticefit_build_5)]
def mt_Builder_fillFrames_7 : List ma_AI := (1, .iconst (0), 0, 0) :: (1, .istore_n 1, 0, 0) :: []
def mt_Builder_fillFrames_25 : List ma_AI := (3, .iinc 1 (1), 0, 0) :: (3, .goto (-19), 0, 0) :: []
def mt_Builder_fillFrames_49 : List ma_AI := (3, .iinc 1 (1), 0, 0) :: (3, .goto (-19), 0, 0) :: []
def mt_Builder_fillFrames_98 : List ma_AI := (1, .iastore, 0, 0) :: (3, .iinc 1 (1), 0, 0) :: (3, .goto (-45), 0, 0) :: []
def mt_Builder_fillFrames_95 : List ma_AI := (3, .invokevirtual 71, 70, 1) :: mt_Builder_fillFrames_98
def mb_Builder_fillFrames : ma_Tb := [(0, [true, false, false], (1, .aload_n 0, 0, 0) :: (3, .getfield 27, 1, 4) :: (3, .invokevirtual 31, 67, 5) :: mt_Builder_fillFrames_7),
  (9, [true, true, false], (1, .iload_n 1, 0, 0) :: (1, .aload_n 0, 0, 0) :: (3, .getfield 15, 1, 1) :: (3, .getfield 36, 0, 7) :: (3, .if_icmp .ge (14), 0, 0) :: (1, .aload_n 0, 0, 0) :: (1, .iload_n 1, 0, 0) :: (3, .invokevirtual 42, 68, 1) :: mt_Builder_fillFrames_25),
  (31, [true, false, false], (1, .iconst (0), 0, 0) :: (1, .istore_n 1, 0, 0) :: []),
  (33, [true, true, false], (1, .iload_n 1, 0, 0) :: (1, .aload_n 0, 0, 0) :: (3, .getfield 9, 1, 0) :: (3, .getfield 46, 3, 10) :: (3, .if_icmp .ge (14), 0, 0) :: (1, .aload_n 0, 0, 0) :: (1, .iload_n 1, 0, 0) :: (3, .invokevirtual 51, 74, 1) :: mt_Builder_fillFrames_49),
  (55, [true, false, false], (1, .iconst (0), 0, 0) :: (1, .istore_n 1, 0, 0) :: []),
  (57, [true, true, false], (1, .iload_n 1, 0, 0) :: (1, .aload_n 0, 0, 0) :: (3, .getfield 9, 1, 0) :: (3, .getfield 54, 3, 13) :: (3, .if_icmp .ge (40), 0, 0) :: (1, .aload_n 0, 0, 0) :: (3, .getfield 9, 1, 0) :: (3, .getfield 57, 3, 9) :: (1, .iload_n 1, 0, 0) :: (1, .iaload, 0, 0) :: (1, .istore_n 2, 0, 0) :: (1, .aload_n 0, 0, 0) :: (3, .getfield 27, 1, 4) :: (3, .getfield 61, 5, 0) :: (2, .bipush (13), 0, 13) :: (1, .aaload, 0, 0) :: (1, .iload_n 1, 0, 0) :: (1, .aload_n 0, 0, 0) :: (1, .iload_n 2, 0, 0) :: (1, .iload_n 1, 0, 0) :: (3, .invokestatic 65, 42, 0) :: mt_Builder_fillFrames_95),
  (105, [false, false, false], (1, .return_, 0, 0) :: [])]
def mt_Frames_clear_18 : List ma_AI := (3, .iinc 1 (1), 0, 0) :: (3, .goto (-19), 0, 0) :: []
def mb_Frames_clear : ma_Tb := [(0, [true, false], (1, .iconst (0), 0, 0) :: (1, .istore_n 1, 0, 0) :: []),
  (2, [true, true], (1, .iload_n 1, 0, 0) :: (2, .bipush (14), 0, 14) :: (3, .if_icmp .ge (19), 0, 0) :: (1, .aload_n 0, 0, 0) :: (3, .getfield 11, 5, 0) :: (1, .iload_n 1, 0, 0) :: (1, .aaload, 0, 0) :: (1, .iconst (0), 0, 0) :: (3, .invokestatic 16, 19, 0) :: mt_Frames_clear_18),
  (24, [false, false], (1, .return_, 0, 0) :: [])]
def mt_Builder_putBlock_28 : List ma_AI := (1, .iconst (0), 0, 0) :: (1, .istore_n 3, 0, 0) :: []
def mt_Builder_putBlock_77 : List ma_AI := (3, .iinc 3 (1), 0, 0) :: (3, .goto (-50), 0, 0) :: []
def mt_Builder_putBlock_62 : List ma_AI := (2, .istore 4, 0, 0) :: (1, .aload_n 0, 0, 0) :: (3, .getfield 27, 1, 4) :: (1, .iload_n 2, 0, 0) :: (1, .iconst (1), 0, 1) :: (1, .iload_n 3, 0, 0) :: (1, .iadd, 0, 0) :: (2, .iload 4, 0, 0) :: (3, .invokevirtual 81, 69, 5) :: mt_Builder_putBlock_77
def mt_Builder_putBlock_59 : List ma_AI := (3, .invokevirtual 71, 70, 1) :: mt_Builder_putBlock_62
def mb_Builder_putBlock : ma_Tb := [(0, [true, true, false, false, false], (1, .aload_n 0, 0, 0) :: (3, .getfield 19, 1, 2) :: (3, .getfield 75, 6, 0) :: (1, .iload_n 1, 0, 0) :: (1, .iaload, 0, 0) :: (1, .istore_n 2, 0, 0) :: (1, .aload_n 0, 0, 0) :: (3, .getfield 27, 1, 4) :: (1, .iload_n 2, 0, 0) :: (1, .iconst (0), 0, 0) :: (1, .aload_n 0, 0, 0) :: (3, .getfield 15, 1, 1) :: (3, .getfield 78, 0, 2) :: (1, .iload_n 1, 0, 0) :: (1, .iaload, 0, 0) :: (3, .invokevirtual 81, 69, 5) :: mt_Builder_putBlock_28),
  (30, [true, true, true, true, false], (1, .iload_n 3, 0, 0) :: (1, .aload_n 0, 0, 0) :: (3, .getfield 15, 1, 1) :: (3, .getfield 85, 0, 3) :: (1, .iload_n 1, 0, 0) :: (1, .iaload, 0, 0) :: (3, .if_icmp .ge (43), 0, 0) :: (1, .aload_n 0, 0, 0) :: (1, .aload_n 0, 0, 0) :: (3, .getfield 15, 1, 1) :: (3, .getfield 88, 0, 4) :: (1, .iload_n 1, 0, 0) :: (1, .aaload, 0, 0) :: (1, .iload_n 3, 0, 0) :: (1, .iaload, 0, 0) :: (1, .iload_n 2, 0, 0) :: (3, .invokestatic 91, 40, 0) :: mt_Builder_putBlock_59),
  (83, [true, true, true, false, false], (1, .aload_n 0, 0, 0) :: (3, .getfield 15, 1, 1) :: (3, .getfield 94, 0, 1) :: (1, .iload_n 1, 0, 0) :: (1, .iaload, 0, 0) :: (1, .istore_n 3, 0, 0) :: (1, .iload_n 3, 0, 0) :: (3, .ifCond .lt (41), 0, 0) :: (1, .iconst (1), 0, 1) :: (1, .iconst (2), 0, 2) :: (1, .aload_n 0, 0, 0) :: (3, .getfield 9, 1, 0) :: (3, .getfield 97, 3, 4) :: (1, .iload_n 3, 0, 0) :: (1, .iaload, 0, 0) :: (1, .imul, 0, 0) :: (1, .iadd, 0, 0) :: (1, .iconst (4), 0, 4) :: (1, .aload_n 0, 0, 0) :: (3, .getfield 9, 1, 0) :: (3, .getfield 100, 3, 5) :: (1, .iload_n 3, 0, 0) :: (1, .iaload, 0, 0) :: (1, .imul, 0, 0) :: (1, .iadd, 0, 0) :: (2, .istore 4, 0, 0) :: (1, .aload_n 0, 0, 0) :: (3, .getfield 27, 1, 4) :: (1, .iload_n 2, 0, 0) :: (1, .iconst (5), 0, 5) :: (2, .iload 4, 0, 0) :: (3, .invokevirtual 81, 69, 5) :: []),
  (135, [false, false, false, false, false], (1, .return_, 0, 0) :: [])]
def mb_Frames_putCellWord : ma_Tb := [(0, [true, true, true, true], (1, .aload_n 0, 0, 0) :: (3, .getfield 11, 5, 0) :: (1, .iload_n 1, 0, 0) :: (2, .bipush (6), 0, 6) :: (1, .idiv, 0, 0) :: (1, .aaload, 0, 0) :: (2, .bipush (6), 0, 6) :: (1, .iload_n 1, 0, 0) :: (2, .bipush (6), 0, 6) :: (1, .irem, 0, 0) :: (1, .imul, 0, 0) :: (1, .iload_n 2, 0, 0) :: (1, .iadd, 0, 0) :: (1, .iload_n 3, 0, 0) :: (1, .iastore, 0, 0) :: (1, .return_, 0, 0) :: [])]
def mt_Builder_codeAt_27 : List ma_AI := (1, .ireturn, 0, 0) :: []
def mt_Builder_codeAt_16 : List ma_AI := (3, .ifCond .ne (12), 0, 0) :: (1, .aload_n 0, 0, 0) :: (3, .getfield 19, 1, 2) :: (1, .iload_n 1, 0, 0) :: (3, .invokevirtual 119, 71, 6) :: mt_Builder_codeAt_27
def mt_Builder_codeAt_42 : List ma_AI := (1, .iadd, 0, 0) :: (1, .ireturn, 0, 0) :: []
def mb_Builder_codeAt : ma_Tb := [(0, [true, true, true, false], (1, .aload_n 0, 0, 0) :: (3, .getfield 23, 1, 3) :: (3, .getfield 103, 7, 0) :: (1, .iload_n 1, 0, 0) :: (1, .aaload, 0, 0) :: (1, .iload_n 2, 0, 0) :: (1, .iaload, 0, 0) :: (1, .istore_n 3, 0, 0) :: (1, .iload_n 3, 0, 0) :: (3, .invokestatic 108, 51, 0) :: mt_Builder_codeAt_16),
  (28, [true, true, false, true], (1, .iconst (1), 0, 1) :: (1, .iconst (2), 0, 2) :: (1, .iload_n 3, 0, 0) :: (1, .imul, 0, 0) :: (1, .iadd, 0, 0) :: (1, .aload_n 0, 0, 0) :: (3, .getfield 23, 1, 3) :: (1, .iload_n 1, 0, 0) :: (1, .iload_n 3, 0, 0) :: (3, .invokevirtual 122, 72, 7) :: mt_Builder_codeAt_42)]
def mt_Places_sourceCode_59 : List ma_AI := (1, .imul, 0, 0) :: (1, .iadd, 0, 0) :: (1, .ireturn, 0, 0) :: []
def mb_Places_sourceCode : ma_Tb := [(0, [true, true, false], (1, .aload_n 0, 0, 0) :: (3, .getfield 37, 6, 8) :: (3, .getfield 60, 3, 0) :: (1, .iload_n 1, 0, 0) :: (1, .caload, 0, 0) :: (2, .bipush (105), 0, 105) :: (3, .if_icmp .ne (17), 0, 0) :: (3, .sipush (300), 0, 300) :: (1, .aload_n 0, 0, 0) :: (3, .getfield 37, 6, 8) :: (3, .getfield 66, 3, 6) :: (1, .iload_n 1, 0, 0) :: (1, .iaload, 0, 0) :: (1, .iadd, 0, 0) :: (1, .ireturn, 0, 0) :: []),
  (28, [true, true, false], (1, .aload_n 0, 0, 0) :: (3, .getfield 37, 6, 8) :: (3, .getfield 60, 3, 0) :: (1, .iload_n 1, 0, 0) :: (1, .caload, 0, 0) :: (2, .bipush (114), 0, 114) :: (3, .if_icmp .ne (9), 0, 0) :: (3, .sipush (201), 0, 201) :: (3, .goto (6), 0, 0) :: []),
  (48, [true, true, false], (3, .sipush (200), 0, 200) :: []),
  (51, [true, true, false], (1, .istore_n 2, 0, 0) :: (1, .iload_n 2, 0, 0) :: (1, .iconst (2), 0, 2) :: (1, .aload_n 0, 0, 0) :: (1, .iload_n 1, 0, 0) :: (3, .invokevirtual 69, 36, 6) :: mt_Places_sourceCode_59)]
def mt_Routes_wire_19 : List ma_AI := (3, .ifCond .eq (7), 0, 0) :: (1, .iconst (1), 0, 1) :: (3, .goto (4), 0, 0) :: []
def mb_Routes_wire : ma_Tb := [(0, [true, true, true, false, false], (1, .iconst (0), 0, 0) :: (1, .istore_n 3, 0, 0) :: (1, .iconst (0), 0, 0) :: (2, .istore 4, 0, 0) :: []),
  (5, [true, true, true, true, true], (2, .iload 4, 0, 0) :: (1, .iload_n 1, 0, 0) :: (3, .if_icmp .ge (27), 0, 0) :: (1, .iload_n 3, 0, 0) :: (1, .aload_n 0, 0, 0) :: (2, .iload 4, 0, 0) :: (1, .iload_n 2, 0, 0) :: (3, .invokevirtual 127, 73, 7) :: mt_Routes_wire_19),
  (26, [true, true, true, false, true], (1, .iconst (0), 0, 0) :: []),
  (27, [true, true, true, false, true], (1, .iadd, 0, 0) :: (1, .istore_n 3, 0, 0) :: (3, .iinc 4 (1), 0, 0) :: (3, .goto (-27), 0, 0) :: []),
  (35, [false, false, false, true, false], (1, .iload_n 3, 0, 0) :: (1, .ireturn, 0, 0) :: [])]
def mt_Routes_has_28 : List ma_AI := (1, .iaload, 0, 0) :: (1, .iload_n 2, 0, 0) :: (3, .if_icmp .ne (7), 0, 0) :: []
def mt_Routes_has_4 : List ma_AI := (1, .istore_n 3, 0, 0) :: (1, .aload_n 0, 0, 0) :: (3, .getfield 11, 7, 0) :: (1, .iload_n 1, 0, 0) :: (1, .aaload, 0, 0) :: (1, .iload_n 3, 0, 0) :: (1, .iaload, 0, 0) :: (1, .iload_n 2, 0, 0) :: (3, .if_icmp .eq (19), 0, 0) :: (1, .aload_n 0, 0, 0) :: (3, .getfield 11, 7, 0) :: (1, .iload_n 1, 0, 0) :: (1, .aaload, 0, 0) :: (1, .iload_n 2, 0, 0) :: (1, .iload_n 3, 0, 0) :: (3, .invokestatic 121, 61, 0) :: mt_Routes_has_28
def mb_Routes_has : ma_Tb := [(0, [true, true, true, false], (1, .iload_n 2, 0, 0) :: (3, .invokestatic 124, 62, 0) :: mt_Routes_has_4),
  (33, [false, false, false, false], (1, .iconst (1), 0, 1) :: (3, .goto (4), 0, 0) :: []),
  (37, [false, false, false, false], (1, .iconst (0), 0, 0) :: []),
  (38, [false, false, false, false], (1, .ireturn, 0, 0) :: [])]
def mt_Builder_putNet_51 : List ma_AI := (3, .invokevirtual 115, 75, 5) :: []
def mt_Builder_putNet_44 : List ma_AI := (1, .aload_n 0, 0, 0) :: (1, .iload_n 1, 0, 0) :: (2, .iload 4, 0, 0) :: (3, .invokevirtual 71, 70, 1) :: mt_Builder_putNet_51
def mt_Builder_putNet_32 : List ma_AI := (2, .istore 4, 0, 0) :: (1, .aload_n 0, 0, 0) :: (3, .getfield 27, 1, 4) :: (1, .aload_n 0, 0, 0) :: (1, .iload_n 1, 0, 0) :: (1, .iload_n 2, 0, 0) :: (3, .invokevirtual 71, 70, 1) :: mt_Builder_putNet_44
def mt_Builder_putNet_24 : List ma_AI := (3, .ifCond .eq (30), 0, 0) :: (1, .iload_n 3, 0, 0) :: (1, .iload_n 2, 0, 0) :: (3, .invokestatic 112, 61, 0) :: mt_Builder_putNet_32
def mb_Builder_putNet : ma_Tb := [(0, [true, true, false, false, false], (1, .iconst (0), 0, 0) :: (1, .istore_n 2, 0, 0) :: []),
  (2, [true, true, true, false, false], (1, .iload_n 2, 0, 0) :: (2, .bipush (49), 0, 49) :: (3, .if_icmp .ge (55), 0, 0) :: (1, .aload_n 0, 0, 0) :: (3, .getfield 23, 1, 3) :: (3, .getfield 103, 7, 0) :: (1, .iload_n 1, 0, 0) :: (1, .aaload, 0, 0) :: (1, .iload_n 2, 0, 0) :: (1, .iaload, 0, 0) :: (1, .istore_n 3, 0, 0) :: (1, .iload_n 3, 0, 0) :: (3, .invokestatic 108, 51, 0) :: mt_Builder_putNet_24),
  (54, [true, true, true, false, false], (3, .iinc 2 (1), 0, 0) :: (3, .goto (-55), 0, 0) :: []),
  (60, [false, false, false, false, false], (1, .return_, 0, 0) :: [])]
def mt_Frames_putWireWord_19 : List ma_AI := (1, .iload_n 1, 0, 0) :: (1, .iconst (1), 0, 1) :: (1, .isub, 0, 0) :: (1, .iconst (2), 0, 2) :: (1, .irem, 0, 0) :: (1, .iadd, 0, 0) :: (1, .iload_n 2, 0, 0) :: (1, .iastore, 0, 0) :: (1, .return_, 0, 0) :: []
def mt_Frames_putWireWord_14 : List ma_AI := (1, .aaload, 0, 0) :: (1, .iload_n 3, 0, 0) :: (3, .invokestatic 36, 77, 0) :: mt_Frames_putWireWord_19
def mb_Frames_putWireWord : ma_Tb := [(0, [true, true, true, false], (1, .iload_n 1, 0, 0) :: (1, .iconst (1), 0, 1) :: (1, .isub, 0, 0) :: (1, .iconst (2), 0, 2) :: (1, .idiv, 0, 0) :: (1, .istore_n 3, 0, 0) :: (1, .aload_n 0, 0, 0) :: (3, .getfield 11, 5, 0) :: (1, .iload_n 3, 0, 0) :: (3, .invokestatic 33, 76, 0) :: mt_Frames_putWireWord_14)]
def mt_Frames_frameOfEdge_6 : List ma_AI := (2, .bipush (7), 0, 7) :: (1, .idiv, 0, 0) :: (1, .iadd, 0, 0) :: (1, .ireturn, 0, 0) :: []
def mb_Frames_frameOfEdge : ma_Tb := [(0, [true], (2, .bipush (6), 0, 6) :: (1, .iload_n 0, 0, 0) :: (3, .invokestatic 39, 62, 0) :: mt_Frames_frameOfEdge_6)]
def mt_Frames_indexOfEdge_4 : List ma_AI := (2, .bipush (7), 0, 7) :: (1, .irem, 0, 0) :: (1, .istore_n 1, 0, 0) :: (1, .iload_n 0, 0, 0) :: (2, .bipush (42), 0, 42) :: (3, .if_icmp .ge (7), 0, 0) :: (1, .iconst (1), 0, 1) :: (3, .goto (4), 0, 0) :: []
def mt_Frames_indexOfEdge_24 : List ma_AI := (2, .bipush (42), 0, 42) :: (3, .if_icmp .lt (7), 0, 0) :: (1, .iconst (1), 0, 1) :: (3, .goto (4), 0, 0) :: []
def mb_Frames_indexOfEdge : ma_Tb := [(0, [true, false, false, false], (1, .iload_n 0, 0, 0) :: (3, .invokestatic 39, 62, 0) :: mt_Frames_indexOfEdge_4),
  (18, [true, true, false, false], (1, .iconst (0), 0, 0) :: []),
  (19, [true, true, false, false], (1, .istore_n 2, 0, 0) :: (1, .iload_n 0, 0, 0) :: (3, .invokestatic 39, 62, 0) :: mt_Frames_indexOfEdge_24),
  (33, [false, true, true, false], (1, .iconst (0), 0, 0) :: []),
  (34, [false, true, true, false], (1, .istore_n 3, 0, 0) :: (1, .iconst (2), 0, 2) :: (1, .iload_n 2, 0, 0) :: (3, .ifCond .ne (7), 0, 0) :: (1, .iload_n 3, 0, 0) :: (3, .ifCond .eq (7), 0, 0) :: []),
  (44, [false, true, false, false], (1, .iload_n 1, 0, 0) :: (3, .goto (7), 0, 0) :: []),
  (48, [false, true, false, false], (2, .bipush (7), 0, 7) :: (1, .iload_n 1, 0, 0) :: (1, .iadd, 0, 0) :: []),
  (52, [false, false, false, false], (1, .imul, 0, 0) :: (1, .ireturn, 0, 0) :: [])]
def mb_Frames_wordsInUse : ma_Tb := [(0, [true, false, false, false], (1, .iconst (0), 0, 0) :: (1, .istore_n 1, 0, 0) :: (1, .iconst (0), 0, 0) :: (1, .istore_n 2, 0, 0) :: []),
  (4, [true, true, true, false], (1, .iload_n 2, 0, 0) :: (2, .bipush (14), 0, 14) :: (3, .if_icmp .ge (42), 0, 0) :: (1, .iconst (0), 0, 0) :: (1, .istore_n 3, 0, 0) :: []),
  (12, [true, true, true, true], (1, .iload_n 3, 0, 0) :: (2, .bipush (36), 0, 36) :: (3, .if_icmp .ge (28), 0, 0) :: (1, .iload_n 1, 0, 0) :: (1, .aload_n 0, 0, 0) :: (3, .getfield 11, 5, 0) :: (1, .iload_n 2, 0, 0) :: (1, .aaload, 0, 0) :: (1, .iload_n 3, 0, 0) :: (1, .iaload, 0, 0) :: (3, .ifCond .eq (7), 0, 0) :: (1, .iconst (1), 0, 1) :: (3, .goto (4), 0, 0) :: []),
  (34, [true, false, true, true], (1, .iconst (0), 0, 0) :: []),
  (35, [true, false, true, true], (1, .iadd, 0, 0) :: (1, .istore_n 1, 0, 0) :: (3, .iinc 3 (1), 0, 0) :: (3, .goto (-28), 0, 0) :: []),
  (43, [true, true, true, false], (3, .iinc 2 (1), 0, 0) :: (3, .goto (-42), 0, 0) :: []),
  (49, [false, true, false, false], (1, .iload_n 1, 0, 0) :: (1, .ireturn, 0, 0) :: [])]
def mt_LatticefitLaw_wordAt_6 : List ma_AI := (1, .ireturn, 0, 0) :: []
def mb_LatticefitLaw_wordAt : ma_Tb := [(0, [true, true, true, false], (1, .aload_n 0, 0, 0) :: (1, .iload_n 1, 0, 0) :: (1, .iload_n 2, 0, 0) :: (3, .invokevirtual 63, 80, 10) :: mt_LatticefitLaw_wordAt_6),
  (7, [false, false, false, false], (1, .astore_n 3, 0, 0) :: (2, .ldc 17, 0, (-900001)) :: (1, .ireturn, 0, 0) :: []),
  (11, [false, false, false, false], (1, .astore_n 3, 0, 0) :: (2, .ldc 24, 0, (-900002)) :: (1, .ireturn, 0, 0) :: []),
  (15, [false, false, false, false], (1, .astore_n 3, 0, 0) :: (2, .ldc 31, 0, (-900003)) :: (1, .ireturn, 0, 0) :: [])]
def mt_Latticefit_wordAt_15 : List ma_AI := (3, .if_icmp .lt (11), 0, 0) :: []
def mt_Latticefit_wordAt_6 : List ma_AI := (1, .iload_n 2, 0, 0) :: (3, .ifCond .lt (11), 0, 0) :: (1, .iload_n 2, 0, 0) :: (1, .iload_n 1, 0, 0) :: (3, .invokestatic 272, 82, 0) :: mt_Latticefit_wordAt_15
def mb_Latticefit_wordAt : ma_Tb := [(0, [true, true, true], (1, .aload_n 0, 0, 0) :: (1, .iload_n 1, 0, 0) :: (1, .iconst (3), 0, 3) :: (3, .invokevirtual 269, 81, 10) :: mt_Latticefit_wordAt_6),
  (18, [false, false, false], (8, .athrow, 4, 4) :: []),
  (26, [true, true, true], (1, .aload_n 0, 0, 0) :: (3, .getfield 60, 10, 6) :: (3, .getfield 273, 5, 0) :: (1, .iload_n 1, 0, 0) :: (1, .aaload, 0, 0) :: (1, .iload_n 2, 0, 0) :: (1, .iaload, 0, 0) :: (1, .ireturn, 0, 0) :: [])]
def mt_Latticefit_needFrame_23 : List ma_AI := (1, .return_, 0, 0) :: []
def mb_Latticefit_needFrame : ma_Tb := [(0, [true, true, true], (1, .iload_n 1, 0, 0) :: (3, .ifCond .lt (9), 0, 0) :: (1, .iload_n 1, 0, 0) :: (2, .bipush (14), 0, 14) :: (3, .if_icmp .lt (11), 0, 0) :: []),
  (10, [false, false, false], (8, .athrow, 3, 3) :: []),
  (18, [true, false, true], (1, .aload_n 0, 0, 0) :: (1, .iload_n 2, 0, 0) :: (3, .invokevirtual 207, 28, 10) :: mt_Latticefit_needFrame_23)]
def mb_Frames_lengthOf : ma_Tb := [(0, [true, false], (1, .iload_n 0, 0, 0) :: (2, .bipush (6), 0, 6) :: (3, .if_icmp .ge (6), 0, 0) :: (2, .bipush (36), 0, 36) :: (1, .ireturn, 0, 0) :: []),
  (9, [true, false], (1, .iload_n 0, 0, 0) :: (2, .bipush (13), 0, 13) :: (3, .if_icmp .ne (6), 0, 0) :: (2, .bipush (6), 0, 6) :: (1, .ireturn, 0, 0) :: []),
  (18, [true, false], (2, .bipush (12), 0, 12) :: (1, .istore_n 1, 0, 0) :: (1, .iload_n 0, 0, 0) :: (2, .bipush (12), 0, 12) :: (3, .if_icmp .ne (7), 0, 0) :: (1, .iload_n 1, 0, 0) :: (3, .goto (7), 0, 0) :: []),
  (31, [false, true], (1, .iload_n 1, 0, 0) :: (2, .bipush (14), 0, 14) :: (1, .iadd, 0, 0) :: []),
  (35, [false, false], (1, .ireturn, 0, 0) :: [])]
def mt_LatticefitLaw_start_4 : List ma_AI := (1, .ireturn, 0, 0) :: []
def mb_LatticefitLaw_start : ma_Tb := [(0, [true, false], (1, .aload_n 0, 0, 0) :: (3, .invokevirtual 66, 84, 10) :: mt_LatticefitLaw_start_4),
  (5, [false, false], (1, .astore_n 1, 0, 0) :: (2, .ldc 17, 0, (-900001)) :: (1, .ireturn, 0, 0) :: [])]
def mt_Latticefit_start_23 : List ma_AI := (1, .iconst (0), 0, 0) :: (1, .istore_n 1, 0, 0) :: []
def mt_Latticefit_start_16 : List ma_AI := (1, .aload_n 0, 0, 0) :: (3, .getfield 83, 10, 9) :: (3, .invokevirtual 283, 87, 8) :: mt_Latticefit_start_23
def mt_Latticefit_start_5 : List ma_AI := (1, .aload_n 0, 0, 0) :: (3, .getfield 76, 10, 8) :: (1, .aload_n 0, 0, 0) :: (3, .getfield 60, 10, 6) :: (3, .invokevirtual 279, 85, 2) :: mt_Latticefit_start_16
def mt_Latticefit_start_61 : List ma_AI := (1, .aload_n 0, 0, 0) :: (3, .getfield 10, 10, 0) :: (3, .getfield 292, 3, 4) :: (1, .iload_n 2, 0, 0) :: (1, .iaload, 0, 0) :: (1, .iastore, 0, 0) :: (3, .iinc 1 (1), 0, 0) :: (3, .goto (-49), 0, 0) :: []
def mb_Latticefit_start : ma_Tb := [(0, [true, false, false], (1, .aload_n 0, 0, 0) :: (1, .iconst (3), 0, 3) :: (3, .invokevirtual 207, 28, 10) :: mt_Latticefit_start_5),
  (25, [true, true, false], (1, .iload_n 1, 0, 0) :: (1, .aload_n 0, 0, 0) :: (3, .getfield 10, 10, 0) :: (3, .getfield 107, 3, 12) :: (3, .if_icmp .ge (44), 0, 0) :: (1, .aload_n 0, 0, 0) :: (3, .getfield 10, 10, 0) :: (3, .getfield 285, 3, 8) :: (1, .iload_n 1, 0, 0) :: (1, .iaload, 0, 0) :: (1, .istore_n 2, 0, 0) :: (1, .aload_n 0, 0, 0) :: (3, .getfield 76, 10, 8) :: (3, .getfield 288, 2, 2) :: (1, .aload_n 0, 0, 0) :: (3, .getfield 37, 10, 3) :: (1, .iload_n 2, 0, 0) :: (3, .invokevirtual 289, 36, 6) :: mt_Latticefit_start_61),
  (77, [true, false, false], (1, .aload_n 0, 0, 0) :: (1, .iconst (4), 0, 4) :: (3, .putfield 87, 10, 10) :: (1, .aload_n 0, 0, 0) :: (3, .getfield 10, 10, 0) :: (3, .getfield 133, 3, 13) :: (1, .ireturn, 0, 0) :: [])]
def mt_Chip_reset_17 : List ma_AI := (3, .iinc 2 (1), 0, 0) :: (3, .goto (-18), 0, 0) :: []
def mt_Chip_reset_39 : List ma_AI := (1, .aload_n 0, 0, 0) :: (1, .lconst 0, 0, 0) :: (3, .putfield 44, 2, 3) :: (1, .return_, 0, 0) :: []
def mt_Chip_reset_31 : List ma_AI := (1, .aload_n 0, 0, 0) :: (3, .getfield 22, 2, 2) :: (1, .iconst (0), 0, 0) :: (3, .invokestatic 38, 19, 0) :: mt_Chip_reset_39
def mb_Chip_reset : ma_Tb := [(0, [true, true, false], (1, .iconst (0), 0, 0) :: (1, .istore_n 2, 0, 0) :: []),
  (2, [true, true, true], (1, .iload_n 2, 0, 0) :: (2, .bipush (14), 0, 14) :: (3, .if_icmp .ge (18), 0, 0) :: (1, .aload_n 0, 0, 0) :: (3, .getfield 12, 2, 0) :: (1, .aload_n 1, 0, 0) :: (1, .iload_n 2, 0, 0) :: (3, .invokevirtual 34, 86, 5) :: mt_Chip_reset_17),
  (23, [true, false, false], (1, .aload_n 0, 0, 0) :: (3, .getfield 18, 2, 1) :: (1, .iconst (0), 0, 0) :: (3, .invokestatic 38, 19, 0) :: mt_Chip_reset_31)]
def mb_Frames_copyFrame : ma_Tb := [(0, [true, true, true], (1, .aload_n 1, 0, 0) :: (3, .getfield 11, 5, 0) :: (1, .iload_n 2, 0, 0) :: (1, .aaload, 0, 0) :: (1, .iconst (0), 0, 0) :: (1, .aload_n 0, 0, 0) :: (3, .getfield 11, 5, 0) :: (1, .iload_n 2, 0, 0) :: (1, .aaload, 0, 0) :: (1, .iconst (0), 0, 0) :: (2, .bipush (36), 0, 36) :: (3, .invokestatic 22, 10000, 0) :: (1, .return_, 0, 0) :: [])]
def mb_Runner_reset : ma_Tb := [(0, [true, false], (1, .iconst (0), 0, 0) :: (1, .istore_n 1, 0, 0) :: []),
  (2, [true, true], (1, .iload_n 1, 0, 0) :: (1, .aload_n 0, 0, 0) :: (3, .getfield 18, 8, 2) :: (3, .getfield 22, 3, 12) :: (3, .if_icmp .ge (40), 0, 0) :: (1, .aload_n 0, 0, 0) :: (3, .getfield 9, 8, 0) :: (1, .aload_n 0, 0, 0) :: (3, .getfield 18, 8, 2) :: (3, .getfield 28, 3, 8) :: (1, .iload_n 1, 0, 0) :: (1, .iaload, 0, 0) :: (1, .aload_n 0, 0, 0) :: (3, .getfield 18, 8, 2) :: (3, .getfield 31, 3, 4) :: (1, .aload_n 0, 0, 0) :: (3, .getfield 18, 8, 2) :: (3, .getfield 28, 3, 8) :: (1, .iload_n 1, 0, 0) :: (1, .iaload, 0, 0) :: (1, .iaload, 0, 0) :: (1, .iastore, 0, 0) :: (3, .iinc 1 (1), 0, 0) :: (3, .goto (-45), 0, 0) :: []),
  (50, [false, false], (1, .return_, 0, 0) :: [])]
def mt_LatticefitLaw_tick_5 : List ma_AI := (1, .lreturn, 0, 0) :: []
def mb_LatticefitLaw_tick : ma_Tb := [(0, [true, true, false], (1, .aload_n 0, 0, 0) :: (1, .iload_n 1, 0, 0) :: (3, .invokevirtual 69, 89, 10) :: mt_LatticefitLaw_tick_5),
  (6, [false, false, false], (1, .astore_n 2, 0, 0) :: (3, .ldc2_w 73, 0, (-900001)) :: (1, .lreturn, 0, 0) :: []),
  (11, [false, false, false], (1, .astore_n 2, 0, 0) :: (3, .ldc2_w 75, 0, (-900002)) :: (1, .lreturn, 0, 0) :: [])]
def mt_Latticefit_tick_45 : List ma_AI := (1, .aload_n 0, 0, 0) :: (3, .getfield 76, 10, 8) :: (3, .getfield 303, 2, 3) :: (1, .lreturn, 0, 0) :: []
def mt_Latticefit_tick_37 : List ma_AI := (1, .aload_n 0, 0, 0) :: (3, .getfield 76, 10, 8) :: (1, .iload_n 1, 0, 0) :: (3, .invokevirtual 301, 92, 2) :: mt_Latticefit_tick_45
def mt_Latticefit_tick_22 : List ma_AI := (1, .aload_n 0, 0, 0) :: (3, .getfield 83, 10, 9) :: (1, .iload_n 1, 0, 0) :: (1, .aload_n 0, 0, 0) :: (3, .getfield 76, 10, 8) :: (3, .getfield 295, 2, 1) :: (3, .invokevirtual 297, 90, 8) :: mt_Latticefit_tick_37
def mb_Latticefit_tick : ma_Tb := [(0, [true, true], (1, .iload_n 1, 0, 0) :: (3, .ifCond .lt (8), 0, 0) :: (1, .iload_n 1, 0, 0) :: (1, .iconst (3), 0, 3) :: (3, .if_icmp .lt (11), 0, 0) :: []),
  (9, [false, false], (8, .athrow, 2, 2) :: []),
  (17, [true, true], (1, .aload_n 0, 0, 0) :: (1, .iconst (4), 0, 4) :: (3, .invokevirtual 207, 28, 10) :: mt_Latticefit_tick_22)]
def mt_Runner_takeTick_5 : List ma_AI := (1, .iconst (0), 0, 0) :: (1, .istore_n 3, 0, 0) :: []
def mb_Runner_takeTick : ma_Tb := [(0, [true, true, true, false, false], (1, .aload_n 0, 0, 0) :: (1, .aload_n 2, 0, 0) :: (3, .invokevirtual 51, 91, 8) :: mt_Runner_takeTick_5),
  (7, [true, true, false, true, false], (1, .iload_n 3, 0, 0) :: (1, .aload_n 0, 0, 0) :: (3, .getfield 18, 8, 2) :: (3, .getfield 22, 3, 12) :: (3, .if_icmp .ge (56), 0, 0) :: (1, .aload_n 0, 0, 0) :: (3, .getfield 18, 8, 2) :: (3, .getfield 28, 3, 8) :: (1, .iload_n 3, 0, 0) :: (1, .iaload, 0, 0) :: (2, .istore 4, 0, 0) :: (1, .aload_n 0, 0, 0) :: (3, .getfield 18, 8, 2) :: (3, .getfield 55, 3, 5) :: (2, .iload 4, 0, 0) :: (1, .iaload, 0, 0) :: (1, .iload_n 1, 0, 0) :: (3, .if_icmp .ne (25), 0, 0) :: (1, .aload_n 0, 0, 0) :: (3, .getfield 9, 8, 0) :: (2, .iload 4, 0, 0) :: (1, .aload_n 0, 0, 0) :: (3, .getfield 15, 8, 1) :: (1, .aload_n 0, 0, 0) :: (3, .getfield 18, 8, 2) :: (3, .getfield 58, 3, 3) :: (2, .iload 4, 0, 0) :: (1, .iaload, 0, 0) :: (1, .iaload, 0, 0) :: (1, .iastore, 0, 0) :: []),
  (65, [true, true, false, true, false], (3, .iinc 3 (1), 0, 0) :: (3, .goto (-61), 0, 0) :: []),
  (71, [false, false, false, false, false], (1, .return_, 0, 0) :: [])]
def mt_Runner_findValues_93 : List ma_AI := (1, .iconst (1), 0, 1) :: (1, .iand, 0, 0) :: (1, .iastore, 0, 0) :: []
def mb_Runner_findValues : ma_Tb := [(0, [true, true, false], (1, .iconst (0), 0, 0) :: (1, .istore_n 2, 0, 0) :: []),
  (2, [true, true, true], (1, .iload_n 2, 0, 0) :: (1, .aload_n 0, 0, 0) :: (3, .getfield 18, 8, 2) :: (3, .getfield 34, 3, 10) :: (3, .if_icmp .ge (92), 0, 0) :: (1, .aload_n 0, 0, 0) :: (3, .getfield 18, 8, 2) :: (3, .getfield 37, 3, 0) :: (1, .iload_n 2, 0, 0) :: (1, .caload, 0, 0) :: (2, .bipush (105), 0, 105) :: (3, .if_icmp .ne (23), 0, 0) :: (1, .aload_n 0, 0, 0) :: (3, .getfield 15, 8, 1) :: (1, .iload_n 2, 0, 0) :: (1, .aload_n 1, 0, 0) :: (1, .aload_n 0, 0, 0) :: (3, .getfield 18, 8, 2) :: (3, .getfield 41, 3, 6) :: (1, .iload_n 2, 0, 0) :: (1, .iaload, 0, 0) :: (1, .iaload, 0, 0) :: (1, .iastore, 0, 0) :: (3, .goto (52), 0, 0) :: []),
  (47, [true, true, true], (1, .aload_n 0, 0, 0) :: (3, .getfield 18, 8, 2) :: (3, .getfield 37, 3, 0) :: (1, .iload_n 2, 0, 0) :: (1, .caload, 0, 0) :: (2, .bipush (114), 0, 114) :: (3, .if_icmp .ne (18), 0, 0) :: (1, .aload_n 0, 0, 0) :: (3, .getfield 15, 8, 1) :: (1, .iload_n 2, 0, 0) :: (1, .aload_n 0, 0, 0) :: (3, .getfield 9, 8, 0) :: (1, .iload_n 2, 0, 0) :: (1, .iaload, 0, 0) :: (1, .iastore, 0, 0) :: (3, .goto (23), 0, 0) :: []),
  (76, [true, true, true], (1, .aload_n 0, 0, 0) :: (3, .getfield 15, 8, 1) :: (1, .iload_n 2, 0, 0) :: (1, .aload_n 0, 0, 0) :: (3, .getfield 18, 8, 2) :: (1, .iload_n 2, 0, 0) :: (1, .aload_n 0, 0, 0) :: (3, .getfield 15, 8, 1) :: (3, .invokevirtual 44, 22, 3) :: mt_Runner_findValues_93),
  (96, [true, true, true], (3, .iinc 2 (1), 0, 0) :: (3, .goto (-97), 0, 0) :: []),
  (102, [false, false, false], (1, .return_, 0, 0) :: [])]
def mt_Chip_takeTick_4 : List ma_AI := (1, .iconst (0), 0, 0) :: (1, .istore_n 2, 0, 0) :: []
def mt_Chip_takeTick_21 : List ma_AI := (1, .istore_n 3, 0, 0) :: (1, .iload_n 3, 0, 0) :: (1, .iconst (2), 0, 2) :: (1, .irem, 0, 0) :: (1, .iconst (1), 0, 1) :: (3, .if_icmp .ne (24), 0, 0) :: (1, .iload_n 3, 0, 0) :: (1, .iconst (4), 0, 4) :: (1, .idiv, 0, 0) :: (1, .iconst (4), 0, 4) :: (1, .irem, 0, 0) :: (1, .iload_n 1, 0, 0) :: (3, .if_icmp .ne (15), 0, 0) :: (1, .aload_n 0, 0, 0) :: (3, .getfield 22, 2, 2) :: (1, .iload_n 2, 0, 0) :: (1, .aload_n 0, 0, 0) :: (3, .getfield 25, 2, 4) :: (1, .iload_n 2, 0, 0) :: (1, .iaload, 0, 0) :: (1, .iastore, 0, 0) :: []
def mb_Chip_takeTick : ma_Tb := [(0, [true, true, false, false], (1, .aload_n 0, 0, 0) :: (3, .invokevirtual 77, 93, 2) :: mt_Chip_takeTick_4),
  (6, [true, true, true, false], (1, .iload_n 2, 0, 0) :: (2, .bipush (36), 0, 36) :: (3, .if_icmp .ge (47), 0, 0) :: (1, .aload_n 0, 0, 0) :: (3, .getfield 12, 2, 0) :: (1, .iload_n 2, 0, 0) :: (1, .iconst (5), 0, 5) :: (3, .invokevirtual 55, 95, 5) :: mt_Chip_takeTick_21),
  (50, [true, true, true, false], (3, .iinc 2 (1), 0, 0) :: (3, .goto (-47), 0, 0) :: []),
  (56, [true, false, false, false], (1, .aload_n 0, 0, 0) :: (1, .dup, 0, 0) :: (3, .getfield 44, 2, 3) :: (1, .lconst 1, 0, 1) :: (1, .ladd, 0, 0) :: (3, .putfield 44, 2, 3) :: (1, .return_, 0, 0) :: [])]
def mt_Chip_findTables_12 : List ma_AI := (1, .iconst (1), 0, 1) :: (1, .istore_n 1, 0, 0) :: (1, .iconst (0), 0, 0) :: (1, .istore_n 2, 0, 0) :: []
def mt_Chip_findTables_4 : List ma_AI := (1, .aload_n 0, 0, 0) :: (3, .getfield 25, 2, 4) :: (1, .iconst (0), 0, 0) :: (3, .invokestatic 38, 19, 0) :: mt_Chip_findTables_12
def mt_Chip_findTables_30 : List ma_AI := (1, .istore_n 1, 0, 0) :: (3, .iinc 2 (1), 0, 0) :: (3, .goto (-18), 0, 0) :: []
def mb_Chip_findTables : ma_Tb := [(0, [true, false, false], (1, .aload_n 0, 0, 0) :: (3, .invokevirtual 48, 94, 2) :: mt_Chip_findTables_4),
  (16, [true, true, true], (1, .iload_n 2, 0, 0) :: (2, .bipush (40), 0, 40) :: (3, .if_icmp .ge (18), 0, 0) :: (1, .iload_n 1, 0, 0) :: (3, .ifCond .eq (14), 0, 0) :: (1, .aload_n 0, 0, 0) :: (3, .invokevirtual 51, 99, 2) :: mt_Chip_findTables_30),
  (37, [false, false, false], (1, .return_, 0, 0) :: [])]
def mt_Chip_findEnds_42 : List ma_AI := (1, .iastore, 0, 0) :: (3, .iinc 2 (1), 0, 0) :: (3, .goto (-36), 0, 0) :: []
def mt_Chip_findEnds_39 : List ma_AI := (3, .invokevirtual 59, 96, 5) :: mt_Chip_findEnds_42
def mb_Chip_findEnds : ma_Tb := [(0, [true, false, false], (1, .iconst (0), 0, 0) :: (1, .istore_n 1, 0, 0) :: []),
  (2, [true, true, false], (1, .iload_n 1, 0, 0) :: (2, .bipush (36), 0, 36) :: (3, .if_icmp .ge (50), 0, 0) :: (1, .iconst (0), 0, 0) :: (1, .istore_n 2, 0, 0) :: []),
  (10, [true, true, true], (1, .iload_n 2, 0, 0) :: (1, .iconst (4), 0, 4) :: (3, .if_icmp .ge (37), 0, 0) :: (1, .aload_n 0, 0, 0) :: (3, .getfield 31, 2, 6) :: (1, .iconst (4), 0, 4) :: (1, .iload_n 1, 0, 0) :: (1, .imul, 0, 0) :: (1, .iload_n 2, 0, 0) :: (1, .iadd, 0, 0) :: (1, .aload_n 0, 0, 0) :: (3, .getfield 12, 2, 0) :: (1, .aload_n 0, 0, 0) :: (3, .getfield 12, 2, 0) :: (1, .iload_n 1, 0, 0) :: (1, .iconst (1), 0, 1) :: (1, .iload_n 2, 0, 0) :: (1, .iadd, 0, 0) :: (3, .invokevirtual 55, 95, 5) :: mt_Chip_findEnds_39),
  (49, [true, true, false], (3, .iinc 1 (1), 0, 0) :: (3, .goto (-50), 0, 0) :: []),
  (55, [false, false, false], (1, .return_, 0, 0) :: [])]
def mb_Frames_cellWord : ma_Tb := [(0, [true, true, true], (1, .aload_n 0, 0, 0) :: (3, .getfield 11, 5, 0) :: (1, .iload_n 1, 0, 0) :: (2, .bipush (6), 0, 6) :: (1, .idiv, 0, 0) :: (1, .aaload, 0, 0) :: (2, .bipush (6), 0, 6) :: (1, .iload_n 1, 0, 0) :: (2, .bipush (6), 0, 6) :: (1, .irem, 0, 0) :: (1, .imul, 0, 0) :: (1, .iload_n 2, 0, 0) :: (1, .iadd, 0, 0) :: (1, .iaload, 0, 0) :: (1, .ireturn, 0, 0) :: [])]
def mt_Frames_endOf_23 : List ma_AI := (1, .istore_n 2, 0, 0) :: (3, .iinc 3 (1), 0, 0) :: (3, .goto (-23), 0, 0) :: []
def mt_Frames_endOf_15 : List ma_AI := (3, .ifCond .eq (15), 0, 0) :: (1, .aload_n 0, 0, 0) :: (1, .iload_n 2, 0, 0) :: (3, .invokevirtual 48, 98, 5) :: mt_Frames_endOf_23
def mt_Frames_endOf_34 : List ma_AI := (3, .ifCond .eq (7), 0, 0) :: (1, .iconst (0), 0, 0) :: (3, .goto (4), 0, 0) :: []
def mb_Frames_endOf : ma_Tb := [(0, [true, true, false, false], (1, .iload_n 1, 0, 0) :: (1, .istore_n 2, 0, 0) :: (1, .iconst (0), 0, 0) :: (1, .istore_n 3, 0, 0) :: []),
  (4, [true, false, true, true], (1, .iload_n 3, 0, 0) :: (3, .sipush (200), 0, 200) :: (3, .if_icmp .ge (22), 0, 0) :: (1, .iload_n 2, 0, 0) :: (3, .invokestatic 44, 97, 0) :: mt_Frames_endOf_15),
  (30, [false, false, true, false], (1, .iload_n 2, 0, 0) :: (3, .invokestatic 44, 97, 0) :: mt_Frames_endOf_34),
  (41, [false, false, true, false], (1, .iload_n 2, 0, 0) :: []),
  (42, [false, false, false, false], (1, .ireturn, 0, 0) :: [])]
def mb_Frames_isWire : ma_Tb := [(0, [true], (1, .iload_n 0, 0, 0) :: (1, .iconst (1), 0, 1) :: (3, .if_icmp .lt (14), 0, 0) :: (1, .iload_n 0, 0, 0) :: (3, .sipush (168), 0, 168) :: (3, .if_icmp .gt (7), 0, 0) :: (1, .iconst (1), 0, 1) :: (3, .goto (4), 0, 0) :: []),
  (16, [false], (1, .iconst (0), 0, 0) :: []),
  (17, [false], (1, .ireturn, 0, 0) :: [])]
def mt_Frames_wireWord_19 : List ma_AI := (1, .iload_n 1, 0, 0) :: (1, .iconst (1), 0, 1) :: (1, .isub, 0, 0) :: (1, .iconst (2), 0, 2) :: (1, .irem, 0, 0) :: (1, .iadd, 0, 0) :: (1, .iaload, 0, 0) :: (1, .ireturn, 0, 0) :: []
def mt_Frames_wireWord_14 : List ma_AI := (1, .aaload, 0, 0) :: (1, .iload_n 2, 0, 0) :: (3, .invokestatic 36, 77, 0) :: mt_Frames_wireWord_19
def mb_Frames_wireWord : ma_Tb := [(0, [true, true, false], (1, .iload_n 1, 0, 0) :: (1, .iconst (1), 0, 1) :: (1, .isub, 0, 0) :: (1, .iconst (2), 0, 2) :: (1, .idiv, 0, 0) :: (1, .istore_n 2, 0, 0) :: (1, .aload_n 0, 0, 0) :: (3, .getfield 11, 5, 0) :: (1, .iload_n 2, 0, 0) :: (3, .invokestatic 33, 76, 0) :: mt_Frames_wireWord_14)]
def mt_Chip_renewTables_56 : List ma_AI := (2, .iload 4, 0, 0) :: (1, .ishl, 0, 0) :: (1, .ior, 0, 0) :: (1, .istore_n 3, 0, 0) :: (3, .iinc 4 (1), 0, 0) :: (3, .goto (-34), 0, 0) :: []
def mt_Chip_renewTables_81 : List ma_AI := (1, .iload_n 3, 0, 0) :: (1, .ishr, 0, 0) :: (1, .iconst (1), 0, 1) :: (1, .iand, 0, 0) :: (1, .iastore, 0, 0) :: (1, .aload_n 0, 0, 0) :: (3, .getfield 25, 2, 4) :: (1, .iload_n 2, 0, 0) :: (1, .iaload, 0, 0) :: (1, .aload_n 0, 0, 0) :: (3, .getfield 28, 2, 5) :: (1, .iload_n 2, 0, 0) :: (1, .iaload, 0, 0) :: (3, .if_icmp .eq (5), 0, 0) :: (1, .iconst (1), 0, 1) :: (1, .istore_n 1, 0, 0) :: []
def mb_Chip_renewTables : ma_Tb := [(0, [true, false, false, false, false], (1, .aload_n 0, 0, 0) :: (3, .getfield 25, 2, 4) :: (1, .iconst (0), 0, 0) :: (1, .aload_n 0, 0, 0) :: (3, .getfield 28, 2, 5) :: (1, .iconst (0), 0, 0) :: (2, .bipush (36), 0, 36) :: (3, .invokestatic 63, 10000, 0) :: (1, .iconst (0), 0, 0) :: (1, .istore_n 1, 0, 0) :: (1, .iconst (0), 0, 0) :: (1, .istore_n 2, 0, 0) :: []),
  (19, [true, true, true, false, false], (1, .iload_n 2, 0, 0) :: (2, .bipush (36), 0, 36) :: (3, .if_icmp .ge (87), 0, 0) :: (1, .iconst (0), 0, 0) :: (1, .istore_n 3, 0, 0) :: (1, .iconst (0), 0, 0) :: (2, .istore 4, 0, 0) :: []),
  (30, [true, true, true, true, true], (2, .iload 4, 0, 0) :: (1, .iconst (4), 0, 4) :: (3, .if_icmp .ge (34), 0, 0) :: (1, .iload_n 3, 0, 0) :: (1, .aload_n 0, 0, 0) :: (1, .aload_n 0, 0, 0) :: (3, .getfield 31, 2, 6) :: (1, .iconst (4), 0, 4) :: (1, .iload_n 2, 0, 0) :: (1, .imul, 0, 0) :: (2, .iload 4, 0, 0) :: (1, .iadd, 0, 0) :: (1, .iaload, 0, 0) :: (1, .aload_n 0, 0, 0) :: (3, .getfield 28, 2, 5) :: (3, .invokevirtual 69, 100, 2) :: mt_Chip_renewTables_56),
  (67, [true, true, true, true, false], (1, .aload_n 0, 0, 0) :: (3, .getfield 25, 2, 4) :: (1, .iload_n 2, 0, 0) :: (1, .aload_n 0, 0, 0) :: (3, .getfield 12, 2, 0) :: (1, .iload_n 2, 0, 0) :: (1, .iconst (0), 0, 0) :: (3, .invokevirtual 55, 95, 5) :: mt_Chip_renewTables_81),
  (103, [true, true, true, false, false], (3, .iinc 2 (1), 0, 0) :: (3, .goto (-87), 0, 0) :: []),
  (109, [false, true, false, false, false], (1, .iload_n 1, 0, 0) :: (1, .ireturn, 0, 0) :: [])]
def mb_Chip_valueOfEnd : ma_Tb := [(0, [true, true, true, false], (1, .iload_n 1, 0, 0) :: (3, .sipush (300), 0, 300) :: (3, .if_icmp .lt (21), 0, 0) :: (1, .iload_n 1, 0, 0) :: (3, .sipush (306), 0, 306) :: (3, .if_icmp .ge (14), 0, 0) :: (1, .aload_n 0, 0, 0) :: (3, .getfield 18, 2, 1) :: (1, .iload_n 1, 0, 0) :: (3, .sipush (300), 0, 300) :: (1, .isub, 0, 0) :: (1, .iaload, 0, 0) :: (1, .ireturn, 0, 0) :: []),
  (25, [true, true, true, false], (1, .iload_n 1, 0, 0) :: (3, .sipush (200), 0, 200) :: (3, .if_icmp .lt (10), 0, 0) :: (1, .iload_n 1, 0, 0) :: (3, .sipush (272), 0, 272) :: (3, .if_icmp .lt (5), 0, 0) :: []),
  (39, [false, false, false, false], (1, .iconst (0), 0, 0) :: (1, .ireturn, 0, 0) :: []),
  (41, [true, true, true, false], (1, .iload_n 1, 0, 0) :: (3, .sipush (200), 0, 200) :: (1, .isub, 0, 0) :: (1, .iconst (2), 0, 2) :: (1, .idiv, 0, 0) :: (1, .istore_n 3, 0, 0) :: (1, .iload_n 1, 0, 0) :: (1, .iconst (2), 0, 2) :: (1, .irem, 0, 0) :: (3, .ifCond .ne (9), 0, 0) :: (1, .aload_n 2, 0, 0) :: (1, .iload_n 3, 0, 0) :: (1, .iaload, 0, 0) :: (3, .goto (9), 0, 0) :: []),
  (61, [true, false, false, true], (1, .aload_n 0, 0, 0) :: (3, .getfield 22, 2, 2) :: (1, .iload_n 3, 0, 0) :: (1, .iaload, 0, 0) :: []),
  (67, [false, false, false, false], (1, .ireturn, 0, 0) :: [])]
def mt_LatticefitLaw_sourceOf_6 : List ma_AI := (1, .ireturn, 0, 0) :: []
def mb_LatticefitLaw_sourceOf : ma_Tb := [(0, [true, true, true, false], (1, .aload_n 0, 0, 0) :: (1, .iload_n 1, 0, 0) :: (1, .iload_n 2, 0, 0) :: (3, .invokevirtual 77, 102, 10) :: mt_LatticefitLaw_sourceOf_6),
  (7, [false, false, false, false], (1, .astore_n 3, 0, 0) :: (2, .ldc 17, 0, (-900001)) :: (1, .ireturn, 0, 0) :: []),
  (11, [false, false, false, false], (1, .astore_n 3, 0, 0) :: (2, .ldc 24, 0, (-900002)) :: (1, .ireturn, 0, 0) :: []),
  (15, [false, false, false, false], (1, .astore_n 3, 0, 0) :: (2, .ldc 31, 0, (-900003)) :: (1, .ireturn, 0, 0) :: [])]
def mt_Latticefit_sourceOf_4 : List ma_AI := (3, .ifCond .eq (12), 0, 0) :: (1, .iload_n 2, 0, 0) :: (3, .ifCond .lt (8), 0, 0) :: (1, .iload_n 2, 0, 0) :: (1, .iconst (4), 0, 4) :: (3, .if_icmp .lt (11), 0, 0) :: []
def mt_Latticefit_sourceOf_60 : List ma_AI := (1, .istore_n 3, 0, 0) :: (1, .iload_n 3, 0, 0) :: (3, .ifCond .ge (11), 0, 0) :: (8, .athrow, 4, 4) :: []
def mt_Latticefit_sourceOf_57 : List ma_AI := (3, .invokevirtual 330, 104, 6) :: mt_Latticefit_sourceOf_60
def mt_Latticefit_sourceOf_54 : List ma_AI := (3, .invokevirtual 327, 96, 5) :: mt_Latticefit_sourceOf_57
def mt_Latticefit_sourceOf_29 : List ma_AI := (1, .aload_n 0, 0, 0) :: (3, .getfield 37, 10, 3) :: (1, .aload_n 0, 0, 0) :: (3, .getfield 76, 10, 8) :: (3, .getfield 321, 2, 0) :: (1, .aload_n 0, 0, 0) :: (3, .getfield 76, 10, 8) :: (3, .getfield 321, 2, 0) :: (1, .iload_n 1, 0, 0) :: (1, .iconst (1), 0, 1) :: (1, .iload_n 2, 0, 0) :: (1, .iadd, 0, 0) :: (3, .invokevirtual 324, 95, 5) :: mt_Latticefit_sourceOf_54
def mb_Latticefit_sourceOf : ma_Tb := [(0, [true, true, true, false], (1, .iload_n 1, 0, 0) :: (3, .invokestatic 188, 103, 0) :: mt_Latticefit_sourceOf_4),
  (16, [false, false, false, false], (8, .athrow, 3, 3) :: []),
  (24, [true, true, true, false], (1, .aload_n 0, 0, 0) :: (1, .iconst (4), 0, 4) :: (3, .invokevirtual 207, 28, 10) :: mt_Latticefit_sourceOf_29),
  (73, [false, false, false, true], (1, .iload_n 3, 0, 0) :: (1, .ireturn, 0, 0) :: [])]
def mb_Latticefit_isCell : ma_Tb := [(0, [true], (1, .iload_n 0, 0, 0) :: (3, .ifCond .lt (13), 0, 0) :: (1, .iload_n 0, 0, 0) :: (2, .bipush (36), 0, 36) :: (3, .if_icmp .ge (7), 0, 0) :: (1, .iconst (1), 0, 1) :: (3, .goto (4), 0, 0) :: []),
  (14, [false], (1, .iconst (0), 0, 0) :: []),
  (15, [false], (1, .ireturn, 0, 0) :: [])]
def mb_Places_nodeOfCode : ma_Tb := [(0, [true, true, false], (1, .iload_n 1, 0, 0) :: (3, .sipush (300), 0, 300) :: (3, .if_icmp .lt (32), 0, 0) :: (1, .iload_n 1, 0, 0) :: (3, .sipush (300), 0, 300) :: (1, .aload_n 0, 0, 0) :: (3, .getfield 37, 6, 8) :: (3, .getfield 76, 3, 11) :: (1, .iadd, 0, 0) :: (3, .if_icmp .ge (17), 0, 0) :: (1, .aload_n 0, 0, 0) :: (3, .getfield 37, 6, 8) :: (3, .getfield 79, 3, 7) :: (1, .iload_n 1, 0, 0) :: (3, .sipush (300), 0, 300) :: (1, .isub, 0, 0) :: (1, .iaload, 0, 0) :: (1, .ireturn, 0, 0) :: []),
  (36, [true, true, false], (1, .iload_n 1, 0, 0) :: (3, .sipush (200), 0, 200) :: (3, .if_icmp .lt (10), 0, 0) :: (1, .iload_n 1, 0, 0) :: (3, .sipush (272), 0, 272) :: (3, .if_icmp .lt (5), 0, 0) :: []),
  (50, [false, false, false], (1, .iconst (-1), 0, (-1)) :: (1, .ireturn, 0, 0) :: []),
  (52, [true, true, false], (1, .aload_n 0, 0, 0) :: (3, .getfield 15, 6, 1) :: (1, .iload_n 1, 0, 0) :: (3, .sipush (200), 0, 200) :: (1, .isub, 0, 0) :: (1, .iconst (2), 0, 2) :: (1, .idiv, 0, 0) :: (1, .iaload, 0, 0) :: (1, .istore_n 2, 0, 0) :: (1, .iload_n 2, 0, 0) :: (3, .ifCond .ge (5), 0, 0) :: (1, .iconst (-1), 0, (-1)) :: (1, .ireturn, 0, 0) :: []),
  (71, [true, true, true], (1, .iload_n 1, 0, 0) :: (1, .iconst (2), 0, 2) :: (1, .irem, 0, 0) :: (3, .ifCond .ne (15), 0, 0) :: (1, .aload_n 0, 0, 0) :: (3, .getfield 41, 6, 9) :: (3, .getfield 82, 0, 0) :: (1, .iload_n 2, 0, 0) :: (1, .iaload, 0, 0) :: (3, .goto (12), 0, 0) :: []),
  (89, [true, false, true], (1, .aload_n 0, 0, 0) :: (3, .getfield 41, 6, 9) :: (3, .getfield 85, 0, 1) :: (1, .iload_n 2, 0, 0) :: (1, .iaload, 0, 0) :: []),
  (98, [false, false, false], (1, .ireturn, 0, 0) :: [])]
def mt_LatticefitLaw_flip_7 : List ma_AI := (1, .ireturn, 0, 0) :: []
def mb_LatticefitLaw_flip : ma_Tb := [(0, [true, true, true, true, false], (1, .aload_n 0, 0, 0) :: (1, .iload_n 1, 0, 0) :: (1, .iload_n 2, 0, 0) :: (1, .iload_n 3, 0, 0) :: (3, .invokevirtual 80, 106, 10) :: mt_LatticefitLaw_flip_7),
  (8, [false, false, false, false, false], (2, .astore 4, 0, 0) :: (2, .ldc 17, 0, (-900001)) :: (1, .ireturn, 0, 0) :: []),
  (13, [false, false, false, false, false], (2, .astore 4, 0, 0) :: (2, .ldc 24, 0, (-900002)) :: (1, .ireturn, 0, 0) :: []),
  (18, [false, false, false, false, false], (2, .astore 4, 0, 0) :: (2, .ldc 31, 0, (-900003)) :: (1, .ireturn, 0, 0) :: [])]
def mt_Latticefit_flip_33 : List ma_AI := (3, .if_icmp .lt (11), 0, 0) :: []
def mt_Latticefit_flip_24 : List ma_AI := (1, .iload_n 2, 0, 0) :: (3, .ifCond .lt (11), 0, 0) :: (1, .iload_n 2, 0, 0) :: (1, .iload_n 1, 0, 0) :: (3, .invokestatic 272, 82, 0) :: mt_Latticefit_flip_33
def mb_Latticefit_flip : ma_Tb := [(0, [true, true, true, true], (1, .iload_n 3, 0, 0) :: (3, .ifCond .lt (9), 0, 0) :: (1, .iload_n 3, 0, 0) :: (2, .bipush (16), 0, 16) :: (3, .if_icmp .lt (11), 0, 0) :: []),
  (10, [false, false, false, false], (8, .athrow, 3, 3) :: []),
  (18, [true, true, true, true], (1, .aload_n 0, 0, 0) :: (1, .iload_n 1, 0, 0) :: (1, .iconst (4), 0, 4) :: (3, .invokevirtual 269, 81, 10) :: mt_Latticefit_flip_24),
  (36, [false, false, false, false], (8, .athrow, 4, 4) :: []),
  (44, [true, true, true, true], (1, .aload_n 0, 0, 0) :: (3, .getfield 76, 10, 8) :: (3, .getfield 321, 2, 0) :: (3, .getfield 273, 5, 0) :: (1, .iload_n 1, 0, 0) :: (1, .aaload, 0, 0) :: (1, .iload_n 2, 0, 0) :: (1, .dup2, 0, 0) :: (1, .iaload, 0, 0) :: (1, .iconst (1), 0, 1) :: (1, .iload_n 3, 0, 0) :: (1, .ishl, 0, 0) :: (1, .ixor, 0, 0) :: (1, .iastore, 0, 0) :: (1, .aload_n 0, 0, 0) :: (3, .getfield 76, 10, 8) :: (3, .getfield 321, 2, 0) :: (3, .getfield 273, 5, 0) :: (1, .iload_n 1, 0, 0) :: (1, .aaload, 0, 0) :: (1, .iload_n 2, 0, 0) :: (1, .iaload, 0, 0) :: (1, .ireturn, 0, 0) :: [])]
def mt_LatticefitLaw_scrub_4 : List ma_AI := (1, .ireturn, 0, 0) :: []
def mb_LatticefitLaw_scrub : ma_Tb := [(0, [true, false], (1, .aload_n 0, 0, 0) :: (3, .invokevirtual 83, 108, 10) :: mt_LatticefitLaw_scrub_4),
  (5, [false, false], (1, .astore_n 1, 0, 0) :: (2, .ldc 17, 0, (-900001)) :: (1, .ireturn, 0, 0) :: [])]
def mt_Latticefit_scrub_5 : List ma_AI := (1, .iconst (0), 0, 0) :: (1, .istore_n 1, 0, 0) :: (1, .iconst (0), 0, 0) :: (1, .istore_n 2, 0, 0) :: []
def mt_Latticefit_scrub_52 : List ma_AI := (3, .iinc 1 (1), 0, 0) :: []
def mt_Latticefit_scrub_34 : List ma_AI := (3, .if_icmp .eq (21), 0, 0) :: (1, .aload_n 0, 0, 0) :: (3, .getfield 76, 10, 8) :: (3, .getfield 321, 2, 0) :: (1, .aload_n 0, 0, 0) :: (3, .getfield 60, 10, 6) :: (1, .iload_n 2, 0, 0) :: (3, .invokevirtual 333, 86, 5) :: mt_Latticefit_scrub_52
def mt_Latticefit_scrub_26 : List ma_AI := (1, .aload_n 0, 0, 0) :: (3, .getfield 60, 10, 6) :: (1, .iload_n 2, 0, 0) :: (3, .invokevirtual 276, 109, 5) :: mt_Latticefit_scrub_34
def mb_Latticefit_scrub : ma_Tb := [(0, [true, false, false], (1, .aload_n 0, 0, 0) :: (1, .iconst (4), 0, 4) :: (3, .invokevirtual 207, 28, 10) :: mt_Latticefit_scrub_5),
  (9, [true, true, true], (1, .iload_n 2, 0, 0) :: (2, .bipush (14), 0, 14) :: (3, .if_icmp .ge (49), 0, 0) :: (1, .aload_n 0, 0, 0) :: (3, .getfield 76, 10, 8) :: (3, .getfield 321, 2, 0) :: (1, .iload_n 2, 0, 0) :: (3, .invokevirtual 276, 109, 5) :: mt_Latticefit_scrub_26),
  (55, [true, true, true], (3, .iinc 2 (1), 0, 0) :: (3, .goto (-49), 0, 0) :: []),
  (61, [false, true, false], (1, .iload_n 1, 0, 0) :: (1, .ireturn, 0, 0) :: [])]
def mt_Frames_sumOf_6 : List ma_AI := (1, .istore_n 3, 0, 0) :: (1, .iconst (0), 0, 0) :: (2, .istore 4, 0, 0) :: []
def mb_Frames_sumOf : ma_Tb := [(0, [true, true, false, false, false], (1, .iconst (1), 0, 1) :: (1, .istore_n 2, 0, 0) :: (1, .iload_n 1, 0, 0) :: (3, .invokestatic 28, 82, 0) :: mt_Frames_sumOf_6),
  (10, [true, true, true, true, true], (2, .iload 4, 0, 0) :: (1, .iload_n 3, 0, 0) :: (3, .if_icmp .ge (27), 0, 0) :: (2, .bipush (31), 0, 31) :: (1, .iload_n 2, 0, 0) :: (1, .imul, 0, 0) :: (1, .aload_n 0, 0, 0) :: (3, .getfield 11, 5, 0) :: (1, .iload_n 1, 0, 0) :: (1, .aaload, 0, 0) :: (2, .iload 4, 0, 0) :: (1, .iaload, 0, 0) :: (1, .iadd, 0, 0) :: (2, .ldc 32, 0, 65521) :: (1, .irem, 0, 0) :: (1, .istore_n 2, 0, 0) :: (3, .iinc 4 (1), 0, 0) :: (3, .goto (-27), 0, 0) :: []),
  (40, [false, false, true, false, false], (1, .iload_n 2, 0, 0) :: (1, .ireturn, 0, 0) :: [])]
def mt_LatticefitLaw_setInput_6 : List ma_AI := (3, .ifCond .eq (7), 0, 0) :: (1, .iconst (1), 0, 1) :: (3, .goto (4), 0, 0) :: []
def mb_LatticefitLaw_setInput : ma_Tb := [(0, [true, true, true, false], (1, .aload_n 0, 0, 0) :: (1, .iload_n 1, 0, 0) :: (1, .iload_n 2, 0, 0) :: (3, .invokevirtual 86, 111, 10) :: mt_LatticefitLaw_setInput_6),
  (13, [false, false, false, false], (1, .iconst (0), 0, 0) :: []),
  (14, [false, false, false, false], (1, .ireturn, 0, 0) :: []),
  (15, [false, false, false, false], (1, .astore_n 3, 0, 0) :: (2, .ldc 17, 0, (-900001)) :: (1, .ireturn, 0, 0) :: []),
  (19, [false, false, false, false], (1, .astore_n 3, 0, 0) :: (2, .ldc 24, 0, (-900002)) :: (1, .ireturn, 0, 0) :: [])]
def mt_Latticefit_setInput_28 : List ma_AI := (1, .aload_n 0, 0, 0) :: (3, .getfield 76, 10, 8) :: (3, .getfield 295, 2, 1) :: (1, .iload_n 1, 0, 0) :: (1, .iaload, 0, 0) :: (3, .ifCond .eq (7), 0, 0) :: (1, .iconst (1), 0, 1) :: (3, .goto (4), 0, 0) :: []
def mb_Latticefit_setInput : ma_Tb := [(0, [true, true, true, false], (1, .iload_n 1, 0, 0) :: (3, .ifCond .lt (14), 0, 0) :: (1, .iload_n 1, 0, 0) :: (1, .aload_n 0, 0, 0) :: (3, .getfield 10, 10, 0) :: (3, .getfield 94, 3, 11) :: (3, .if_icmp .lt (11), 0, 0) :: []),
  (15, [false, false, false, false], (8, .athrow, 3, 3) :: []),
  (23, [true, true, true, false], (1, .aload_n 0, 0, 0) :: (1, .iconst (4), 0, 4) :: (3, .invokevirtual 207, 28, 10) :: mt_Latticefit_setInput_28),
  (44, [true, true, true, false], (1, .iconst (0), 0, 0) :: []),
  (45, [true, true, true, false], (1, .istore_n 3, 0, 0) :: (1, .aload_n 0, 0, 0) :: (3, .getfield 76, 10, 8) :: (3, .getfield 295, 2, 1) :: (1, .iload_n 1, 0, 0) :: (1, .iload_n 2, 0, 0) :: (3, .ifCond .eq (7), 0, 0) :: (1, .iconst (1), 0, 1) :: (3, .goto (4), 0, 0) :: []),
  (62, [false, false, false, true], (1, .iconst (0), 0, 0) :: []),
  (63, [false, false, false, true], (1, .iastore, 0, 0) :: (1, .iload_n 3, 0, 0) :: (1, .ireturn, 0, 0) :: [])]
def mt_LatticefitLaw_circuitOutput_5 : List ma_AI := (3, .ifCond .eq (7), 0, 0) :: (1, .iconst (1), 0, 1) :: (3, .goto (4), 0, 0) :: []
def mb_LatticefitLaw_circuitOutput : ma_Tb := [(0, [true, true, false], (1, .aload_n 0, 0, 0) :: (1, .iload_n 1, 0, 0) :: (3, .invokevirtual 90, 113, 10) :: mt_LatticefitLaw_circuitOutput_5),
  (12, [false, false, false], (1, .iconst (0), 0, 0) :: []),
  (13, [false, false, false], (1, .ireturn, 0, 0) :: []),
  (14, [false, false, false], (1, .astore_n 2, 0, 0) :: (2, .ldc 17, 0, (-900001)) :: (1, .ireturn, 0, 0) :: []),
  (18, [false, false, false], (1, .astore_n 2, 0, 0) :: (2, .ldc 24, 0, (-900002)) :: (1, .ireturn, 0, 0) :: [])]
def mt_Latticefit_circuitOutput_27 : List ma_AI := (3, .ifCond .eq (7), 0, 0) :: (1, .iconst (1), 0, 1) :: (3, .goto (4), 0, 0) :: []
def mt_Latticefit_circuitOutput_19 : List ma_AI := (1, .aload_n 0, 0, 0) :: (3, .getfield 83, 10, 9) :: (1, .iload_n 1, 0, 0) :: (3, .invokevirtual 314, 115, 8) :: mt_Latticefit_circuitOutput_27
def mt_Latticefit_circuitOutput_5 : List ma_AI := (1, .aload_n 0, 0, 0) :: (3, .getfield 83, 10, 9) :: (1, .aload_n 0, 0, 0) :: (3, .getfield 76, 10, 8) :: (3, .getfield 295, 2, 1) :: (3, .invokevirtual 310, 91, 8) :: mt_Latticefit_circuitOutput_19
def mb_Latticefit_circuitOutput : ma_Tb := [(0, [true, true], (1, .aload_n 0, 0, 0) :: (1, .iload_n 1, 0, 0) :: (3, .invokevirtual 307, 114, 10) :: mt_Latticefit_circuitOutput_5),
  (34, [false, false], (1, .iconst (0), 0, 0) :: []),
  (35, [false, false], (1, .ireturn, 0, 0) :: [])]
def mt_Latticefit_needOutput_28 : List ma_AI := (1, .return_, 0, 0) :: []
def mb_Latticefit_needOutput : ma_Tb := [(0, [true, true], (1, .iload_n 1, 0, 0) :: (3, .ifCond .lt (14), 0, 0) :: (1, .iload_n 1, 0, 0) :: (1, .aload_n 0, 0, 0) :: (3, .getfield 10, 10, 0) :: (3, .getfield 133, 3, 13) :: (3, .if_icmp .lt (11), 0, 0) :: []),
  (15, [false, false], (8, .athrow, 3, 3) :: []),
  (23, [true, false], (1, .aload_n 0, 0, 0) :: (1, .iconst (4), 0, 4) :: (3, .invokevirtual 207, 28, 10) :: mt_Latticefit_needOutput_28)]
def mb_Runner_outputValue : ma_Tb := [(0, [true, true], (1, .aload_n 0, 0, 0) :: (3, .getfield 15, 8, 1) :: (1, .aload_n 0, 0, 0) :: (3, .getfield 18, 8, 2) :: (3, .getfield 48, 3, 9) :: (1, .iload_n 1, 0, 0) :: (1, .iaload, 0, 0) :: (1, .iaload, 0, 0) :: (1, .ireturn, 0, 0) :: [])]
def mt_LatticefitLaw_chipOutput_5 : List ma_AI := (3, .ifCond .eq (7), 0, 0) :: (1, .iconst (1), 0, 1) :: (3, .goto (4), 0, 0) :: []
def mb_LatticefitLaw_chipOutput : ma_Tb := [(0, [true, true, false], (1, .aload_n 0, 0, 0) :: (1, .iload_n 1, 0, 0) :: (3, .invokevirtual 94, 117, 10) :: mt_LatticefitLaw_chipOutput_5),
  (12, [false, false, false], (1, .iconst (0), 0, 0) :: []),
  (13, [false, false, false], (1, .ireturn, 0, 0) :: []),
  (14, [false, false, false], (1, .astore_n 2, 0, 0) :: (2, .ldc 17, 0, (-900001)) :: (1, .ireturn, 0, 0) :: []),
  (18, [false, false, false], (1, .astore_n 2, 0, 0) :: (2, .ldc 24, 0, (-900002)) :: (1, .ireturn, 0, 0) :: [])]
def mt_Latticefit_chipOutput_20 : List ma_AI := (3, .ifCond .eq (7), 0, 0) :: (1, .iconst (1), 0, 1) :: (3, .goto (4), 0, 0) :: []
def mt_Latticefit_chipOutput_12 : List ma_AI := (1, .aload_n 0, 0, 0) :: (3, .getfield 76, 10, 8) :: (1, .iload_n 1, 0, 0) :: (3, .invokevirtual 320, 118, 2) :: mt_Latticefit_chipOutput_20
def mt_Latticefit_chipOutput_5 : List ma_AI := (1, .aload_n 0, 0, 0) :: (3, .getfield 76, 10, 8) :: (3, .invokevirtual 317, 93, 2) :: mt_Latticefit_chipOutput_12
def mb_Latticefit_chipOutput : ma_Tb := [(0, [true, true], (1, .aload_n 0, 0, 0) :: (1, .iload_n 1, 0, 0) :: (3, .invokevirtual 307, 114, 10) :: mt_Latticefit_chipOutput_5),
  (27, [false, false], (1, .iconst (0), 0, 0) :: []),
  (28, [false, false], (1, .ireturn, 0, 0) :: [])]
def mt_Chip_outputValue_27 : List ma_AI := (1, .ireturn, 0, 0) :: []
def mt_Chip_outputValue_20 : List ma_AI := (1, .aload_n 0, 0, 0) :: (3, .getfield 25, 2, 4) :: (3, .invokevirtual 69, 100, 2) :: mt_Chip_outputValue_27
def mb_Chip_outputValue : ma_Tb := [(0, [true, true], (1, .aload_n 0, 0, 0) :: (1, .aload_n 0, 0, 0) :: (3, .getfield 12, 2, 0) :: (1, .aload_n 0, 0, 0) :: (3, .getfield 12, 2, 0) :: (3, .getfield 73, 5, 0) :: (2, .bipush (13), 0, 13) :: (1, .aaload, 0, 0) :: (1, .iload_n 1, 0, 0) :: (1, .iaload, 0, 0) :: (3, .invokevirtual 59, 96, 5) :: mt_Chip_outputValue_20)]
def mt_LatticefitLaw_chipRegister_5 : List ma_AI := (3, .ifCond .eq (7), 0, 0) :: (1, .iconst (1), 0, 1) :: (3, .goto (4), 0, 0) :: []
def mb_LatticefitLaw_chipRegister : ma_Tb := [(0, [true, true, false], (1, .aload_n 0, 0, 0) :: (1, .iload_n 1, 0, 0) :: (3, .invokevirtual 97, 120, 10) :: mt_LatticefitLaw_chipRegister_5),
  (12, [false, false, false], (1, .iconst (0), 0, 0) :: []),
  (13, [false, false, false], (1, .ireturn, 0, 0) :: []),
  (14, [false, false, false], (1, .astore_n 2, 0, 0) :: (2, .ldc 17, 0, (-900001)) :: (1, .ireturn, 0, 0) :: []),
  (18, [false, false, false], (1, .astore_n 2, 0, 0) :: (2, .ldc 24, 0, (-900002)) :: (1, .ireturn, 0, 0) :: [])]
def mt_Latticefit_chipRegister_4 : List ma_AI := (3, .ifCond .ne (11), 0, 0) :: (8, .athrow, 3, 3) :: []
def mt_Latticefit_chipRegister_20 : List ma_AI := (1, .aload_n 0, 0, 0) :: (3, .getfield 76, 10, 8) :: (3, .getfield 288, 2, 2) :: (1, .iload_n 1, 0, 0) :: (1, .iaload, 0, 0) :: (3, .ifCond .eq (7), 0, 0) :: (1, .iconst (1), 0, 1) :: (3, .goto (4), 0, 0) :: []
def mb_Latticefit_chipRegister : ma_Tb := [(0, [true, true], (1, .iload_n 1, 0, 0) :: (3, .invokestatic 188, 103, 0) :: mt_Latticefit_chipRegister_4),
  (15, [true, true], (1, .aload_n 0, 0, 0) :: (1, .iconst (4), 0, 4) :: (3, .invokevirtual 207, 28, 10) :: mt_Latticefit_chipRegister_20),
  (36, [false, false], (1, .iconst (0), 0, 0) :: []),
  (37, [false, false], (1, .ireturn, 0, 0) :: [])]
def mt_LatticefitLaw_isBad_5 : List ma_AI := (3, .ifCond .eq (7), 0, 0) :: (1, .iconst (1), 0, 1) :: (3, .goto (4), 0, 0) :: []
def mb_LatticefitLaw_isBad : ma_Tb := [(0, [true, true, false], (1, .aload_n 0, 0, 0) :: (1, .iload_n 1, 0, 0) :: (3, .invokevirtual 100, 122, 10) :: mt_LatticefitLaw_isBad_5),
  (12, [false, false, false], (1, .iconst (0), 0, 0) :: []),
  (13, [false, false, false], (1, .ireturn, 0, 0) :: []),
  (14, [false, false, false], (1, .astore_n 2, 0, 0) :: (2, .ldc 17, 0, (-900001)) :: (1, .ireturn, 0, 0) :: []),
  (18, [false, false, false], (1, .astore_n 2, 0, 0) :: (2, .ldc 24, 0, (-900002)) :: (1, .ireturn, 0, 0) :: [])]
def mt_Latticefit_isBad_25 : List ma_AI := (3, .if_icmp .eq (7), 0, 0) :: (1, .iconst (1), 0, 1) :: (3, .goto (4), 0, 0) :: []
def mt_Latticefit_isBad_17 : List ma_AI := (1, .aload_n 0, 0, 0) :: (3, .getfield 60, 10, 6) :: (1, .iload_n 1, 0, 0) :: (3, .invokevirtual 276, 109, 5) :: mt_Latticefit_isBad_25
def mt_Latticefit_isBad_6 : List ma_AI := (1, .aload_n 0, 0, 0) :: (3, .getfield 76, 10, 8) :: (3, .getfield 321, 2, 0) :: (1, .iload_n 1, 0, 0) :: (3, .invokevirtual 276, 109, 5) :: mt_Latticefit_isBad_17
def mb_Latticefit_isBad : ma_Tb := [(0, [true, true], (1, .aload_n 0, 0, 0) :: (1, .iload_n 1, 0, 0) :: (1, .iconst (4), 0, 4) :: (3, .invokevirtual 269, 81, 10) :: mt_Latticefit_isBad_6),
  (32, [false, false], (1, .iconst (0), 0, 0) :: []),
  (33, [false, false], (1, .ireturn, 0, 0) :: [])]
def mt_LatticefitLaw_in_5 : List ma_AI := (2, .ldc 113, 0, 2147483647) :: (1, .iand, 0, 0) :: (1, .iload_n 2, 0, 0) :: (1, .irem, 0, 0) :: (1, .ireturn, 0, 0) :: []
def mb_LatticefitLaw_in : ma_Tb := [(0, [true, true, true], (1, .aload_n 0, 0, 0) :: (1, .iload_n 1, 0, 0) :: (3, .invokestatic 107, 124, 0) :: mt_LatticefitLaw_in_5)]
def mb_LatticefitLaw_cell : ma_Tb := [(0, [true, true, false], (2, .ldc 7, 0, 69069) :: (1, .iload_n 1, 0, 0) :: (1, .aload_n 0, 0, 0) :: (1, .arraylength, 0, 0) :: (3, .if_icmp .ge (9), 0, 0) :: (1, .aload_n 0, 0, 0) :: (1, .iload_n 1, 0, 0) :: (1, .iaload, 0, 0) :: (3, .goto (4), 0, 0) :: []),
  (14, [false, true, false], (1, .iconst (0), 0, 0) :: []),
  (15, [false, true, false], (3, .sipush (1009), 0, 1009) :: (1, .iload_n 1, 0, 0) :: (1, .imul, 1, 0) :: (1, .iadd, 1, 0) :: (1, .imul, 1, 0) :: (3, .sipush (12345), 0, 12345) :: (1, .iadd, 1, 0) :: (1, .istore_n 2, 0, 0) :: (1, .iload_n 2, 0, 0) :: (1, .iload_n 2, 0, 0) :: (2, .bipush (13), 0, 13) :: (1, .iushr, 0, 0) :: (1, .ixor, 0, 0) :: (2, .ldc 8, 0, 1103515245) :: (1, .imul, 1, 0) :: (1, .istore_n 2, 0, 0) :: (1, .iload_n 2, 0, 0) :: (1, .iload_n 2, 0, 0) :: (2, .bipush (16), 0, 16) :: (1, .iushr, 0, 0) :: (1, .ixor, 0, 0) :: (1, .ireturn, 0, 0) :: [])]
def mt_LatticefitLaw_isNode_10 : List ma_AI := (2, .istore 6, 0, 0) :: (1, .aload_n 1, 0, 0) :: (2, .iload 6, 0, 0) :: (1, .iload_n 2, 0, 0) :: (1, .iastore, 0, 0) :: (1, .aload_n 1, 0, 0) :: (2, .iload 6, 0, 0) :: (1, .iconst (1), 0, 1) :: (1, .iadd, 0, 0) :: (1, .iload_n 3, 0, 0) :: (1, .iastore, 0, 0) :: (1, .aload_n 1, 0, 0) :: (2, .iload 6, 0, 0) :: (1, .iconst (2), 0, 2) :: (1, .iadd, 0, 0) :: (1, .iload_n 2, 0, 0) :: (2, .bipush (110), 0, 110) :: (3, .if_icmp .ne (7), 0, 0) :: (1, .iload_n 3, 0, 0) :: (3, .goto (5), 0, 0) :: []
def mt_LatticefitLaw_isNode_84 : List ma_AI := (2, .iload 5, 0, 0) :: (3, .if_icmp .ne (7), 0, 0) :: (1, .iconst (1), 0, 1) :: (3, .goto (4), 0, 0) :: []
def mt_LatticefitLaw_isNode_147 : List ma_AI := (2, .iload 5, 0, 0) :: (3, .if_icmp .ne (7), 0, 0) :: (1, .iconst (1), 0, 1) :: (3, .goto (4), 0, 0) :: []
def mt_LatticefitLaw_isNode_167 : List ma_AI := (2, .iload 5, 0, 0) :: (3, .if_icmp .ne (7), 0, 0) :: (1, .iconst (1), 0, 1) :: (3, .goto (4), 0, 0) :: []
def mb_LatticefitLaw_isNode : ma_Tb := [(0, [true, true, true, true, true, false, false], (1, .aload_n 1, 0, 0) :: (1, .iconst (0), 0, 0) :: (1, .iaload, 0, 0) :: (2, .istore 5, 0, 0) :: (2, .iload 5, 0, 0) :: (3, .invokestatic 114, 127, 0) :: mt_LatticefitLaw_isNode_10),
  (39, [true, true, true, true, true, true, true], (2, .iload 4, 0, 0) :: []),
  (41, [true, true, true, true, true, true, true], (1, .iastore, 0, 0) :: (1, .aload_n 1, 0, 0) :: (2, .iload 6, 0, 0) :: (1, .iconst (5), 0, 5) :: (1, .iadd, 0, 0) :: (2, .iload 5, 0, 0) :: (1, .iastore, 0, 0) :: (1, .aload_n 1, 0, 0) :: (1, .iconst (0), 0, 0) :: (1, .dup2, 0, 0) :: (1, .iaload, 0, 0) :: (1, .iconst (1), 0, 1) :: (1, .iadd, 0, 0) :: (1, .iastore, 0, 0) :: (1, .iload_n 2, 0, 0) :: (2, .bipush (105), 0, 105) :: (3, .if_icmp .ne (35), 0, 0) :: (1, .aload_n 1, 0, 0) :: (2, .iload 6, 0, 0) :: (2, .bipush (7), 0, 7) :: (1, .iadd, 0, 0) :: (1, .aload_n 1, 0, 0) :: (1, .iconst (1), 0, 1) :: (1, .iaload, 0, 0) :: (1, .iastore, 0, 0) :: (1, .aload_n 1, 0, 0) :: (1, .iconst (1), 0, 1) :: (1, .dup2, 0, 0) :: (1, .iaload, 0, 0) :: (1, .iconst (1), 0, 1) :: (1, .iadd, 0, 0) :: (1, .iastore, 0, 0) :: (1, .aload_n 0, 0, 0) :: (3, .invokestatic 117, 128, 0) :: mt_LatticefitLaw_isNode_84),
  (93, [false, false, false, false, false, false, false], (1, .iconst (0), 0, 0) :: []),
  (94, [false, false, false, false, false, false, false], (1, .ireturn, 0, 0) :: []),
  (95, [true, true, true, true, true, true, true], (1, .iload_n 2, 0, 0) :: (2, .bipush (114), 0, 114) :: (3, .if_icmp .ne (60), 0, 0) :: (1, .aload_n 1, 0, 0) :: (2, .iload 6, 0, 0) :: (1, .iconst (3), 0, 3) :: (1, .iadd, 0, 0) :: (1, .iload_n 3, 0, 0) :: (1, .iconst (2), 0, 2) :: (1, .irem, 0, 0) :: (1, .iastore, 0, 0) :: (1, .aload_n 1, 0, 0) :: (2, .iload 6, 0, 0) :: (1, .iconst (4), 0, 4) :: (1, .iadd, 0, 0) :: (2, .iload 4, 0, 0) :: (1, .iconst (3), 0, 3) :: (1, .irem, 0, 0) :: (1, .iastore, 0, 0) :: (1, .aload_n 1, 0, 0) :: (1, .iconst (2), 0, 2) :: (1, .dup2, 0, 0) :: (1, .iaload, 0, 0) :: (1, .iconst (1), 0, 1) :: (1, .iadd, 0, 0) :: (1, .iastore, 0, 0) :: (1, .aload_n 0, 0, 0) :: (1, .iload_n 3, 0, 0) :: (1, .iconst (2), 0, 2) :: (1, .irem, 0, 0) :: (1, .iconst (1), 0, 1) :: (3, .if_icmp .ne (7), 0, 0) :: (1, .iconst (1), 0, 1) :: (3, .goto (4), 0, 0) :: []),
  (139, [false, false, false, false, true, true, false], (1, .iconst (0), 0, 0) :: []),
  (140, [false, false, false, false, true, true, false], (2, .iload 4, 0, 0) :: (1, .iconst (3), 0, 3) :: (1, .irem, 0, 0) :: (3, .invokestatic 120, 131, 0) :: mt_LatticefitLaw_isNode_147),
  (156, [false, false, false, false, false, false, false], (1, .iconst (0), 0, 0) :: []),
  (157, [false, false, false, false, false, false, false], (1, .ireturn, 0, 0) :: []),
  (158, [true, false, true, true, true, true, false], (1, .aload_n 0, 0, 0) :: (1, .iload_n 2, 0, 0) :: (1, .i2c, 0, 0) :: (1, .iload_n 3, 0, 0) :: (2, .iload 4, 0, 0) :: (3, .invokestatic 123, 134, 0) :: mt_LatticefitLaw_isNode_167),
  (176, [false, false, false, false, false, false, false], (1, .iconst (0), 0, 0) :: []),
  (177, [false, false, false, false, false, false, false], (1, .ireturn, 0, 0) :: [])]
def mb_LatticefitLaw_at : ma_Tb := [(0, [true], (2, .bipush (10), 0, 10) :: (2, .bipush (8), 0, 8) :: (1, .iload_n 0, 0, 0) :: (1, .imul, 0, 0) :: (1, .iadd, 0, 0) :: (1, .ireturn, 0, 0) :: [])]
def mt_LatticefitLaw_addInput_4 : List ma_AI := (1, .ireturn, 0, 0) :: []
def mb_LatticefitLaw_addInput : ma_Tb := [(0, [true, false], (1, .aload_n 0, 0, 0) :: (3, .invokevirtual 9, 129, 10) :: mt_LatticefitLaw_addInput_4),
  (5, [false, false], (1, .astore_n 1, 0, 0) :: (2, .ldc 17, 0, (-900001)) :: (1, .ireturn, 0, 0) :: [])]
def mt_Latticefit_addInput_44 : List ma_AI := (1, .ireturn, 0, 0) :: []
def mb_Latticefit_addInput : ma_Tb := [(0, [true], (1, .aload_n 0, 0, 0) :: (3, .getfield 10, 10, 0) :: (3, .getfield 91, 3, 10) :: (2, .bipush (48), 0, 48) :: (3, .if_icmp .ge (15), 0, 0) :: (1, .aload_n 0, 0, 0) :: (3, .getfield 10, 10, 0) :: (3, .getfield 94, 3, 11) :: (2, .bipush (6), 0, 6) :: (3, .if_icmp .lt (11), 0, 0) :: []),
  (24, [false], (8, .athrow, 0, 0) :: []),
  (32, [true], (1, .aload_n 0, 0, 0) :: (1, .iconst (0), 0, 0) :: (3, .putfield 87, 10, 10) :: (1, .aload_n 0, 0, 0) :: (3, .getfield 10, 10, 0) :: (3, .invokevirtual 100, 130, 3) :: mt_Latticefit_addInput_44)]
def mb_Circuit_putInput : ma_Tb := [(0, [true], (1, .aload_n 0, 0, 0) :: (3, .getfield 9, 3, 0) :: (1, .aload_n 0, 0, 0) :: (3, .getfield 43, 3, 10) :: (2, .bipush (105), 0, 105) :: (1, .castore, 0, 0) :: (1, .aload_n 0, 0, 0) :: (3, .getfield 31, 3, 6) :: (1, .aload_n 0, 0, 0) :: (3, .getfield 43, 3, 10) :: (1, .aload_n 0, 0, 0) :: (3, .getfield 47, 3, 11) :: (1, .iastore, 0, 0) :: (1, .aload_n 0, 0, 0) :: (3, .getfield 34, 3, 7) :: (1, .aload_n 0, 0, 0) :: (3, .getfield 47, 3, 11) :: (1, .aload_n 0, 0, 0) :: (3, .getfield 43, 3, 10) :: (1, .iastore, 0, 0) :: (1, .aload_n 0, 0, 0) :: (1, .dup, 0, 0) :: (3, .getfield 47, 3, 11) :: (1, .iconst (1), 0, 1) :: (1, .iadd, 0, 0) :: (3, .putfield 47, 3, 11) :: (1, .aload_n 0, 0, 0) :: (1, .dup, 0, 0) :: (3, .getfield 43, 3, 10) :: (1, .dup_x1, 0, 0) :: (1, .iconst (1), 0, 1) :: (1, .iadd, 0, 0) :: (3, .putfield 43, 3, 10) :: (1, .ireturn, 0, 0) :: [])]
def mt_LatticefitLaw_addRegister_6 : List ma_AI := (1, .ireturn, 0, 0) :: []
def mb_LatticefitLaw_addRegister : ma_Tb := [(0, [true, true, true, false], (1, .aload_n 0, 0, 0) :: (1, .iload_n 1, 0, 0) :: (1, .iload_n 2, 0, 0) :: (3, .invokevirtual 18, 132, 10) :: mt_LatticefitLaw_addRegister_6),
  (7, [false, false, false, false], (1, .astore_n 3, 0, 0) :: (2, .ldc 17, 0, (-900001)) :: (1, .ireturn, 0, 0) :: []),
  (11, [false, false, false, false], (1, .astore_n 3, 0, 0) :: (2, .ldc 24, 0, (-900002)) :: (1, .ireturn, 0, 0) :: [])]
def mt_Latticefit_addRegister_63 : List ma_AI := (1, .ireturn, 0, 0) :: []
def mb_Latticefit_addRegister : ma_Tb := [(0, [true, true, true], (1, .iload_n 2, 0, 0) :: (3, .ifCond .lt (8), 0, 0) :: (1, .iload_n 2, 0, 0) :: (1, .iconst (3), 0, 3) :: (3, .if_icmp .lt (11), 0, 0) :: []),
  (9, [false, false, false], (8, .athrow, 2, 2) :: []),
  (17, [true, true, true], (1, .aload_n 0, 0, 0) :: (3, .getfield 10, 10, 0) :: (3, .getfield 91, 3, 10) :: (2, .bipush (48), 0, 48) :: (3, .if_icmp .ge (15), 0, 0) :: (1, .aload_n 0, 0, 0) :: (3, .getfield 10, 10, 0) :: (3, .getfield 107, 3, 12) :: (2, .bipush (8), 0, 8) :: (3, .if_icmp .lt (11), 0, 0) :: []),
  (41, [false, false, false], (8, .athrow, 0, 0) :: []),
  (49, [true, true, true], (1, .aload_n 0, 0, 0) :: (1, .iconst (0), 0, 0) :: (3, .putfield 87, 10, 10) :: (1, .aload_n 0, 0, 0) :: (3, .getfield 10, 10, 0) :: (1, .iload_n 1, 0, 0) :: (1, .iload_n 2, 0, 0) :: (3, .invokevirtual 110, 133, 3) :: mt_Latticefit_addRegister_63)]
def mb_Circuit_putRegister : ma_Tb := [(0, [true, true, true], (1, .aload_n 0, 0, 0) :: (3, .getfield 9, 3, 0) :: (1, .aload_n 0, 0, 0) :: (3, .getfield 43, 3, 10) :: (2, .bipush (114), 0, 114) :: (1, .castore, 0, 0) :: (1, .aload_n 0, 0, 0) :: (3, .getfield 25, 3, 4) :: (1, .aload_n 0, 0, 0) :: (3, .getfield 43, 3, 10) :: (1, .iload_n 1, 0, 0) :: (3, .ifCond .eq (7), 0, 0) :: (1, .iconst (1), 0, 1) :: (3, .goto (4), 0, 0) :: []),
  (27, [true, false, true], (1, .iconst (0), 0, 0) :: []),
  (28, [true, false, true], (1, .iastore, 0, 0) :: (1, .aload_n 0, 0, 0) :: (3, .getfield 28, 3, 5) :: (1, .aload_n 0, 0, 0) :: (3, .getfield 43, 3, 10) :: (1, .iload_n 2, 0, 0) :: (1, .iastore, 0, 0) :: (1, .aload_n 0, 0, 0) :: (3, .getfield 22, 3, 3) :: (1, .aload_n 0, 0, 0) :: (3, .getfield 43, 3, 10) :: (1, .aload_n 0, 0, 0) :: (3, .getfield 43, 3, 10) :: (1, .iastore, 0, 0) :: (1, .aload_n 0, 0, 0) :: (3, .getfield 37, 3, 8) :: (1, .aload_n 0, 0, 0) :: (3, .getfield 50, 3, 12) :: (1, .aload_n 0, 0, 0) :: (3, .getfield 43, 3, 10) :: (1, .iastore, 0, 0) :: (1, .aload_n 0, 0, 0) :: (1, .dup, 0, 0) :: (3, .getfield 50, 3, 12) :: (1, .iconst (1), 0, 1) :: (1, .iadd, 0, 0) :: (3, .putfield 50, 3, 12) :: (1, .aload_n 0, 0, 0) :: (1, .dup, 0, 0) :: (3, .getfield 43, 3, 10) :: (1, .dup_x1, 0, 0) :: (1, .iconst (1), 0, 1) :: (1, .iadd, 0, 0) :: (3, .putfield 43, 3, 10) :: (1, .ireturn, 0, 0) :: [])]
def mt_LatticefitLaw_addGate_7 : List ma_AI := (1, .ireturn, 0, 0) :: []
def mb_LatticefitLaw_addGate : ma_Tb := [(0, [true, true, true, true, false], (1, .aload_n 0, 0, 0) :: (1, .iload_n 1, 0, 0) :: (1, .iload_n 2, 0, 0) :: (1, .iload_n 3, 0, 0) :: (3, .invokevirtual 25, 135, 10) :: mt_LatticefitLaw_addGate_7),
  (8, [false, false, false, false, false], (2, .astore 4, 0, 0) :: (2, .ldc 17, 0, (-900001)) :: (1, .ireturn, 0, 0) :: []),
  (13, [false, false, false, false, false], (2, .astore 4, 0, 0) :: (2, .ldc 24, 0, (-900002)) :: (1, .ireturn, 0, 0) :: []),
  (18, [false, false, false, false, false], (2, .astore 4, 0, 0) :: (2, .ldc 31, 0, (-900003)) :: (1, .ireturn, 0, 0) :: [])]
def mt_Latticefit_addGate_57 : List ma_AI := (3, .ifCond .ne (11), 0, 0) :: []
def mt_Latticefit_addGate_40 : List ma_AI := (3, .ifCond .eq (20), 0, 0) :: (1, .iload_n 1, 0, 0) :: (2, .bipush (110), 0, 110) :: (3, .if_icmp .eq (22), 0, 0) :: (1, .aload_n 0, 0, 0) :: (3, .getfield 10, 10, 0) :: (1, .iload_n 3, 0, 0) :: (3, .invokevirtual 114, 4, 3) :: mt_Latticefit_addGate_57
def mt_Latticefit_addGate_113 : List ma_AI := (1, .ireturn, 0, 0) :: []
def mb_Latticefit_addGate : ma_Tb := [(0, [true, true, true, true], (1, .iload_n 1, 0, 0) :: (2, .bipush (97), 0, 97) :: (3, .if_icmp .eq (29), 0, 0) :: (1, .iload_n 1, 0, 0) :: (2, .bipush (111), 0, 111) :: (3, .if_icmp .eq (23), 0, 0) :: (1, .iload_n 1, 0, 0) :: (2, .bipush (120), 0, 120) :: (3, .if_icmp .eq (17), 0, 0) :: (1, .iload_n 1, 0, 0) :: (2, .bipush (110), 0, 110) :: (3, .if_icmp .eq (11), 0, 0) :: (8, .athrow, 2, 2) :: []),
  (32, [true, true, true, true], (1, .aload_n 0, 0, 0) :: (3, .getfield 10, 10, 0) :: (1, .iload_n 2, 0, 0) :: (3, .invokevirtual 114, 4, 3) :: mt_Latticefit_addGate_40),
  (60, [false, false, false, false], (8, .athrow, 3, 3) :: []),
  (68, [true, true, true, true], (1, .aload_n 0, 0, 0) :: (3, .getfield 10, 10, 0) :: (3, .getfield 91, 3, 10) :: (2, .bipush (48), 0, 48) :: (3, .if_icmp .lt (11), 0, 0) :: (8, .athrow, 0, 0) :: []),
  (88, [true, true, true, true], (1, .aload_n 0, 0, 0) :: (1, .iconst (0), 0, 0) :: (3, .putfield 87, 10, 10) :: (1, .aload_n 0, 0, 0) :: (3, .getfield 10, 10, 0) :: (1, .iload_n 1, 0, 0) :: (1, .iload_n 2, 0, 0) :: (1, .iload_n 1, 0, 0) :: (2, .bipush (110), 0, 110) :: (3, .if_icmp .ne (7), 0, 0) :: (1, .iload_n 2, 0, 0) :: (3, .goto (4), 0, 0) :: []),
  (109, [false, false, false, true], (1, .iload_n 3, 0, 0) :: []),
  (110, [false, false, false, false], (3, .invokevirtual 121, 136, 3) :: mt_Latticefit_addGate_113)]
def mb_Circuit_putGate : ma_Tb := [(0, [true, true, true, true], (1, .aload_n 0, 0, 0) :: (3, .getfield 9, 3, 0) :: (1, .aload_n 0, 0, 0) :: (3, .getfield 43, 3, 10) :: (1, .iload_n 1, 0, 0) :: (1, .castore, 0, 0) :: (1, .aload_n 0, 0, 0) :: (3, .getfield 15, 3, 1) :: (1, .aload_n 0, 0, 0) :: (3, .getfield 43, 3, 10) :: (1, .iload_n 2, 0, 0) :: (1, .iastore, 0, 0) :: (1, .aload_n 0, 0, 0) :: (3, .getfield 19, 3, 2) :: (1, .aload_n 0, 0, 0) :: (3, .getfield 43, 3, 10) :: (1, .iload_n 3, 0, 0) :: (1, .iastore, 0, 0) :: (1, .aload_n 0, 0, 0) :: (1, .dup, 0, 0) :: (3, .getfield 43, 3, 10) :: (1, .dup_x1, 0, 0) :: (1, .iconst (1), 0, 1) :: (1, .iadd, 0, 0) :: (3, .putfield 43, 3, 10) :: (1, .ireturn, 0, 0) :: [])]
def mt_LatticefitLaw_feed_6 : List ma_AI := (1, .ireturn, 0, 0) :: []
def mb_LatticefitLaw_feed : ma_Tb := [(0, [true, true, true, false], (1, .aload_n 0, 0, 0) :: (1, .iload_n 1, 0, 0) :: (1, .iload_n 2, 0, 0) :: (3, .invokevirtual 32, 138, 10) :: mt_LatticefitLaw_feed_6),
  (7, [false, false, false, false], (1, .astore_n 3, 0, 0) :: (2, .ldc 17, 0, (-900001)) :: (1, .ireturn, 0, 0) :: []),
  (11, [false, false, false, false], (1, .astore_n 3, 0, 0) :: (2, .ldc 24, 0, (-900002)) :: (1, .ireturn, 0, 0) :: [])]
def mt_Latticefit_feed_19 : List ma_AI := (3, .ifCond .ne (11), 0, 0) :: []
def mt_Latticefit_feed_8 : List ma_AI := (3, .ifCond .eq (14), 0, 0) :: (1, .aload_n 0, 0, 0) :: (3, .getfield 10, 10, 0) :: (1, .iload_n 2, 0, 0) :: (3, .invokevirtual 114, 4, 3) :: mt_Latticefit_feed_19
def mb_Latticefit_feed : ma_Tb := [(0, [true, true, true, false], (1, .aload_n 0, 0, 0) :: (3, .getfield 10, 10, 0) :: (1, .iload_n 1, 0, 0) :: (3, .invokevirtual 114, 4, 3) :: mt_Latticefit_feed_8),
  (22, [false, false, false, false], (8, .athrow, 3, 3) :: []),
  (30, [true, true, true, false], (1, .aload_n 0, 0, 0) :: (3, .getfield 10, 10, 0) :: (3, .getfield 125, 3, 0) :: (1, .iload_n 1, 0, 0) :: (1, .caload, 0, 0) :: (2, .bipush (114), 0, 114) :: (3, .if_icmp .eq (11), 0, 0) :: (8, .athrow, 0, 0) :: []),
  (52, [true, true, true, false], (1, .aload_n 0, 0, 0) :: (1, .iconst (0), 0, 0) :: (3, .putfield 87, 10, 10) :: (1, .aload_n 0, 0, 0) :: (3, .getfield 10, 10, 0) :: (3, .getfield 129, 3, 3) :: (1, .iload_n 1, 0, 0) :: (1, .iaload, 0, 0) :: (1, .istore_n 3, 0, 0) :: (1, .aload_n 0, 0, 0) :: (3, .getfield 10, 10, 0) :: (3, .getfield 129, 3, 3) :: (1, .iload_n 1, 0, 0) :: (1, .iload_n 2, 0, 0) :: (1, .iastore, 0, 0) :: (1, .iload_n 3, 0, 0) :: (1, .ireturn, 0, 0) :: [])]
def mt_LatticefitLaw_addOutput_5 : List ma_AI := (1, .ireturn, 0, 0) :: []
def mb_LatticefitLaw_addOutput : ma_Tb := [(0, [true, true, false], (1, .aload_n 0, 0, 0) :: (1, .iload_n 1, 0, 0) :: (3, .invokevirtual 36, 140, 10) :: mt_LatticefitLaw_addOutput_5),
  (6, [false, false, false], (1, .astore_n 2, 0, 0) :: (2, .ldc 17, 0, (-900001)) :: (1, .ireturn, 0, 0) :: []),
  (10, [false, false, false], (1, .astore_n 2, 0, 0) :: (2, .ldc 24, 0, (-900002)) :: (1, .ireturn, 0, 0) :: [])]
def mt_Latticefit_addOutput_8 : List ma_AI := (3, .ifCond .ne (11), 0, 0) :: (8, .athrow, 3, 3) :: []
def mt_Latticefit_addOutput_52 : List ma_AI := (1, .ireturn, 0, 0) :: []
def mb_Latticefit_addOutput : ma_Tb := [(0, [true, true], (1, .aload_n 0, 0, 0) :: (3, .getfield 10, 10, 0) :: (1, .iload_n 1, 0, 0) :: (3, .invokevirtual 114, 4, 3) :: mt_Latticefit_addOutput_8),
  (19, [true, true], (1, .aload_n 0, 0, 0) :: (3, .getfield 10, 10, 0) :: (3, .getfield 133, 3, 13) :: (2, .bipush (6), 0, 6) :: (3, .if_icmp .lt (11), 0, 0) :: (8, .athrow, 0, 0) :: []),
  (39, [true, true], (1, .aload_n 0, 0, 0) :: (1, .iconst (0), 0, 0) :: (3, .putfield 87, 10, 10) :: (1, .aload_n 0, 0, 0) :: (3, .getfield 10, 10, 0) :: (1, .iload_n 1, 0, 0) :: (3, .invokevirtual 136, 141, 3) :: mt_Latticefit_addOutput_52)]
def mb_Circuit_putOutput : ma_Tb := [(0, [true, true], (1, .aload_n 0, 0, 0) :: (3, .getfield 40, 3, 9) :: (1, .aload_n 0, 0, 0) :: (3, .getfield 53, 3, 13) :: (1, .iload_n 1, 0, 0) :: (1, .iastore, 0, 0) :: (1, .aload_n 0, 0, 0) :: (1, .dup, 0, 0) :: (3, .getfield 53, 3, 13) :: (1, .dup_x1, 0, 0) :: (1, .iconst (1), 0, 1) :: (1, .iadd, 0, 0) :: (3, .putfield 53, 3, 13) :: (1, .ireturn, 0, 0) :: [])]
def mb_LatticefitLaw_of : ma_Tb := [(0, [true, true, true], (1, .iload_n 0, 0, 0) :: (2, .bipush (97), 0, 97) :: (3, .if_icmp .ne (9), 0, 0) :: (1, .iload_n 1, 0, 0) :: (1, .iload_n 2, 0, 0) :: (1, .iand, 0, 0) :: (3, .goto (30), 0, 0) :: []),
  (12, [true, true, true], (1, .iload_n 0, 0, 0) :: (2, .bipush (111), 0, 111) :: (3, .if_icmp .ne (9), 0, 0) :: (1, .iload_n 1, 0, 0) :: (1, .iload_n 2, 0, 0) :: (1, .ior, 0, 0) :: (3, .goto (18), 0, 0) :: []),
  (24, [true, true, true], (1, .iload_n 0, 0, 0) :: (2, .bipush (120), 0, 120) :: (3, .if_icmp .ne (9), 0, 0) :: (1, .iload_n 1, 0, 0) :: (1, .iload_n 2, 0, 0) :: (1, .ixor, 0, 0) :: (3, .goto (6), 0, 0) :: []),
  (36, [false, true, false], (1, .iconst (1), 0, 1) :: (1, .iload_n 1, 0, 0) :: (1, .isub, 0, 0) :: []),
  (39, [false, false, false], (1, .ireturn, 0, 0) :: [])]
def mt_LatticefitLaw_agrees_4 : List ma_AI := (3, .ifCond .eq (7), 0, 0) :: (1, .iconst (1), 0, 1) :: (3, .goto (4), 0, 0) :: []
def mb_LatticefitLaw_agrees : ma_Tb := [(0, [true, false], (1, .aload_n 0, 0, 0) :: (3, .invokevirtual 103, 146, 10) :: mt_LatticefitLaw_agrees_4),
  (11, [false, false], (1, .iconst (0), 0, 0) :: []),
  (12, [false, false], (1, .ireturn, 0, 0) :: []),
  (13, [false, false], (1, .astore_n 1, 0, 0) :: (2, .ldc 17, 0, (-900001)) :: (1, .ireturn, 0, 0) :: [])]
def mt_Latticefit_agrees_26 : List ma_AI := (1, .iconst (0), 0, 0) :: (1, .istore_n 1, 0, 0) :: []
def mt_Latticefit_agrees_19 : List ma_AI := (1, .aload_n 0, 0, 0) :: (3, .getfield 76, 10, 8) :: (3, .invokevirtual 317, 93, 2) :: mt_Latticefit_agrees_26
def mt_Latticefit_agrees_5 : List ma_AI := (1, .aload_n 0, 0, 0) :: (3, .getfield 83, 10, 9) :: (1, .aload_n 0, 0, 0) :: (3, .getfield 76, 10, 8) :: (3, .getfield 295, 2, 1) :: (3, .invokevirtual 310, 91, 8) :: mt_Latticefit_agrees_19
def mt_Latticefit_agrees_55 : List ma_AI := (3, .if_icmp .eq (5), 0, 0) :: (1, .iconst (0), 0, 0) :: (1, .ireturn, 0, 0) :: []
def mt_Latticefit_agrees_47 : List ma_AI := (1, .aload_n 0, 0, 0) :: (3, .getfield 76, 10, 8) :: (1, .iload_n 1, 0, 0) :: (3, .invokevirtual 320, 118, 2) :: mt_Latticefit_agrees_55
def mt_Latticefit_agrees_113 : List ma_AI := (1, .iaload, 0, 0) :: (3, .if_icmp .eq (5), 0, 0) :: (1, .iconst (0), 0, 0) :: (1, .ireturn, 0, 0) :: []
def mb_Latticefit_agrees : ma_Tb := [(0, [true, false, false], (1, .aload_n 0, 0, 0) :: (1, .iconst (4), 0, 4) :: (3, .invokevirtual 207, 28, 10) :: mt_Latticefit_agrees_5),
  (28, [true, true, false], (1, .iload_n 1, 0, 0) :: (1, .aload_n 0, 0, 0) :: (3, .getfield 10, 10, 0) :: (3, .getfield 133, 3, 13) :: (3, .if_icmp .ge (30), 0, 0) :: (1, .aload_n 0, 0, 0) :: (3, .getfield 83, 10, 9) :: (1, .iload_n 1, 0, 0) :: (3, .invokevirtual 314, 115, 8) :: mt_Latticefit_agrees_47),
  (60, [true, true, false], (3, .iinc 1 (1), 0, 0) :: (3, .goto (-35), 0, 0) :: []),
  (66, [true, false, false], (1, .iconst (0), 0, 0) :: (1, .istore_n 1, 0, 0) :: []),
  (68, [true, true, false], (1, .iload_n 1, 0, 0) :: (1, .aload_n 0, 0, 0) :: (3, .getfield 10, 10, 0) :: (3, .getfield 107, 3, 12) :: (3, .if_icmp .ge (49), 0, 0) :: (1, .aload_n 0, 0, 0) :: (3, .getfield 10, 10, 0) :: (3, .getfield 285, 3, 8) :: (1, .iload_n 1, 0, 0) :: (1, .iaload, 0, 0) :: (1, .istore_n 2, 0, 0) :: (1, .aload_n 0, 0, 0) :: (3, .getfield 83, 10, 9) :: (3, .getfield 337, 8, 0) :: (1, .iload_n 2, 0, 0) :: (1, .iaload, 0, 0) :: (1, .aload_n 0, 0, 0) :: (3, .getfield 76, 10, 8) :: (3, .getfield 288, 2, 2) :: (1, .aload_n 0, 0, 0) :: (3, .getfield 37, 10, 3) :: (1, .iload_n 2, 0, 0) :: (3, .invokevirtual 289, 36, 6) :: mt_Latticefit_agrees_113),
  (119, [true, true, false], (3, .iinc 1 (1), 0, 0) :: (3, .goto (-54), 0, 0) :: []),
  (125, [false, false, false], (1, .iconst (1), 0, 1) :: (1, .ireturn, 0, 0) :: [])]
def mt_LatticefitLaw_begins_22 : List ma_AI := (1, .iconst (3), 0, 3) :: (1, .iadd, 0, 0) :: (1, .iaload, 0, 0) :: (1, .iastore, 0, 0) :: (3, .iinc 1 (1), 0, 0) :: (3, .goto (-27), 0, 0) :: []
def mt_LatticefitLaw_begins_14 : List ma_AI := (2, .bipush (6), 0, 6) :: (1, .iadd, 0, 0) :: (1, .aload_n 0, 0, 0) :: (1, .iload_n 1, 0, 0) :: (3, .invokestatic 114, 127, 0) :: mt_LatticefitLaw_begins_22
def mb_LatticefitLaw_begins : ma_Tb := [(0, [true, false], (1, .iconst (0), 0, 0) :: (1, .istore_n 1, 0, 0) :: []),
  (2, [true, true], (1, .iload_n 1, 0, 0) :: (1, .aload_n 0, 0, 0) :: (1, .iconst (0), 0, 0) :: (1, .iaload, 0, 0) :: (3, .if_icmp .ge (26), 0, 0) :: (1, .aload_n 0, 0, 0) :: (1, .iload_n 1, 0, 0) :: (3, .invokestatic 114, 127, 0) :: mt_LatticefitLaw_begins_14),
  (32, [true, false], (1, .iconst (0), 0, 0) :: (1, .istore_n 1, 0, 0) :: []),
  (34, [true, true], (1, .iload_n 1, 0, 0) :: (2, .bipush (6), 0, 6) :: (3, .if_icmp .ge (17), 0, 0) :: (1, .aload_n 0, 0, 0) :: (3, .sipush (410), 0, 410) :: (1, .iload_n 1, 0, 0) :: (1, .iadd, 0, 0) :: (1, .iconst (0), 0, 0) :: (1, .iastore, 0, 0) :: (3, .iinc 1 (1), 0, 0) :: (3, .goto (-17), 0, 0) :: []),
  (54, [false, false], (1, .return_, 0, 0) :: [])]
def mt_LatticefitLaw_areSources_37 : List ma_AI := (3, .goto (5), 0, 0) :: []
def mt_LatticefitLaw_areSources_33 : List ma_AI := (1, .iload_n 3, 0, 0) :: (3, .invokestatic 158, 101, 0) :: mt_LatticefitLaw_areSources_37
def mt_LatticefitLaw_areSources_20 : List ma_AI := (2, .istore 4, 0, 0) :: (1, .iload_n 3, 0, 0) :: (1, .iconst (4), 0, 4) :: (3, .if_icmp .ge (16), 0, 0) :: (1, .aload_n 0, 0, 0) :: (1, .aload_n 0, 0, 0) :: (1, .iload_n 2, 0, 0) :: (3, .invokestatic 156, 153, 0) :: mt_LatticefitLaw_areSources_33
def mb_LatticefitLaw_areSources : ma_Tb := [(0, [true, true, false, false, false, false], (1, .iconst (0), 0, 0) :: (1, .istore_n 2, 0, 0) :: []),
  (2, [true, true, true, false, false, false], (1, .iload_n 2, 0, 0) :: (1, .iload_n 1, 0, 0) :: (3, .if_icmp .ge (80), 0, 0) :: (1, .iconst (0), 0, 0) :: (1, .istore_n 3, 0, 0) :: []),
  (9, [true, true, true, true, false, false], (1, .iload_n 3, 0, 0) :: (1, .iconst (5), 0, 5) :: (3, .if_icmp .ge (67), 0, 0) :: (1, .aload_n 0, 0, 0) :: (1, .iload_n 2, 0, 0) :: (1, .iload_n 3, 0, 0) :: (3, .invokestatic 154, 150, 0) :: mt_LatticefitLaw_areSources_20),
  (40, [true, true, true, true, true, false], (2, .ldc 17, 0, (-900001)) :: []),
  (42, [true, true, true, true, true, false], (2, .istore 5, 0, 0) :: (1, .iload_n 3, 0, 0) :: (1, .iconst (4), 0, 4) :: (3, .if_icmp .ge (26), 0, 0) :: (2, .iload 5, 0, 0) :: (2, .iload 4, 0, 0) :: (3, .if_icmp .eq (19), 0, 0) :: (2, .iload 4, 0, 0) :: (2, .ldc 31, 0, (-900003)) :: (3, .if_icmp .ne (10), 0, 0) :: (2, .iload 5, 0, 0) :: (2, .ldc 31, 0, (-900003)) :: (3, .if_icmp .eq (5), 0, 0) :: []),
  (70, [false, false, false, false, false, false], (1, .iconst (0), 0, 0) :: (1, .ireturn, 0, 0) :: []),
  (72, [true, true, true, true, false, false], (3, .iinc 3 (1), 0, 0) :: (3, .goto (-66), 0, 0) :: []),
  (78, [true, true, true, false, false, false], (3, .iinc 2 (1), 0, 0) :: (3, .goto (-79), 0, 0) :: []),
  (84, [false, false, false, false, false, false], (1, .iconst (1), 0, 1) :: (1, .ireturn, 0, 0) :: [])]
def mt_LatticefitLaw_inputOf_6 : List ma_AI := (1, .ireturn, 0, 0) :: []
def mb_LatticefitLaw_inputOf : ma_Tb := [(0, [true, true, true, false], (1, .aload_n 0, 0, 0) :: (1, .iload_n 1, 0, 0) :: (1, .iload_n 2, 0, 0) :: (3, .invokevirtual 45, 151, 10) :: mt_LatticefitLaw_inputOf_6),
  (7, [false, false, false, false], (1, .astore_n 3, 0, 0) :: (2, .ldc 17, 0, (-900001)) :: (1, .ireturn, 0, 0) :: []),
  (11, [false, false, false, false], (1, .astore_n 3, 0, 0) :: (2, .ldc 24, 0, (-900002)) :: (1, .ireturn, 0, 0) :: []),
  (15, [false, false, false, false], (1, .astore_n 3, 0, 0) :: (2, .ldc 31, 0, (-900003)) :: (1, .ireturn, 0, 0) :: [])]
def mt_Latticefit_inputOf_5 : List ma_AI := (1, .iload_n 2, 0, 0) :: (3, .ifCond .lt (16), 0, 0) :: (1, .iload_n 2, 0, 0) :: (1, .aload_n 0, 0, 0) :: (3, .getfield 28, 10, 2) :: (3, .getfield 173, 0, 3) :: (1, .iload_n 1, 0, 0) :: (1, .iaload, 0, 0) :: (3, .if_icmp .lt (11), 0, 0) :: []
def mb_Latticefit_inputOf : ma_Tb := [(0, [true, true, true], (1, .aload_n 0, 0, 0) :: (1, .iload_n 1, 0, 0) :: (3, .invokevirtual 166, 152, 10) :: mt_Latticefit_inputOf_5),
  (22, [false, false, false], (8, .athrow, 4, 4) :: []),
  (30, [true, true, true], (1, .aload_n 0, 0, 0) :: (3, .getfield 28, 10, 2) :: (3, .getfield 178, 0, 4) :: (1, .iload_n 1, 0, 0) :: (1, .aaload, 0, 0) :: (1, .iload_n 2, 0, 0) :: (1, .iaload, 0, 0) :: (1, .ireturn, 0, 0) :: [])]
def mb_Latticefit_needBlock : ma_Tb := [(0, [true, true], (1, .aload_n 0, 0, 0) :: (3, .getfield 87, 10, 10) :: (1, .iconst (1), 0, 1) :: (3, .if_icmp .ge (11), 0, 0) :: (8, .athrow, 0, 0) :: []),
  (16, [true, true], (1, .iload_n 1, 0, 0) :: (3, .ifCond .lt (14), 0, 0) :: (1, .iload_n 1, 0, 0) :: (1, .aload_n 0, 0, 0) :: (3, .getfield 28, 10, 2) :: (3, .getfield 147, 0, 7) :: (3, .if_icmp .lt (11), 0, 0) :: []),
  (31, [false, false], (8, .athrow, 3, 3) :: []),
  (39, [false, false], (1, .return_, 0, 0) :: [])]
def mt_LatticefitLaw_cellOf_5 : List ma_AI := (1, .ireturn, 0, 0) :: []
def mb_LatticefitLaw_cellOf : ma_Tb := [(0, [true, true, false], (1, .aload_n 0, 0, 0) :: (1, .iload_n 1, 0, 0) :: (3, .invokevirtual 54, 154, 10) :: mt_LatticefitLaw_cellOf_5),
  (6, [false, false, false], (1, .astore_n 2, 0, 0) :: (2, .ldc 17, 0, (-900001)) :: (1, .ireturn, 0, 0) :: []),
  (10, [false, false, false], (1, .astore_n 2, 0, 0) :: (2, .ldc 24, 0, (-900002)) :: (1, .ireturn, 0, 0) :: [])]
def mt_Latticefit_cellOf_5 : List ma_AI := (1, .aload_n 0, 0, 0) :: (3, .getfield 37, 10, 3) :: (3, .getfield 197, 6, 0) :: (1, .iload_n 1, 0, 0) :: (1, .iaload, 0, 0) :: (1, .ireturn, 0, 0) :: []
def mb_Latticefit_cellOf : ma_Tb := [(0, [true, true], (1, .aload_n 0, 0, 0) :: (1, .iload_n 1, 0, 0) :: (3, .invokevirtual 166, 152, 10) :: mt_Latticefit_cellOf_5)]
def ma_bts : List ma_Tb := [mb_Latticefit_isRouted, mb_Latticefit_isConsistent, mb_Circuit_isSound, mb_Circuit_isGate, mb_Circuit_isNode, mb_Places_isSound, mb_Routes_isCrowded, mb_LatticefitLaw_map, mb_Latticefit_map, mb_Cuts_findAll, mb_Cuts_offerAll, mb_Cuts_offer, mb_Long_bitCount, mb_Cuts_isBehind, mb_Blocks_pack, mb_Blocks_markNeeded, mb_Cuts_own, mb_Blocks_markCut, mb_Blocks_isIn, mb_Arrays_fill_AIIV, mb_Blocks_putRegister, mb_Blocks_putGate, mb_Circuit_joined, mb_Places_putAnew, mb_Routes_clear, mb_Arrays_fill_AJJV, mb_LatticefitLaw_anneal, mb_Latticefit_anneal, mb_Latticefit_needStage, mb_Places_swapByChance, mb_Places_nextChance, mb_Places_cellTold, mb_Places_maySwap, mb_Places_holdsFixed, mb_Places_swapIfGood, mb_Places_clockExcess, mb_Places_cellOfNode, mb_Integer_bitCount, mb_Places_findLengths, mb_Places_sourceCrossing, mb_Places_crossingAt, mb_Places_stretchTo, mb_Places_crossingOfOutput, mb_Places_lengthOf, mb_Places_exchange, mb_LatticefitLaw_route, mb_Latticefit_route, mb_Places_putPins, mb_Routes_addSink, mb_Routes_makeRounds, mb_Routes_giveUp, mb_Latticefit_isEdge, mb_Routes_layTree, mb_Routes_isInTree, mb_Routes_addWay, mb_Routes_openTree, mb_Routes_takeCheapest, mb_Routes_openNeighbours, mb_Routes_offerWay, mb_Routes_tollOf, mb_Routes_takeWay, mb_Routes_otherEnd, mb_Routes_lowEnd, mb_Routes_raisePrices, mb_LatticefitLaw_build, mb_Latticefit_build, mb_Builder_fillFrames, mb_Frames_clear, mb_Builder_putBlock, mb_Frames_putCellWord, mb_Builder_codeAt, mb_Places_sourceCode, mb_Routes_wire, mb_Routes_has, mb_Builder_putNet, mb_Frames_putWireWord, mb_Frames_frameOfEdge, mb_Frames_indexOfEdge, mb_Frames_wordsInUse, mb_LatticefitLaw_wordAt, mb_Latticefit_wordAt, mb_Latticefit_needFrame, mb_Frames_lengthOf, mb_LatticefitLaw_start, mb_Latticefit_start, mb_Chip_reset, mb_Frames_copyFrame, mb_Runner_reset, mb_LatticefitLaw_tick, mb_Latticefit_tick, mb_Runner_takeTick, mb_Runner_findValues, mb_Chip_takeTick, mb_Chip_findTables, mb_Chip_findEnds, mb_Frames_cellWord, mb_Frames_endOf, mb_Frames_isWire, mb_Frames_wireWord, mb_Chip_renewTables, mb_Chip_valueOfEnd, mb_LatticefitLaw_sourceOf, mb_Latticefit_sourceOf, mb_Latticefit_isCell, mb_Places_nodeOfCode, mb_LatticefitLaw_flip, mb_Latticefit_flip, mb_LatticefitLaw_scrub, mb_Latticefit_scrub, mb_Frames_sumOf, mb_LatticefitLaw_setInput, mb_Latticefit_setInput, mb_LatticefitLaw_circuitOutput, mb_Latticefit_circuitOutput, mb_Latticefit_needOutput, mb_Runner_outputValue, mb_LatticefitLaw_chipOutput, mb_Latticefit_chipOutput, mb_Chip_outputValue, mb_LatticefitLaw_chipRegister, mb_Latticefit_chipRegister, mb_LatticefitLaw_isBad, mb_Latticefit_isBad, mb_LatticefitLaw_in, mb_LatticefitLaw_cell, [], mb_LatticefitLaw_isNode, mb_LatticefitLaw_at, mb_LatticefitLaw_addInput, mb_Latticefit_addInput, mb_Circuit_putInput, mb_LatticefitLaw_addRegister, mb_Latticefit_addRegister, mb_Circuit_putRegister, mb_LatticefitLaw_addGate, mb_Latticefit_addGate, mb_Circuit_putGate, mb_LatticefitLaw_feed, mb_Latticefit_feed, mb_LatticefitLaw_addOutput, mb_Latticefit_addOutput, mb_Circuit_putOutput, [], [], mb_LatticefitLaw_of, mb_LatticefitLaw_agrees, mb_Latticefit_agrees, mb_LatticefitLaw_begins, [], mb_LatticefitLaw_areSources, mb_LatticefitLaw_inputOf, mb_Latticefit_inputOf, mb_Latticefit_needBlock, mb_LatticefitLaw_cellOf, mb_Latticefit_cellOf]
def ma_bt (y : Nat) : ma_Tb := ma_bts.getD y []
def ma_cis : List Nat := [10, 10, 3, 3, 3, 6, 7, 11, 10, 4, 4, 4, 13, 4, 0, 0, 4, 0, 0, 14, 0, 0, 3, 6, 7, 14, 11, 10, 10, 6, 6, 6, 6, 6, 6, 6, 6, 12, 6, 6, 6, 6, 6, 6, 6, 11, 10, 6, 7, 7, 7, 10, 7, 7, 7, 7, 7, 7, 7, 7, 7, 7, 7, 7, 11, 10, 1, 5, 1, 5, 1, 6, 7, 7, 1, 5, 5, 5, 5, 11, 10, 10, 5, 11, 10, 2, 5, 8, 11, 10, 8, 8, 2, 2, 2, 5, 5, 5, 5, 2, 2, 11, 10, 10, 6, 11, 10, 11, 10, 5, 11, 10, 11, 10, 10, 8, 11, 10, 2, 11, 10, 11, 10, 11, 11, 11, 11, 11, 11, 10, 3, 11, 10, 3, 11, 10, 3, 11, 10, 11, 10, 3, 11, 11, 11, 11, 10, 11, 11, 11, 11, 10, 10, 11, 10]
/-- the class of a method, by its number among the owners -/
def ma_oi (y : Nat) : Nat := ma_cis.getD y 0
end
section
/-! the blocks are what the bytes say -/
theorem ma_chk_0 : ((ma_ms 0 13).all fun y => ma_chk (ma_b y) (ma_oi y) (ma_nL y) (ma_bt y) && decide (ma_own (ma_oi y) = (ma_y y).cls)) = true := by decide +kernel
theorem ma_chk_1 : ((ma_ms 13 12).all fun y => ma_chk (ma_b y) (ma_oi y) (ma_nL y) (ma_bt y) && decide (ma_own (ma_oi y) = (ma_y y).cls)) = true := by decide +kernel
theorem ma_chk_2 : ((ma_ms 25 19).all fun y => ma_chk (ma_b y) (ma_oi y) (ma_nL y) (ma_bt y) && decide (ma_own (ma_oi y) = (ma_y y).cls)) = true := by decide +kernel
theorem ma_chk_3 : ((ma_ms 44 15).all fun y => ma_chk (ma_b y) (ma_oi y) (ma_nL y) (ma_bt y) && decide (ma_own (ma_oi y) = (ma_y y).cls)) = true := by decide +kernel
theorem ma_chk_4 : ((ma_ms 59 20).all fun y => ma_chk (ma_b y) (ma_oi y) (ma_nL y) (ma_bt y) && decide (ma_own (ma_oi y) = (ma_y y).cls)) = true := by decide +kernel
theorem ma_chk_5 : ((ma_ms 79 20).all fun y => ma_chk (ma_b y) (ma_oi y) (ma_nL y) (ma_bt y) && decide (ma_own (ma_oi y) = (ma_y y).cls)) = true := by decide +kernel
theorem ma_chk_6 : ((ma_ms 99 20).all fun y => ma_chk (ma_b y) (ma_oi y) (ma_nL y) (ma_bt y) && decide (ma_own (ma_oi y) = (ma_y y).cls)) = true := by decide +kernel
theorem ma_chk_7 : ((ma_ms 119 12).all fun y => ma_chk (ma_b y) (ma_oi y) (ma_nL y) (ma_bt y) && decide (ma_own (ma_oi y) = (ma_y y).cls)) = true := by decide +kernel
theorem ma_chk_8 : ((ma_ms 131 17).all fun y => ma_chk (ma_b y) (ma_oi y) (ma_nL y) (ma_bt y) && decide (ma_own (ma_oi y) = (ma_y y).cls)) = true := by decide +kernel
theorem ma_chk_9 : ((ma_ms 148 7).all fun y => ma_chk (ma_b y) (ma_oi y) (ma_nL y) (ma_bt y) && decide (ma_own (ma_oi y) = (ma_y y).cls)) = true := by decide +kernel
theorem ma_chk_all (y : Nat) (h : y < ma_nM) : ma_chk (ma_b y) (ma_oi y) (ma_nL y) (ma_bt y) = true ∧ ma_own (ma_oi y) = (ma_y y).cls := by
  have h : y < 155 := h
  by_cases h0 : y < 13
  · simpa only [Bool.and_eq_true, decide_eq_true_eq] using List.all_eq_true.mp ma_chk_0 y (List.mem_map.mpr ⟨y - 0, List.mem_range.mpr (by omega), by omega⟩)
  by_cases h1 : y < 25
  · simpa only [Bool.and_eq_true, decide_eq_true_eq] using List.all_eq_true.mp ma_chk_1 y (List.mem_map.mpr ⟨y - 13, List.mem_range.mpr (by omega), by omega⟩)
  by_cases h2 : y < 44
  · simpa only [Bool.and_eq_true, decide_eq_true_eq] using List.all_eq_true.mp ma_chk_2 y (List.mem_map.mpr ⟨y - 25, List.mem_range.mpr (by omega), by omega⟩)
  by_cases h3 : y < 59
  · simpa only [Bool.and_eq_true, decide_eq_true_eq] using List.all_eq_true.mp ma_chk_3 y (List.mem_map.mpr ⟨y - 44, List.mem_range.mpr (by omega), by omega⟩)
  by_cases h4 : y < 79
  · simpa only [Bool.and_eq_true, decide_eq_true_eq] using List.all_eq_true.mp ma_chk_4 y (List.mem_map.mpr ⟨y - 59, List.mem_range.mpr (by omega), by omega⟩)
  by_cases h5 : y < 99
  · simpa only [Bool.and_eq_true, decide_eq_true_eq] using List.all_eq_true.mp ma_chk_5 y (List.mem_map.mpr ⟨y - 79, List.mem_range.mpr (by omega), by omega⟩)
  by_cases h6 : y < 119
  · simpa only [Bool.and_eq_true, decide_eq_true_eq] using List.all_eq_true.mp ma_chk_6 y (List.mem_map.mpr ⟨y - 99, List.mem_range.mpr (by omega), by omega⟩)
  by_cases h7 : y < 131
  · simpa only [Bool.and_eq_true, decide_eq_true_eq] using List.all_eq_true.mp ma_chk_7 y (List.mem_map.mpr ⟨y - 119, List.mem_range.mpr (by omega), by omega⟩)
  by_cases h8 : y < 148
  · simpa only [Bool.and_eq_true, decide_eq_true_eq] using List.all_eq_true.mp ma_chk_8 y (List.mem_map.mpr ⟨y - 131, List.mem_range.mpr (by omega), by omega⟩)
  by_cases h9 : y < 155
  · simpa only [Bool.and_eq_true, decide_eq_true_eq] using List.all_eq_true.mp ma_chk_9 y (List.mem_map.mpr ⟨y - 148, List.mem_range.mpr (by omega), by omega⟩)
  omega
end
section
/-! the methods, by the depth of calls; each of them keeps its contract on the JVM -/
/-- what a method's body owes where it ends -/
def ma_DD (E : ma_E) (Post : ma_R → ma_M → Prop) : ma_Dn := fun r k μ => k ≤ E.2.2.2 ∧ match r with
  | .inl v => Post (.inl v) μ
  | .inr e => E.2.1 = [] ∧ 0 < E.2.2.2 ∧ Post (.inr e) μ
def ma_EE (LS y : Nat) : ma_E := (LS, ma_hh y, ma_rk y, ma_wc y)
/-- calls of depth d -/
def ma_Ox (LS : Nat) : Nat → ma_O
  | 0 => fun _ _ _ _ => False
  | d + 1 => fun y as μ Post => y < ma_nM ∧ as.all ma_nU = true ∧ (ma_slots as).length ≤ ma_nL y ∧ ma_run (ma_Ox LS d) (ma_EE LS y) (ma_at (ma_bt y)) (ma_DD (ma_EE LS y) Post) 0 (ma_entry (ma_nL y) as) [] 0 μ
theorem ma_hh_hc : ∀ y, y < ma_nM → (ma_hh y = [] → ma_hc y = []) ∧ ((ma_hc y).isEmpty = true → ma_hh y = []) := by decide +kernel
theorem ma_NCD_ot : ∀ w ∈ ma_nests ++ (ma_casts ++ ma_decls), w.onTables = true := by
  intro w hw
  rcases List.mem_append.mp hw with q | q
  · obtain ⟨x, -, rfl⟩ := List.mem_map.mp q; rfl
  · rcases List.mem_append.mp q with q | q
    · obtain ⟨x, -, rfl⟩ := List.mem_map.mp q; rfl
    · obtain ⟨x, -, rfl⟩ := List.mem_map.mp q; rfl
section MET
variable {p : Program} {l : Launch} {e : Env} {R : Room} {s : State} {m : MethodId} {args : Array Value} {below : List Frame} {meth : Method} {c : Code} {Q : State → Prop} {G : ma_G} {cc : ByteArray} {o nL c0 s0 pc k pp : Nat} {qq : Int} {ls st : List ma_V} {μ : ma_M} {O : ma_O} {E : ma_E} {K : ma_K} {J : ma_J} {D : ma_Dn}
theorem ma_throw_at (C : ma_Cx p s m args c G cc 10 nL) (hLn : nL = c.maxLocals) (hls : l.stackTraces = false) (hlocks : meth.locks = false) (hex : ∀ x ∈ c.exceptionTable.toList, False) {e9 t9 mc : Nat} {Qc : Array Value → State → Outcome → State → Prop} {Post : ma_R → ma_M → Prop} {H : Heap} {locs : List Loc} {ls : Array Slot}
    (hH : ma_HR G s μ H) (hS : va_S (ma_A G) s.heap H locs) (hsz : ls.size = nL) (ht : ma_thr[t9]? = some (10, (ma_thr.getD t9 (0, 0, 0, 0)).2.1, (ma_thr.getD t9 (0, 0, 0, 0)).2.2.1, e9))
    (d0 : decode cc pc = .ok (.new (ma_thr.getD t9 (0, 0, 0, 0)).2.1, 3)) (d3 : decode cc (pc + 3) = .ok (.dup, 1)) (d4 : decode cc (pc + 4) = .ok (.invokespecial (ma_thr.getD t9 (0, 0, 0, 0)).2.2.1, 3)) (d7 : decode cc (pc + 7) = .ok (.athrow, 1))
    (hr1 : 10 ≤ R.frames) (hr2 : 200 ≤ R.locals) (hr3 : mc ≤ R.cells) (hr4 : 6 * mc ≤ R.slots) (hk : k + 1 ≤ mc) (hp : Post (.inr e9) μ) :
    W p l e R s m args below meth c H locs (0 + k) (0 + 6 * k) (vx_MQ below Qc (ma_XC G mc Post) args s mc (6 * mc) (ma_A G)) (F0 m pc ls []) := by
  have key : ∀ (ik ic e8 : Nat), e8 < 5 → decode cc pc = .ok (.new ik, 3) → decode cc (pc + 4) = .ok (.invokespecial ic, 3) → (10, ik, ic, e8) ∈ ma_thr → Post (.inr e8) μ → (∀ w ∈ (vx_at0 (ma_own 10) ic (ma_ex e8) ma_sup).filter goodWord, w ∈ lw_tbl) → (∀ w ∈ (vx_at0 (ma_own 10) ic (ma_ex e8) ma_sup).filter (fun w => !goodWord w), w ∈ ma_nests ++ (ma_casts ++ ma_decls)) →
      (∀ w ∈ Cond.classLink (ma_own 10) ik (ma_ex e8) :: Cond.initialized (ma_ex e8) :: vx_at0 (ma_own 10) ic (ma_ex e8) ma_sup, vx_ot w = true) → Cond.initialized (ma_ex e8) ∈ ma_WG → Bundle.fit (ma_ex e8) = true → (∀ n ∈ ma_sup, Bundle.fit n = true) →
      W p l e R s m args below meth c H locs (0 + k) (0 + 6 * k) (vx_MQ below Qc (ma_XC G mc Post) args s mc (6 * mc) (ma_A G)) (F0 m pc ls []) := by
    intro ik ic e8 he8 d0 d4 hm hp t1 t2 t3 t4 t5 t6
    obtain ⟨n1, n2, n3, -, -⟩ := C.2.2.2.2.2.2.2.2
    refine vx_throw0 (mc := mc) (ms := 6 * mc) C.1 C.2.1 hls C.2.2.2.1 t5 t6 (C.2.2.2.2.1 _ (ma_WG_in (ma_thr_in _ (List.mem_map.mpr ⟨_, hm, rfl⟩)) (ma_thr_good _ (List.mem_map.mpr ⟨_, hm, rfl⟩)))) (C.2.2.2.2.1 _ t4)
      (vx_hat (fun w hw => C.2.2.2.2.1 _ (ma_WG_in (t1 w hw) (List.mem_filter.mp hw).2)) t2 (fun w hw => va_Nw.use (ma_NCD_ot w hw) (n1 w hw))) t3 n2 n3 hS (hsz.trans hLn) d0 d3 d4 d7 (fun x hx => (hex x hx).elim) (by show 2 + 3 < R.frames; omega) (by show 0 + (13 * (2 + 1) + 42) ≤ R.locals; omega) (by omega) (by omega) hlocks ?_ hS.2.2 (by omega) (by omega)
    intro t hvm hz hq
    have h1 : ma_HR G s μ t.heap := ma_HR_grow hH hq
    exact ⟨(e8, μ), ⟨by omega, hp⟩, ⟨rfl, he8, ma_HR.moved hvm h1⟩, ⟨Nat.le_trans hS.1 hz, fun q g1 g2 => (hq q (Nat.lt_of_lt_of_le g1 hS.1)).trans (hS.2.1 q g1 g2)⟩⟩
  have hsup : ∀ n ∈ ma_sup, Bundle.fit n = true := by decide +kernel
  match t9, ht, d0, d4 with
  | 0, ht, d0, d4 =>
    have e : e9 = 0 := by
      have h9 : some ((10 : Nat), _, _, (0 : Nat)) = some (10, _, _, e9) := ht
      simpa using (congrArg (fun z => (z.getD (0, 0, 0, 0)).2.2.2) h9).symm
    subst e
    exact key _ _ 0 (by decide) d0 d4 (by decide) hp ma_th0_in ma_th0_bad ma_th0_ot ma_th0_ini (by decide +kernel) hsup
  | 1, ht, d0, d4 =>
    have e : e9 = 1 := by
      have h9 : some ((10 : Nat), _, _, (1 : Nat)) = some (10, _, _, e9) := ht
      simpa using (congrArg (fun z => (z.getD (0, 0, 0, 0)).2.2.2) h9).symm
    subst e
    exact key _ _ 1 (by decide) d0 d4 (by decide) hp ma_th1_in ma_th1_bad ma_th1_ot ma_th1_ini (by decide +kernel) hsup
  | 2, ht, d0, d4 =>
    have e : e9 = 2 := by
      have h9 : some ((10 : Nat), _, _, (2 : Nat)) = some (10, _, _, e9) := ht
      simpa using (congrArg (fun z => (z.getD (0, 0, 0, 0)).2.2.2) h9).symm
    subst e
    exact key _ _ 2 (by decide) d0 d4 (by decide) hp ma_th2_in ma_th2_bad ma_th2_ot ma_th2_ini (by decide +kernel) hsup
  | 3, ht, d0, d4 =>
    have e : e9 = 3 := by
      have h9 : some ((10 : Nat), _, _, (3 : Nat)) = some (10, _, _, e9) := ht
      simpa using (congrArg (fun z => (z.getD (0, 0, 0, 0)).2.2.2) h9).symm
    subst e
    exact key _ _ 3 (by decide) d0 d4 (by decide) hp ma_th3_in ma_th3_bad ma_th3_ot ma_th3_ini (by decide +kernel) hsup
  | 4, ht, d0, d4 =>
    have e : e9 = 4 := by
      have h9 : some ((10 : Nat), _, _, (4 : Nat)) = some (10, _, _, e9) := ht
      simpa using (congrArg (fun z => (z.getD (0, 0, 0, 0)).2.2.2) h9).symm
    subst e
    exact key _ _ 4 (by decide) d0 d4 (by decide) hp ma_th4_in ma_th4_bad ma_th4_ot ma_th4_ini (by decide +kernel) hsup
  | n + 5, ht, d0, d4 => cases ht
end MET
/-- the contract of every method -/
theorem ma_Ct_all (l : Launch) (hls : l.stackTraces = false) (G : ma_G) (hLS : G.LS ≤ 2048) : ∀ (d y : Nat) (as : List ma_V) (μ : ma_M) (Post : ma_R → ma_M → Prop), ma_Ox G.LS d y as μ Post → ma_Ct l G d y as μ Post
  | 0, _, _, _, _, h => h.elim
  | d + 1, y, as, μ, Post, h => by
    obtain ⟨hy, hnu, hsl, hrun⟩ := h
    have IH := ma_Ct_all l hls G hLS d
    obtain ⟨hplain, hmh, hvh, hpar, hnl⟩ := ma_cls_ok y hy
    obtain ⟨hchk, hown0⟩ := ma_chk_all y hy
    obtain ⟨rt0, rt1, rt2, rt3, rt4, rt5, rt6⟩ := ma_ret_ok y hy
    have body : ∀ (p : Program) (e : Env) (s : State) (m : MethodId) (args : Array Value) (below : List Frame) (meth : Method) (c : Code) (s₁ : State), BodyLoose p l (ma_y y) (headSpec (ma_cw y :: ma_WG) (ma_rm (d + 1) (ma_wc y))) (ma_b y) (ma_nL y) (ma_ret y) e s m args below meth c s₁ → c.maxLocals = ma_nL y → c.exceptionTable.toList = tableOf (ma_hc y) → ma_Pc G as μ args s →
        W p l e (headSpec (ma_cw y :: ma_WG) (ma_rm (d + 1) (ma_wc y))).room s m args below meth c s.heap [] 0 0 (vx_MQ below (ma_Qc G (ma_rk y) Post) (ma_XC G (ma_wc y) Post) args s (ma_wc y) (6 * ma_wc y) (ma_A G)) (entryFrame m args (ma_nL y)) := by
      intro p e s m args below meth c s₁ B hml hT hPc
      obtain ⟨⟨vl, rfl, hRS⟩, hH, hKX⟩ := hPc
      have hts := atoms_spec (ws := ma_cw y :: ma_WG) B.pre
      have hown : s.vm.findClass (ma_y y).cls = some m.cls := findClass_of_methodNamed B.named
      have C : ma_Cx p s m vl.toArray c G (ma_b y) (ma_oi y) (ma_nL y) := ⟨B.exec, B.bytes, hml, by rw [hown0]; exact hown, fun w hw => hts w (List.mem_cons_of_mem _ hw), hKX.1, hKX.2.1, hKX.2.2.1, hKX.2.2.2⟩
      have hr := B.returns
      have hlocks := B.notSynchronized
      rw [lg_entry_eq]
      have hRo : ma_Ro (headSpec (ma_cw y :: ma_WG) (ma_rm (d + 1) (ma_wc y))).room (ma_EE G.LS y) 0 0 := ⟨by show 10 ≤ d + 1 + 10; omega, by show 200 ≤ 43 * (d + 1) + 200; omega, by show 0 + ma_wc y ≤ ma_wc y; omega, by show 0 + 6 * ma_wc y ≤ 6 * ma_wc y; omega⟩
      refine ma_s_run (Q := vx_MQ below (ma_Qc G (ma_rk y) Post) (ma_XC G (ma_wc y) Post) vl.toArray s (ma_wc y) (6 * ma_wc y) (ma_A G)) (c0 := 0) (s0 := 0) (d := d) C hml.symm ⟨rfl, hLS⟩ hchk ⟨by show d + 11 ≤ d + 1 + 10; omega, by show 43 * (d + 1) + 200 ≤ 43 * (d + 1) + 200; omega⟩ hRo (IH) (ma_hX_of hy C hown0 rfl hT) ?_ hrun s.heap [] _ [] hH va_S.rf (ma_entry_RL hRS hnu hsl) trivial
      intro k μ' H locs hH' hS'
      have mq : ∀ (v : Option Value) (hk : k ≤ ma_wc y) (g : JFrame), W p l e (headSpec (ma_cw y :: ma_WG) (ma_rm (d + 1) (ma_wc y))).room s m vl.toArray below meth c H locs (ma_wc y) (6 * ma_wc y) (MQ below (ma_Qc G (ma_rk y) Post) vl.toArray s (ma_wc y) (6 * ma_wc y) (ma_A G)) g → W p l e (headSpec (ma_cw y :: ma_WG) (ma_rm (d + 1) (ma_wc y))).room s m vl.toArray below meth c H locs (0 + k) (0 + 6 * k) (vx_MQ below (ma_Qc G (ma_rk y) Post) (ma_XC G (ma_wc y) Post) vl.toArray s (ma_wc y) (6 * ma_wc y) (ma_A G)) g := fun v hk g hw => W.widen (by omega) (by omega) (vx_ret hw)
      have hBw : ∀ t : State, t.heap = H → s.WarmedH t.vm → ma_Bw G μ' t := fun t ht hW => by
        show ma_HR G t μ' t.heap
        rw [ht]
        exact ma_HR.moved hW.alike hH'
      refine ⟨?_, ?_, ?_, ?_, ?_, ?_, ?_⟩
      · intro pc e9 ls rest q ce hc hD he hk h1 h2 h3
        obtain ⟨-, hh0, hw0, hp⟩ := hD
        have hc0 := (ma_hh_hc y hy).1 hh0
        refine vx_out (E := ma_ex e9) (fun x hx => ?_) hlocks h1 h2 h3 (fun t ht hvm => ?_) hS'.2.2 (by show 0 + k ≤ ma_wc y; have : k ≤ ma_wc y := hk; omega) (by have : k ≤ ma_wc y := hk; omega)
        · rw [hT, hc0] at hx
          cases hx
        · exact ⟨(e9, μ'), ⟨hw0, hp⟩, ⟨rfl, he, by show ma_HR G t μ' t.heap; rw [ht]; exact ma_HR.moved hvm hH'⟩, hS'.F ht⟩
      · intro pc e9 t9 ls ho hsz ht d0 d3 d4 d7 hh0 hk hD
        obtain ⟨-, -, hw0, hp⟩ := hD
        have hc0 := (ma_hh_hc y hy).1 hh0
        rw [ho] at C
        exact ma_throw_at (mc := ma_wc y) C hml.symm hls hlocks (fun x hx => by rw [hT, hc0] at hx; cases hx) hH' hS' hsz ht d0 d3 d4 d7 hRo.1 hRo.2.1 (Nat.le_refl _) (Nat.le_refl _) hk hp
      · intro pc x ls hd hres hD
        obtain ⟨hk, hp⟩ := hD
        refine mq none hk _ ?_
        have hres : ma_resI (ma_rk y) x.toInt := hres
        rcases hres with h1 | ⟨h1, h2⟩ | ⟨h1, h2⟩
        · rw [h1]
          exact W.iret (v := x) C.1 C.2.1 (hr.trans (rt1 h1)) (fun t ht hW => ⟨⟨x, μ', rfl, hp, hBw t ht hW⟩, hS'.F ht⟩) hS'.2.2 hd (hlocks := hlocks)
        · rw [h1]
          exact W.zret (v := x) C.1 C.2.1 (hr.trans (rt2 h1)) (ma_nbool h2).1 (fun t ht hW => ⟨⟨x, μ', rfl, hp, hBw t ht hW⟩, hS'.F ht⟩) hS'.2.2 hd (hlocks := hlocks)
        · rw [h1]
          exact W.zret (v := x) C.1 C.2.1 (hr.trans (rt3 h1)) (ma_nchar h2) (fun t ht hW => ⟨⟨x, μ', rfl, hp, hBw t ht hW⟩, hS'.F ht⟩) hS'.2.2 hd (hlocks := hlocks)
      · intro pc x ls hd h1 hD
        obtain ⟨hk, hp⟩ := hD
        refine mq none hk _ ?_
        have h1 : ma_rk y = 4 := h1
        rw [h1]
        exact W.lret (v := x) C.1 C.2.1 (hr.trans (rt4 h1)) (fun t ht hW => ⟨⟨x, μ', rfl, hp, hBw t ht hW⟩, hS'.F ht⟩) hS'.2.2 hd (hlocks := hlocks)
      · intro pc x ls hd h1 hD
        obtain ⟨hk, hp⟩ := hD
        refine mq none hk _ ?_
        have h1 : ma_rk y = 5 := h1
        rw [h1]
        exact W.fret (v := x) C.1 C.2.1 (hr.trans (rt5 h1)) (fun t ht hW => ⟨⟨x, μ', rfl, hp, hBw t ht hW⟩, hS'.F ht⟩) hS'.2.2 hd (hlocks := hlocks)
      · intro pc x ls hd h1 hD
        obtain ⟨hk, hp⟩ := hD
        refine mq none hk _ ?_
        have h1 : ma_rk y = 6 := h1
        rw [h1]
        exact W.dret (v := x) C.1 C.2.1 (hr.trans (rt6 h1)) (fun t ht hW => ⟨⟨x, μ', rfl, hp, hBw t ht hW⟩, hS'.F ht⟩) hS'.2.2 hd (hlocks := hlocks)
      · intro pc ls hd h1 hD
        obtain ⟨hk, hp⟩ := hD
        refine mq none hk _ ?_
        have h1 : ma_rk y = 0 := h1
        rw [h1]
        exact W.vret C.1 C.2.1 (hr.trans (rt0 h1)) (fun t ht hW => ⟨⟨μ', rfl, hp, hBw t ht hW⟩, hS'.F ht⟩) hS'.2.2 hd (hlocks := hlocks)
    unfold ma_Ct
    by_cases hhc : (ma_hc y).isEmpty = true
    · have hcw : ma_cw y = Cond.code (ma_y y) (ma_b y) (ma_nL y) (ma_ret y) := by unfold ma_cw; rw [if_pos hhc]
      refine vx_ofW hplain (ws' := ma_WG) (cc := ma_b y) (maxL := ma_nL y) (ret := ma_ret y) (by rw [hcw]) (fun p e s m args below meth c s₁ B hml hT hPc => body p e s m args below meth c s₁ B hml ?_ hPc)
      rw [List.isEmpty_iff.mp hhc]
      exact List.eq_nil_iff_forall_not_mem.mpr (fun x hx => hT x hx)
    · have hcw : ma_cw y = Cond.codeWith (ma_y y) (ma_b y) (ma_nL y) (ma_ret y) (ma_hc y) := by unfold ma_cw; rw [if_neg hhc]
      refine vx_ofWH hplain (ws' := ma_WG) (cc := ma_b y) (maxL := ma_nL y) (ret := ma_ret y) (hh := ma_hc y) (by rw [hcw]) (fun p e s m args below meth c s₁ B hml hPc => body p e s m args below meth c s₁ B hml ?_ hPc)
      have h9 := atoms_spec (ws := ma_cw y :: ma_WG) B.pre _ List.mem_cons_self
      rw [hcw] at h9
      exact vx_table (x := ma_y y) B h9
end
