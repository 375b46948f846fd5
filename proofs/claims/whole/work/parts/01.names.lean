-- ===== PART A: goes FIRST, ahead of the names: the tables' words, and 'selects' of the private methods out of them =====
/-- a private method of a class that the tables say can be made, by its rows of tables_1 -/
def lw_okq (q : MethodName × Nat) : Prop := (q.1.cls ≠ "java/lang/invoke/MethodHandle" ∧ q.1.cls ≠ "java/lang/invoke/VarHandle") ∧ Cond.instantiable q.1.cls q.2 ∈ tables_1 ∧ Cond.privateMethod q.1 ∈ tables_1 ∧ Cond.instanceMethod q.1 ∈ tables_1
theorem lw_p0 : lw_okq (⟨"CabinChain", "isFloor", "(I)Z"⟩, 7) := ⟨⟨by decide +kernel, by decide +kernel⟩, List.mem_of_getElem? (i := 13) (by decide +kernel), List.mem_of_getElem? (i := 265) (by decide +kernel), List.mem_of_getElem? (i := 266) (by decide +kernel)⟩
theorem lw_p1 : lw_okq (⟨"CabinChain$Course", "moveOn", "()V"⟩, 17) := ⟨⟨by decide +kernel, by decide +kernel⟩, List.mem_of_getElem? (i := 92) (by decide +kernel), List.mem_of_getElem? (i := 289) (by decide +kernel), List.mem_of_getElem? (i := 290) (by decide +kernel)⟩
theorem lw_p2 : lw_okq (⟨"CabinChain$Course", "countTurned", "(I)V"⟩, 17) := ⟨⟨by decide +kernel, by decide +kernel⟩, List.mem_of_getElem? (i := 92) (by decide +kernel), List.mem_of_getElem? (i := 312) (by decide +kernel), List.mem_of_getElem? (i := 313) (by decide +kernel)⟩
theorem lw_p3 : lw_okq (⟨"CabinChain$Course", "isIn", "(II)Z"⟩, 17) := ⟨⟨by decide +kernel, by decide +kernel⟩, List.mem_of_getElem? (i := 92) (by decide +kernel), List.mem_of_getElem? (i := 316) (by decide +kernel), List.mem_of_getElem? (i := 317) (by decide +kernel)⟩
theorem lw_p4 : lw_okq (⟨"CabinChain$Course", "comeAndArrive", "()V"⟩, 17) := ⟨⟨by decide +kernel, by decide +kernel⟩, List.mem_of_getElem? (i := 92) (by decide +kernel), List.mem_of_getElem? (i := 320) (by decide +kernel), List.mem_of_getElem? (i := 321) (by decide +kernel)⟩
theorem lw_p5 : lw_okq (⟨"CabinChain$Course", "come", "(I)V"⟩, 17) := ⟨⟨by decide +kernel, by decide +kernel⟩, List.mem_of_getElem? (i := 92) (by decide +kernel), List.mem_of_getElem? (i := 324) (by decide +kernel), List.mem_of_getElem? (i := 325) (by decide +kernel)⟩
theorem lw_p6 : lw_okq (⟨"CabinChain$Course", "stand", "(II)V"⟩, 17) := ⟨⟨by decide +kernel, by decide +kernel⟩, List.mem_of_getElem? (i := 92) (by decide +kernel), List.mem_of_getElem? (i := 340) (by decide +kernel), List.mem_of_getElem? (i := 341) (by decide +kernel)⟩
theorem lw_p7 : lw_okq (⟨"CabinChain$Course", "serveBoxes", "()V"⟩, 17) := ⟨⟨by decide +kernel, by decide +kernel⟩, List.mem_of_getElem? (i := 92) (by decide +kernel), List.mem_of_getElem? (i := 344) (by decide +kernel), List.mem_of_getElem? (i := 345) (by decide +kernel)⟩
theorem lw_p8 : lw_okq (⟨"CabinChain$Course", "stepOut", "(III)V"⟩, 17) := ⟨⟨by decide +kernel, by decide +kernel⟩, List.mem_of_getElem? (i := 92) (by decide +kernel), List.mem_of_getElem? (i := 369) (by decide +kernel), List.mem_of_getElem? (i := 370) (by decide +kernel)⟩
theorem lw_p9 : lw_okq (⟨"CabinChain$Course", "leave", "(III)V"⟩, 17) := ⟨⟨by decide +kernel, by decide +kernel⟩, List.mem_of_getElem? (i := 92) (by decide +kernel), List.mem_of_getElem? (i := 377) (by decide +kernel), List.mem_of_getElem? (i := 378) (by decide +kernel)⟩
theorem lw_p10 : lw_okq (⟨"CabinChain$Course", "stepIn", "(III)V"⟩, 17) := ⟨⟨by decide +kernel, by decide +kernel⟩, List.mem_of_getElem? (i := 92) (by decide +kernel), List.mem_of_getElem? (i := 381) (by decide +kernel), List.mem_of_getElem? (i := 382) (by decide +kernel)⟩
theorem lw_p11 : lw_okq (⟨"CabinChain$Course", "takeFromLine", "(II)V"⟩, 17) := ⟨⟨by decide +kernel, by decide +kernel⟩, List.mem_of_getElem? (i := 92) (by decide +kernel), List.mem_of_getElem? (i := 386) (by decide +kernel), List.mem_of_getElem? (i := 387) (by decide +kernel)⟩
theorem lw_p12 : lw_okq (⟨"CabinChain$Course", "enter", "(III)V"⟩, 17) := ⟨⟨by decide +kernel, by decide +kernel⟩, List.mem_of_getElem? (i := 92) (by decide +kernel), List.mem_of_getElem? (i := 390) (by decide +kernel), List.mem_of_getElem? (i := 391) (by decide +kernel)⟩
theorem lw_p13 : lw_okq (⟨"CabinChain", "isSafe", "(I)Z"⟩, 7) := ⟨⟨by decide +kernel, by decide +kernel⟩, List.mem_of_getElem? (i := 13) (by decide +kernel), List.mem_of_getElem? (i := 443) (by decide +kernel), List.mem_of_getElem? (i := 444) (by decide +kernel)⟩
theorem lw_p14 : lw_okq (⟨"CabinChain$Course", "areAllDone", "()Z"⟩, 17) := ⟨⟨by decide +kernel, by decide +kernel⟩, List.mem_of_getElem? (i := 92) (by decide +kernel), List.mem_of_getElem? (i := 457) (by decide +kernel), List.mem_of_getElem? (i := 458) (by decide +kernel)⟩
theorem lw_p15 : lw_okq (⟨"CabinChain$Course", "costTogether", "()I"⟩, 17) := ⟨⟨by decide +kernel, by decide +kernel⟩, List.mem_of_getElem? (i := 92) (by decide +kernel), List.mem_of_getElem? (i := 462) (by decide +kernel), List.mem_of_getElem? (i := 463) (by decide +kernel)⟩
def lw_privs_1 : List (MethodName × Nat) := [(⟨"CabinChain", "isFloor", "(I)Z"⟩, 7), (⟨"CabinChain$Course", "moveOn", "()V"⟩, 17), (⟨"CabinChain$Course", "countTurned", "(I)V"⟩, 17), (⟨"CabinChain$Course", "isIn", "(II)Z"⟩, 17), (⟨"CabinChain$Course", "comeAndArrive", "()V"⟩, 17), (⟨"CabinChain$Course", "come", "(I)V"⟩, 17), (⟨"CabinChain$Course", "stand", "(II)V"⟩, 17), (⟨"CabinChain$Course", "serveBoxes", "()V"⟩, 17), (⟨"CabinChain$Course", "stepOut", "(III)V"⟩, 17), (⟨"CabinChain$Course", "leave", "(III)V"⟩, 17), (⟨"CabinChain$Course", "stepIn", "(III)V"⟩, 17), (⟨"CabinChain$Course", "takeFromLine", "(II)V"⟩, 17), (⟨"CabinChain$Course", "enter", "(III)V"⟩, 17), (⟨"CabinChain", "isSafe", "(I)Z"⟩, 7), (⟨"CabinChain$Course", "areAllDone", "()Z"⟩, 17), (⟨"CabinChain$Course", "costTogether", "()I"⟩, 17)]
theorem lw_r1 : ∀ q ∈ lw_privs_1, lw_okq q := List.forall_mem_cons.mpr ⟨lw_p0, List.forall_mem_cons.mpr ⟨lw_p1, List.forall_mem_cons.mpr ⟨lw_p2, List.forall_mem_cons.mpr ⟨lw_p3, List.forall_mem_cons.mpr ⟨lw_p4, List.forall_mem_cons.mpr ⟨lw_p5, List.forall_mem_cons.mpr ⟨lw_p6, List.forall_mem_cons.mpr ⟨lw_p7, List.forall_mem_cons.mpr ⟨lw_p8, List.forall_mem_cons.mpr ⟨lw_p9, List.forall_mem_cons.mpr ⟨lw_p10, List.forall_mem_cons.mpr ⟨lw_p11, List.forall_mem_cons.mpr ⟨lw_p12, List.forall_mem_cons.mpr ⟨lw_p13, List.forall_mem_cons.mpr ⟨lw_p14, List.forall_mem_cons.mpr ⟨lw_p15, fun _ h => absurd h List.not_mem_nil⟩⟩⟩⟩⟩⟩⟩⟩⟩⟩⟩⟩⟩⟩⟩⟩
theorem lw_p16 : lw_okq (⟨"CabinChain$HandWheel", "measure", "(LCabinChain$Course;I)V"⟩, 2) := ⟨⟨by decide +kernel, by decide +kernel⟩, List.mem_of_getElem? (i := 170) (by decide +kernel), List.mem_of_getElem? (i := 499) (by decide +kernel), List.mem_of_getElem? (i := 500) (by decide +kernel)⟩
theorem lw_p17 : lw_okq (⟨"CabinChain$HandWheel", "backBeside", "(LCabinChain$Course;I)I"⟩, 2) := ⟨⟨by decide +kernel, by decide +kernel⟩, List.mem_of_getElem? (i := 170) (by decide +kernel), List.mem_of_getElem? (i := 508) (by decide +kernel), List.mem_of_getElem? (i := 509) (by decide +kernel)⟩
theorem lw_p18 : lw_okq (⟨"CabinChain$ToldCounts", "together", "(III)I"⟩, 1) := ⟨⟨by decide +kernel, by decide +kernel⟩, List.mem_of_getElem? (i := 183) (by decide +kernel), List.mem_of_getElem? (i := 539) (by decide +kernel), List.mem_of_getElem? (i := 540) (by decide +kernel)⟩
theorem lw_p19 : lw_okq (⟨"CabinChainModel", "begins", "()V"⟩, 19) := ⟨⟨by decide +kernel, by decide +kernel⟩, List.mem_of_getElem? (i := 585) (by decide +kernel), List.mem_of_getElem? (i := 591) (by decide +kernel), List.mem_of_getElem? (i := 592) (by decide +kernel)⟩
theorem lw_p20 : lw_okq (⟨"CabinChainModel", "boxes", "()I"⟩, 19) := ⟨⟨by decide +kernel, by decide +kernel⟩, List.mem_of_getElem? (i := 585) (by decide +kernel), List.mem_of_getElem? (i := 660) (by decide +kernel), List.mem_of_getElem? (i := 661) (by decide +kernel)⟩
theorem lw_p21 : lw_okq (⟨"CabinChainModel", "isFloor", "(I)Z"⟩, 19) := ⟨⟨by decide +kernel, by decide +kernel⟩, List.mem_of_getElem? (i := 585) (by decide +kernel), List.mem_of_getElem? (i := 668) (by decide +kernel), List.mem_of_getElem? (i := 669) (by decide +kernel)⟩
theorem lw_p22 : lw_okq (⟨"CabinChainModel", "isSpeed", "(I)Z"⟩, 19) := ⟨⟨by decide +kernel, by decide +kernel⟩, List.mem_of_getElem? (i := 585) (by decide +kernel), List.mem_of_getElem? (i := 676) (by decide +kernel), List.mem_of_getElem? (i := 677) (by decide +kernel)⟩
theorem lw_p23 : lw_okq (⟨"CabinChainModel", "passes", "()V"⟩, 19) := ⟨⟨by decide +kernel, by decide +kernel⟩, List.mem_of_getElem? (i := 585) (by decide +kernel), List.mem_of_getElem? (i := 688) (by decide +kernel), List.mem_of_getElem? (i := 689) (by decide +kernel)⟩
theorem lw_p24 : lw_okq (⟨"CabinChainModel", "moves", "()V"⟩, 19) := ⟨⟨by decide +kernel, by decide +kernel⟩, List.mem_of_getElem? (i := 585) (by decide +kernel), List.mem_of_getElem? (i := 692) (by decide +kernel), List.mem_of_getElem? (i := 693) (by decide +kernel)⟩
theorem lw_p25 : lw_okq (⟨"CabinChainModel", "placeOf", "(I)I"⟩, 19) := ⟨⟨by decide +kernel, by decide +kernel⟩, List.mem_of_getElem? (i := 585) (by decide +kernel), List.mem_of_getElem? (i := 696) (by decide +kernel), List.mem_of_getElem? (i := 697) (by decide +kernel)⟩
theorem lw_p26 : lw_okq (⟨"CabinChainModel", "isAside", "(I)Z"⟩, 19) := ⟨⟨by decide +kernel, by decide +kernel⟩, List.mem_of_getElem? (i := 585) (by decide +kernel), List.mem_of_getElem? (i := 700) (by decide +kernel), List.mem_of_getElem? (i := 701) (by decide +kernel)⟩
theorem lw_p27 : lw_okq (⟨"CabinChainModel", "partOf", "(I)I"⟩, 19) := ⟨⟨by decide +kernel, by decide +kernel⟩, List.mem_of_getElem? (i := 585) (by decide +kernel), List.mem_of_getElem? (i := 704) (by decide +kernel), List.mem_of_getElem? (i := 705) (by decide +kernel)⟩
theorem lw_p28 : lw_okq (⟨"CabinChainModel", "rides", "(II)Z"⟩, 19) := ⟨⟨by decide +kernel, by decide +kernel⟩, List.mem_of_getElem? (i := 585) (by decide +kernel), List.mem_of_getElem? (i := 708) (by decide +kernel), List.mem_of_getElem? (i := 709) (by decide +kernel)⟩
theorem lw_p29 : lw_okq (⟨"CabinChainModel", "comes", "()V"⟩, 19) := ⟨⟨by decide +kernel, by decide +kernel⟩, List.mem_of_getElem? (i := 585) (by decide +kernel), List.mem_of_getElem? (i := 712) (by decide +kernel), List.mem_of_getElem? (i := 713) (by decide +kernel)⟩
theorem lw_p30 : lw_okq (⟨"CabinChainModel", "walks", "(I)Z"⟩, 19) := ⟨⟨by decide +kernel, by decide +kernel⟩, List.mem_of_getElem? (i := 585) (by decide +kernel), List.mem_of_getElem? (i := 716) (by decide +kernel), List.mem_of_getElem? (i := 717) (by decide +kernel)⟩
theorem lw_p31 : lw_okq (⟨"CabinChainModel", "far", "(I)I"⟩, 19) := ⟨⟨by decide +kernel, by decide +kernel⟩, List.mem_of_getElem? (i := 585) (by decide +kernel), List.mem_of_getElem? (i := 720) (by decide +kernel), List.mem_of_getElem? (i := 721) (by decide +kernel)⟩
def lw_privs_2 : List (MethodName × Nat) := [(⟨"CabinChain$HandWheel", "measure", "(LCabinChain$Course;I)V"⟩, 2), (⟨"CabinChain$HandWheel", "backBeside", "(LCabinChain$Course;I)I"⟩, 2), (⟨"CabinChain$ToldCounts", "together", "(III)I"⟩, 1), (⟨"CabinChainModel", "begins", "()V"⟩, 19), (⟨"CabinChainModel", "boxes", "()I"⟩, 19), (⟨"CabinChainModel", "isFloor", "(I)Z"⟩, 19), (⟨"CabinChainModel", "isSpeed", "(I)Z"⟩, 19), (⟨"CabinChainModel", "passes", "()V"⟩, 19), (⟨"CabinChainModel", "moves", "()V"⟩, 19), (⟨"CabinChainModel", "placeOf", "(I)I"⟩, 19), (⟨"CabinChainModel", "isAside", "(I)Z"⟩, 19), (⟨"CabinChainModel", "partOf", "(I)I"⟩, 19), (⟨"CabinChainModel", "rides", "(II)Z"⟩, 19), (⟨"CabinChainModel", "comes", "()V"⟩, 19), (⟨"CabinChainModel", "walks", "(I)Z"⟩, 19), (⟨"CabinChainModel", "far", "(I)I"⟩, 19)]
theorem lw_r2 : ∀ q ∈ lw_privs_2, lw_okq q := List.forall_mem_cons.mpr ⟨lw_p16, List.forall_mem_cons.mpr ⟨lw_p17, List.forall_mem_cons.mpr ⟨lw_p18, List.forall_mem_cons.mpr ⟨lw_p19, List.forall_mem_cons.mpr ⟨lw_p20, List.forall_mem_cons.mpr ⟨lw_p21, List.forall_mem_cons.mpr ⟨lw_p22, List.forall_mem_cons.mpr ⟨lw_p23, List.forall_mem_cons.mpr ⟨lw_p24, List.forall_mem_cons.mpr ⟨lw_p25, List.forall_mem_cons.mpr ⟨lw_p26, List.forall_mem_cons.mpr ⟨lw_p27, List.forall_mem_cons.mpr ⟨lw_p28, List.forall_mem_cons.mpr ⟨lw_p29, List.forall_mem_cons.mpr ⟨lw_p30, List.forall_mem_cons.mpr ⟨lw_p31, fun _ h => absurd h List.not_mem_nil⟩⟩⟩⟩⟩⟩⟩⟩⟩⟩⟩⟩⟩⟩⟩⟩
theorem lw_p32 : lw_okq (⟨"CabinChainModel", "joins", "(II)V"⟩, 19) := ⟨⟨by decide +kernel, by decide +kernel⟩, List.mem_of_getElem? (i := 585) (by decide +kernel), List.mem_of_getElem? (i := 724) (by decide +kernel), List.mem_of_getElem? (i := 725) (by decide +kernel)⟩
theorem lw_p33 : lw_okq (⟨"CabinChainModel", "leftOf", "(I)I"⟩, 19) := ⟨⟨by decide +kernel, by decide +kernel⟩, List.mem_of_getElem? (i := 585) (by decide +kernel), List.mem_of_getElem? (i := 728) (by decide +kernel), List.mem_of_getElem? (i := 729) (by decide +kernel)⟩
theorem lw_p34 : lw_okq (⟨"CabinChainModel", "serves", "(II)V"⟩, 19) := ⟨⟨by decide +kernel, by decide +kernel⟩, List.mem_of_getElem? (i := 585) (by decide +kernel), List.mem_of_getElem? (i := 732) (by decide +kernel), List.mem_of_getElem? (i := 733) (by decide +kernel)⟩
theorem lw_p35 : lw_okq (⟨"CabinChainModel", "floorOf", "(I)I"⟩, 19) := ⟨⟨by decide +kernel, by decide +kernel⟩, List.mem_of_getElem? (i := 585) (by decide +kernel), List.mem_of_getElem? (i := 736) (by decide +kernel), List.mem_of_getElem? (i := 737) (by decide +kernel)⟩
theorem lw_p36 : lw_okq (⟨"CabinChainModel", "leaves", "(II)V"⟩, 19) := ⟨⟨by decide +kernel, by decide +kernel⟩, List.mem_of_getElem? (i := 585) (by decide +kernel), List.mem_of_getElem? (i := 740) (by decide +kernel), List.mem_of_getElem? (i := 741) (by decide +kernel)⟩
theorem lw_p37 : lw_okq (⟨"CabinChainModel", "widths", "(I)I"⟩, 19) := ⟨⟨by decide +kernel, by decide +kernel⟩, List.mem_of_getElem? (i := 585) (by decide +kernel), List.mem_of_getElem? (i := 744) (by decide +kernel), List.mem_of_getElem? (i := 745) (by decide +kernel)⟩
theorem lw_p38 : lw_okq (⟨"CabinChainModel", "parts", "(II)V"⟩, 19) := ⟨⟨by decide +kernel, by decide +kernel⟩, List.mem_of_getElem? (i := 585) (by decide +kernel), List.mem_of_getElem? (i := 748) (by decide +kernel), List.mem_of_getElem? (i := 749) (by decide +kernel)⟩
theorem lw_p39 : lw_okq (⟨"CabinChainModel", "ridersOf", "(I)I"⟩, 19) := ⟨⟨by decide +kernel, by decide +kernel⟩, List.mem_of_getElem? (i := 585) (by decide +kernel), List.mem_of_getElem? (i := 764) (by decide +kernel), List.mem_of_getElem? (i := 765) (by decide +kernel)⟩
theorem lw_p40 : lw_okq (⟨"CabinChainModel", "isPerson", "(I)Z"⟩, 19) := ⟨⟨by decide +kernel, by decide +kernel⟩, List.mem_of_getElem? (i := 585) (by decide +kernel), List.mem_of_getElem? (i := 776) (by decide +kernel), List.mem_of_getElem? (i := 777) (by decide +kernel)⟩
theorem lw_p41 : lw_okq (⟨"CabinChainModel", "stateOf", "(I)I"⟩, 19) := ⟨⟨by decide +kernel, by decide +kernel⟩, List.mem_of_getElem? (i := 585) (by decide +kernel), List.mem_of_getElem? (i := 780) (by decide +kernel), List.mem_of_getElem? (i := 781) (by decide +kernel)⟩
theorem lw_p42 : lw_okq (⟨"CabinChainModel", "costOf", "(I)I"⟩, 19) := ⟨⟨by decide +kernel, by decide +kernel⟩, List.mem_of_getElem? (i := 585) (by decide +kernel), List.mem_of_getElem? (i := 784) (by decide +kernel), List.mem_of_getElem? (i := 785) (by decide +kernel)⟩
theorem lw_p43 : lw_okq (⟨"CabinChainModel", "isSafe", "(I)Z"⟩, 19) := ⟨⟨by decide +kernel, by decide +kernel⟩, List.mem_of_getElem? (i := 585) (by decide +kernel), List.mem_of_getElem? (i := 796) (by decide +kernel), List.mem_of_getElem? (i := 797) (by decide +kernel)⟩
theorem lw_p44 : lw_okq (⟨"CabinChainModel", "dayCost", "(II)I"⟩, 19) := ⟨⟨by decide +kernel, by decide +kernel⟩, List.mem_of_getElem? (i := 585) (by decide +kernel), List.mem_of_getElem? (i := 804) (by decide +kernel), List.mem_of_getElem? (i := 805) (by decide +kernel)⟩
theorem lw_p45 : lw_okq (⟨"CabinChainModel", "dayBy", "(II)I"⟩, 19) := ⟨⟨by decide +kernel, by decide +kernel⟩, List.mem_of_getElem? (i := 585) (by decide +kernel), List.mem_of_getElem? (i := 808) (by decide +kernel), List.mem_of_getElem? (i := 809) (by decide +kernel)⟩
theorem lw_p46 : lw_okq (⟨"CabinChainModel", "returns", "()V"⟩, 19) := ⟨⟨by decide +kernel, by decide +kernel⟩, List.mem_of_getElem? (i := 585) (by decide +kernel), List.mem_of_getElem? (i := 812) (by decide +kernel), List.mem_of_getElem? (i := 813) (by decide +kernel)⟩
theorem lw_p47 : lw_okq (⟨"CabinChainModel", "frees", "(II)Z"⟩, 19) := ⟨⟨by decide +kernel, by decide +kernel⟩, List.mem_of_getElem? (i := 585) (by decide +kernel), List.mem_of_getElem? (i := 832) (by decide +kernel), List.mem_of_getElem? (i := 833) (by decide +kernel)⟩
def lw_privs_3 : List (MethodName × Nat) := [(⟨"CabinChainModel", "joins", "(II)V"⟩, 19), (⟨"CabinChainModel", "leftOf", "(I)I"⟩, 19), (⟨"CabinChainModel", "serves", "(II)V"⟩, 19), (⟨"CabinChainModel", "floorOf", "(I)I"⟩, 19), (⟨"CabinChainModel", "leaves", "(II)V"⟩, 19), (⟨"CabinChainModel", "widths", "(I)I"⟩, 19), (⟨"CabinChainModel", "parts", "(II)V"⟩, 19), (⟨"CabinChainModel", "ridersOf", "(I)I"⟩, 19), (⟨"CabinChainModel", "isPerson", "(I)Z"⟩, 19), (⟨"CabinChainModel", "stateOf", "(I)I"⟩, 19), (⟨"CabinChainModel", "costOf", "(I)I"⟩, 19), (⟨"CabinChainModel", "isSafe", "(I)Z"⟩, 19), (⟨"CabinChainModel", "dayCost", "(II)I"⟩, 19), (⟨"CabinChainModel", "dayBy", "(II)I"⟩, 19), (⟨"CabinChainModel", "returns", "()V"⟩, 19), (⟨"CabinChainModel", "frees", "(II)Z"⟩, 19)]
theorem lw_r3 : ∀ q ∈ lw_privs_3, lw_okq q := List.forall_mem_cons.mpr ⟨lw_p32, List.forall_mem_cons.mpr ⟨lw_p33, List.forall_mem_cons.mpr ⟨lw_p34, List.forall_mem_cons.mpr ⟨lw_p35, List.forall_mem_cons.mpr ⟨lw_p36, List.forall_mem_cons.mpr ⟨lw_p37, List.forall_mem_cons.mpr ⟨lw_p38, List.forall_mem_cons.mpr ⟨lw_p39, List.forall_mem_cons.mpr ⟨lw_p40, List.forall_mem_cons.mpr ⟨lw_p41, List.forall_mem_cons.mpr ⟨lw_p42, List.forall_mem_cons.mpr ⟨lw_p43, List.forall_mem_cons.mpr ⟨lw_p44, List.forall_mem_cons.mpr ⟨lw_p45, List.forall_mem_cons.mpr ⟨lw_p46, List.forall_mem_cons.mpr ⟨lw_p47, fun _ h => absurd h List.not_mem_nil⟩⟩⟩⟩⟩⟩⟩⟩⟩⟩⟩⟩⟩⟩⟩⟩
theorem lw_p48 : lw_okq (⟨"CabinChainModel", "opens", "(II)Z"⟩, 19) := ⟨⟨by decide +kernel, by decide +kernel⟩, List.mem_of_getElem? (i := 585) (by decide +kernel), List.mem_of_getElem? (i := 836) (by decide +kernel), List.mem_of_getElem? (i := 837) (by decide +kernel)⟩
theorem lw_p49 : lw_okq (⟨"CabinChainModel", "inState", "(I)I"⟩, 19) := ⟨⟨by decide +kernel, by decide +kernel⟩, List.mem_of_getElem? (i := 585) (by decide +kernel), List.mem_of_getElem? (i := 873) (by decide +kernel), List.mem_of_getElem? (i := 874) (by decide +kernel)⟩
def lw_privs_4 : List (MethodName × Nat) := [(⟨"CabinChainModel", "opens", "(II)Z"⟩, 19), (⟨"CabinChainModel", "inState", "(I)I"⟩, 19)]
theorem lw_r4 : ∀ q ∈ lw_privs_4, lw_okq q := List.forall_mem_cons.mpr ⟨lw_p48, List.forall_mem_cons.mpr ⟨lw_p49, fun _ h => absurd h List.not_mem_nil⟩⟩
def lw_privs : List (MethodName × Nat) := lw_privs_1 ++ (lw_privs_2 ++ (lw_privs_3 ++ (lw_privs_4)))
def lw_tbl : List Cond := k2_sels lw_privs ++ tables_1
theorem lw_privs_ok : ∀ q ∈ lw_privs, lw_okq q := by
  show ∀ q ∈ lw_privs_1 ++ (lw_privs_2 ++ (lw_privs_3 ++ (lw_privs_4))), lw_okq q
  exact List.forall_mem_append.mpr ⟨lw_r1, List.forall_mem_append.mpr ⟨lw_r2, List.forall_mem_append.mpr ⟨lw_r3, lw_r4⟩⟩⟩
def RX0 : String := "CabinChain$Course"
def TX0 : u_T := fun k => match k with
  | 0 => ("CabinChain$Course", "people", "LCabinChain$People;", true)
  | 1 => ("CabinChain$Course", "where", "[I", true)
  | 2 => ("CabinChain$Course", "at", "[I", true)
  | 3 => ("CabinChain$Course", "doneAt", "[I", true)
  | 4 => ("CabinChain$Course", "turned", "[I", true)
  | 5 => ("CabinChain$Course", "line", "[[I", true)
  | 6 => ("CabinChain$Course", "lineLength", "[I", true)
  | 7 => ("CabinChain$Course", "widths", "[I", true)
  | 8 => ("CabinChain$Course", "counts", "[[I", true)
  | 9 => ("CabinChain$Course", "shut", "[Z", true)
  | 10 => ("CabinChain$Course", "house", "LCabinChain$House;", false)
  | 11 => ("CabinChain$Course", "speed", "I", false)
  | 12 => ("CabinChain$Course", "stairsForAll", "I", false)
  | 13 => ("CabinChain$Course", "ticks", "I", false)
  | 14 => ("CabinChain$Course", "moved", "I", false)
  | 15 => ("CabinChain$Course", "longestLine", "I", false)
  | _ => ("CabinChain$Course", "stopped", "Z", false)
def tyX0 : Nat → FieldType := fun k => match k with
  | 0 => .object "CabinChain$People"
  | 1 => .array .int
  | 2 => .array .int
  | 3 => .array .int
  | 4 => .array .int
  | 5 => .array (.array .int)
  | 6 => .array .int
  | 7 => .array .int
  | 8 => .array (.array .int)
  | 9 => .array .boolean
  | 10 => .object "CabinChain$House"
  | 11 => .int
  | 12 => .int
  | 13 => .int
  | 14 => .int
  | 15 => .int
  | _ => .boolean
abbrev wsX00 : List Cond := u_ws RX0 TX0 17
theorem nmX0 : ∀ a, a < 17 → ∀ b, b < 17 → a ≠ b → (TX0 a).2.1 ≠ (TX0 b).2.1 := by decide +kernel
theorem tyX0_ok : ∀ k, k < 17 → parseFieldDescriptor (TX0 k).2.2.1 = some (tyX0 k) := by decide +kernel
abbrev cX0_init : ByteArray := prog_2_method_1_code
def yX0_init : MethodName := ⟨RX0, "<init>", "(LCabinChain$People;LCabinChain$House;I)V"⟩
abbrev cX0_begin : ByteArray := prog_2_method_2_code
def yX0_begin : MethodName := ⟨RX0, "begin", "(LCabinChain$House;II)V"⟩
abbrev cX0_playDay : ByteArray := prog_2_method_3_code
def yX0_playDay : MethodName := ⟨RX0, "playDay", "(LCabinChain$House;II)I"⟩
abbrev cX0_tick : ByteArray := prog_2_method_4_code
def yX0_tick : MethodName := ⟨RX0, "tick", "()V"⟩
abbrev cX0_moveOn : ByteArray := prog_2_method_5_code
def yX0_moveOn : MethodName := ⟨RX0, "moveOn", "()V"⟩
abbrev cX0_countTurned : ByteArray := prog_2_method_6_code
def yX0_countTurned : MethodName := ⟨RX0, "countTurned", "(I)V"⟩
abbrev cX0_comeAndArrive : ByteArray := prog_2_method_7_code
def yX0_comeAndArrive : MethodName := ⟨RX0, "comeAndArrive", "()V"⟩
abbrev cX0_come : ByteArray := prog_2_method_8_code
def yX0_come : MethodName := ⟨RX0, "come", "(I)V"⟩
abbrev cX0_stand : ByteArray := prog_2_method_9_code
def yX0_stand : MethodName := ⟨RX0, "stand", "(II)V"⟩
abbrev cX0_serveBoxes : ByteArray := prog_2_method_10_code
def yX0_serveBoxes : MethodName := ⟨RX0, "serveBoxes", "()V"⟩
abbrev cX0_openDoor : ByteArray := prog_2_method_11_code
def yX0_openDoor : MethodName := ⟨RX0, "openDoor", "(II)I"⟩
abbrev cX0_stepOut : ByteArray := prog_2_method_12_code
def yX0_stepOut : MethodName := ⟨RX0, "stepOut", "(III)V"⟩
abbrev cX0_stepIn : ByteArray := prog_2_method_13_code
def yX0_stepIn : MethodName := ⟨RX0, "stepIn", "(III)V"⟩
abbrev cX0_takeFromLine : ByteArray := prog_2_method_14_code
def yX0_takeFromLine : MethodName := ⟨RX0, "takeFromLine", "(II)V"⟩
abbrev cX0_enter : ByteArray := prog_2_method_15_code
def yX0_enter : MethodName := ⟨RX0, "enter", "(III)V"⟩
abbrev cX0_leave : ByteArray := prog_2_method_16_code
def yX0_leave : MethodName := ⟨RX0, "leave", "(III)V"⟩
abbrev cX0_letOut : ByteArray := prog_2_method_17_code
def yX0_letOut : MethodName := ⟨RX0, "letOut", "()I"⟩
abbrev cX0_isIn : ByteArray := prog_2_method_18_code
def yX0_isIn : MethodName := ⟨RX0, "isIn", "(II)Z"⟩
abbrev cX0_riders : ByteArray := prog_2_method_19_code
def yX0_riders : MethodName := ⟨RX0, "riders", "(I)I"⟩
abbrev cX0_spot : ByteArray := prog_2_method_20_code
def yX0_spot : MethodName := ⟨RX0, "spot", "(I)I"⟩
abbrev cX0_costOf : ByteArray := prog_2_method_21_code
def yX0_costOf : MethodName := ⟨RX0, "costOf", "(I)I"⟩
abbrev cX0_costTogether : ByteArray := prog_2_method_22_code
def yX0_costTogether : MethodName := ⟨RX0, "costTogether", "()I"⟩
abbrev cX0_turnedTogether : ByteArray := prog_2_method_23_code
def yX0_turnedTogether : MethodName := ⟨RX0, "turnedTogether", "()I"⟩
abbrev cX0_dearest : ByteArray := prog_2_method_24_code
def yX0_dearest : MethodName := ⟨RX0, "dearest", "()I"⟩
abbrev cX0_howMany : ByteArray := prog_2_method_25_code
def yX0_howMany : MethodName := ⟨RX0, "howMany", "(I)I"⟩
abbrev cX0_areAllDone : ByteArray := prog_2_method_26_code
def yX0_areAllDone : MethodName := ⟨RX0, "areAllDone", "()Z"⟩
def RX1 : String := "CabinChain$HandWheel"
def TX1 : u_T := fun k => match k with
  | 0 => ("CabinChain$HandWheel", "forth", "[I", true)
  | _ => ("CabinChain$HandWheel", "back", "[I", true)
def tyX1 : Nat → FieldType := fun k => match k with
  | 0 => .array .int
  | _ => .array .int
abbrev wsX10 : List Cond := u_ws RX1 TX1 2
theorem nmX1 : ∀ a, a < 2 → ∀ b, b < 2 → a ≠ b → (TX1 a).2.1 ≠ (TX1 b).2.1 := by decide +kernel
theorem tyX1_ok : ∀ k, k < 2 → parseFieldDescriptor (TX1 k).2.2.1 = some (tyX1 k) := by decide +kernel
abbrev cX1_init : ByteArray := prog_3_method_1_code
def yX1_init : MethodName := ⟨RX1, "<init>", "()V"⟩
abbrev cX1_fewestSteps : ByteArray := prog_3_method_2_code
def yX1_fewestSteps : MethodName := ⟨RX1, "fewestSteps", "(LCabinChain$Course;)I"⟩
abbrev cX1_measure : ByteArray := prog_3_method_3_code
def yX1_measure : MethodName := ⟨RX1, "measure", "(LCabinChain$Course;I)V"⟩
abbrev cX1_stepsToDoor : ByteArray := prog_3_method_4_code
def yX1_stepsToDoor : MethodName := ⟨RX1, "stepsToDoor", "(LCabinChain$Course;III)I"⟩
abbrev cX1_backBeside : ByteArray := prog_3_method_5_code
def yX1_backBeside : MethodName := ⟨RX1, "backBeside", "(LCabinChain$Course;I)I"⟩
def RX2 : String := "CabinChain$House"
def TX2 : u_T := fun k => match k with
  | 0 => ("CabinChain$House", "floors", "I", true)
  | 1 => ("CabinChain$House", "steps", "I", true)
  | 2 => ("CabinChain$House", "open", "I", true)
  | 3 => ("CabinChain$House", "boxes", "I", true)
  | _ => ("CabinChain$House", "chainLength", "I", true)
def tyX2 : Nat → FieldType := fun k => match k with
  | 0 => .int
  | 1 => .int
  | 2 => .int
  | 3 => .int
  | _ => .int
abbrev wsX20 : List Cond := u_ws RX2 TX2 5
theorem nmX2 : ∀ a, a < 5 → ∀ b, b < 5 → a ≠ b → (TX2 a).2.1 ≠ (TX2 b).2.1 := by decide +kernel
theorem tyX2_ok : ∀ k, k < 5 → parseFieldDescriptor (TX2 k).2.2.1 = some (tyX2 k) := by decide +kernel
abbrev cX2_init : ByteArray := prog_4_method_1_code
def yX2_init : MethodName := ⟨RX2, "<init>", "(III)V"⟩
abbrev cX2_along : ByteArray := prog_4_method_2_code
def yX2_along : MethodName := ⟨RX2, "along", "(II)I"⟩
abbrev cX2_place : ByteArray := prog_4_method_3_code
def yX2_place : MethodName := ⟨RX2, "place", "(II)I"⟩
abbrev cX2_slot : ByteArray := prog_4_method_4_code
def yX2_slot : MethodName := ⟨RX2, "slot", "(II)I"⟩
abbrev cX2_isUp : ByteArray := prog_4_method_5_code
def yX2_isUp : MethodName := ⟨RX2, "isUp", "(I)Z"⟩
abbrev cX2_isAtFloor : ByteArray := prog_4_method_6_code
def yX2_isAtFloor : MethodName := ⟨RX2, "isAtFloor", "(I)Z"⟩
abbrev cX2_floorOrEnd : ByteArray := prog_4_method_7_code
def yX2_floorOrEnd : MethodName := ⟨RX2, "floorOrEnd", "(I)I"⟩
abbrev cX2_isLastBeforeEnd : ByteArray := prog_4_method_8_code
def yX2_isLastBeforeEnd : MethodName := ⟨RX2, "isLastBeforeEnd", "(I)Z"⟩
abbrev cX2_ticksLeft : ByteArray := prog_4_method_9_code
def yX2_ticksLeft : MethodName := ⟨RX2, "ticksLeft", "(II)I"⟩
abbrev cX2_isOpen : ByteArray := prog_4_method_10_code
def yX2_isOpen : MethodName := ⟨RX2, "isOpen", "(I)Z"⟩
def RX3 : String := "CabinChain$KeptDays"
def TX3 : u_T := fun k => match k with
  | 0 => ("CabinChain$KeptDays", "costs", "[[I", true)
  | 1 => ("CabinChain$KeptDays", "people", "[I", true)
  | _ => ("CabinChain$KeptDays", "number", "I", false)
def tyX3 : Nat → FieldType := fun k => match k with
  | 0 => .array (.array .int)
  | 1 => .array .int
  | _ => .int
abbrev wsX30 : List Cond := u_ws RX3 TX3 3
theorem nmX3 : ∀ a, a < 3 → ∀ b, b < 3 → a ≠ b → (TX3 a).2.1 ≠ (TX3 b).2.1 := by decide +kernel
theorem tyX3_ok : ∀ k, k < 3 → parseFieldDescriptor (TX3 k).2.2.1 = some (tyX3 k) := by decide +kernel
abbrev cX3_init : ByteArray := prog_5_method_1_code
def yX3_init : MethodName := ⟨RX3, "<init>", "()V"⟩
abbrev cX3_add : ByteArray := prog_5_method_2_code
def yX3_add : MethodName := ⟨RX3, "add", "(LCabinChain$Course;)V"⟩
abbrev cX3_howManyHave : ByteArray := prog_5_method_3_code
def yX3_howManyHave : MethodName := ⟨RX3, "howManyHave", "(IILCabinChain$Course;)I"⟩
abbrev cX3_lessTogether : ByteArray := prog_5_method_4_code
def yX3_lessTogether : MethodName := ⟨RX3, "lessTogether", "(ILCabinChain$Course;)I"⟩
def RX4 : String := "CabinChain$People"
def TX4 : u_T := fun k => match k with
  | 0 => ("CabinChain$People", "comes", "[I", true)
  | 1 => ("CabinChain$People", "from", "[I", true)
  | 2 => ("CabinChain$People", "to", "[I", true)
  | 3 => ("CabinChain$People", "width", "[I", true)
  | 4 => ("CabinChain$People", "need", "[I", true)
  | 5 => ("CabinChain$People", "fear", "[I", true)
  | 6 => ("CabinChain$People", "stairs", "[I", true)
  | _ => ("CabinChain$People", "number", "I", false)
def tyX4 : Nat → FieldType := fun k => match k with
  | 0 => .array .int
  | 1 => .array .int
  | 2 => .array .int
  | 3 => .array .int
  | 4 => .array .int
  | 5 => .array .int
  | 6 => .array .int
  | _ => .int
abbrev wsX40 : List Cond := u_ws RX4 TX4 8
theorem nmX4 : ∀ a, a < 8 → ∀ b, b < 8 → a ≠ b → (TX4 a).2.1 ≠ (TX4 b).2.1 := by decide +kernel
theorem tyX4_ok : ∀ k, k < 8 → parseFieldDescriptor (TX4 k).2.2.1 = some (tyX4 k) := by decide +kernel
abbrev cX4_init : ByteArray := prog_6_method_1_code
def yX4_init : MethodName := ⟨RX4, "<init>", "()V"⟩
abbrev cX4_add : ByteArray := prog_6_method_2_code
def yX4_add : MethodName := ⟨RX4, "add", "(IIIIIII)I"⟩
abbrev cX4_floorsApart : ByteArray := prog_6_method_3_code
def yX4_floorsApart : MethodName := ⟨RX4, "floorsApart", "(I)I"⟩
abbrev cX4_goesOnFoot : ByteArray := prog_6_method_4_code
def yX4_goesOnFoot : MethodName := ⟨RX4, "goesOnFoot", "(II)Z"⟩
def RX5 : String := "CabinChain$ToldCounts"
def TX5 : u_T := fun k => match k with
  | _ => ("CabinChain$ToldCounts", "counts", "[[I", true)
def tyX5 : Nat → FieldType := fun k => match k with
  | _ => .array (.array .int)
abbrev wsX50 : List Cond := u_ws RX5 TX5 1
theorem nmX5 : ∀ a, a < 1 → ∀ b, b < 1 → a ≠ b → (TX5 a).2.1 ≠ (TX5 b).2.1 := by decide +kernel
theorem tyX5_ok : ∀ k, k < 1 → parseFieldDescriptor (TX5 k).2.2.1 = some (tyX5 k) := by decide +kernel
abbrev cX5_init : ByteArray := prog_7_method_1_code
def yX5_init : MethodName := ⟨RX5, "<init>", "()V"⟩
abbrev cX5_forget : ByteArray := prog_7_method_2_code
def yX5_forget : MethodName := ⟨RX5, "forget", "()V"⟩
abbrev cX5_mayLeaveInside : ByteArray := prog_7_method_3_code
def yX5_mayLeaveInside : MethodName := ⟨RX5, "mayLeaveInside", "(II)Z"⟩
abbrev cX5_together : ByteArray := prog_7_method_4_code
def yX5_together : MethodName := ⟨RX5, "together", "(III)I"⟩
abbrev cX5_differs : ByteArray := prog_7_method_5_code
def yX5_differs : MethodName := ⟨RX5, "differs", "([[II)Z"⟩
abbrev cX5_howManyTold : ByteArray := prog_7_method_6_code
def yX5_howManyTold : MethodName := ⟨RX5, "howManyTold", "(I)I"⟩
def RX6 : String := "CabinChain"
def TX6 : u_T := fun k => match k with
  | 0 => ("CabinChain", "people", "LCabinChain$People;", true)
  | 1 => ("CabinChain", "now", "LCabinChain$Course;", true)
  | 2 => ("CabinChain", "theDay", "LCabinChain$Course;", true)
  | 3 => ("CabinChain", "handWheel", "LCabinChain$HandWheel;", true)
  | 4 => ("CabinChain", "told", "LCabinChain$ToldCounts;", true)
  | 5 => ("CabinChain", "kept", "LCabinChain$KeptDays;", true)
  | _ => ("CabinChain", "house", "LCabinChain$House;", false)
def tyX6 : Nat → FieldType := fun k => match k with
  | 0 => .object "CabinChain$People"
  | 1 => .object "CabinChain$Course"
  | 2 => .object "CabinChain$Course"
  | 3 => .object "CabinChain$HandWheel"
  | 4 => .object "CabinChain$ToldCounts"
  | 5 => .object "CabinChain$KeptDays"
  | _ => .object "CabinChain$House"
abbrev wsX60 : List Cond := u_ws RX6 TX6 7
theorem nmX6 : ∀ a, a < 7 → ∀ b, b < 7 → a ≠ b → (TX6 a).2.1 ≠ (TX6 b).2.1 := by decide +kernel
theorem tyX6_ok : ∀ k, k < 7 → parseFieldDescriptor (TX6 k).2.2.1 = some (tyX6 k) := by decide +kernel
abbrev cX6_init : ByteArray := prog_1_method_1_code
def yX6_init : MethodName := ⟨RX6, "<init>", "()V"⟩
abbrev cX6_house : ByteArray := prog_1_method_2_code
def yX6_house : MethodName := ⟨RX6, "house", "(IIII)I"⟩
abbrev cX6_person : ByteArray := prog_1_method_3_code
def yX6_person : MethodName := ⟨RX6, "person", "(IIIIIII)I"⟩
abbrev cX6_speed : ByteArray := prog_1_method_4_code
def yX6_speed : MethodName := ⟨RX6, "speed", "(I)I"⟩
abbrev cX6_anew : ByteArray := prog_1_method_5_code
def yX6_anew : MethodName := ⟨RX6, "anew", "()I"⟩
abbrev cX6_ticks : ByteArray := prog_1_method_6_code
def yX6_ticks : MethodName := ⟨RX6, "ticks", "(I)I"⟩
abbrev cX6_stop : ByteArray := prog_1_method_7_code
def yX6_stop : MethodName := ⟨RX6, "stop", "(Z)I"⟩
abbrev cX6_shut : ByteArray := prog_1_method_8_code
def yX6_shut : MethodName := ⟨RX6, "shut", "(IZ)I"⟩
abbrev cX6_box : ByteArray := prog_1_method_9_code
def yX6_box : MethodName := ⟨RX6, "box", "(II)I"⟩
abbrev cX6_left : ByteArray := prog_1_method_10_code
def yX6_left : MethodName := ⟨RX6, "left", "()I"⟩
abbrev cX6_about : ByteArray := prog_1_method_11_code
def yX6_about : MethodName := ⟨RX6, "about", "(II)I"⟩
abbrev cX6_stands : ByteArray := prog_1_method_12_code
def yX6_stands : MethodName := ⟨RX6, "stands", "(II)I"⟩
abbrev cX6_safe : ByteArray := prog_1_method_13_code
def yX6_safe : MethodName := ⟨RX6, "safe", "(I)I"⟩
abbrev cX6_cost : ByteArray := prog_1_method_14_code
def yX6_cost : MethodName := ⟨RX6, "cost", "(II)I"⟩
abbrev cX6_bestSpeed : ByteArray := prog_1_method_15_code
def yX6_bestSpeed : MethodName := ⟨RX6, "bestSpeed", "()I"⟩
abbrev cX6_bestStairs : ByteArray := prog_1_method_16_code
def yX6_bestStairs : MethodName := ⟨RX6, "bestStairs", "()I"⟩
abbrev cX6_day : ByteArray := prog_1_method_17_code
def yX6_day : MethodName := ⟨RX6, "day", "(I)I"⟩
abbrev cX6_wheel : ByteArray := prog_1_method_18_code
def yX6_wheel : MethodName := ⟨RX6, "wheel", "()I"⟩
abbrev cX6_turn : ByteArray := prog_1_method_19_code
def yX6_turn : MethodName := ⟨RX6, "turn", "(I)I"⟩
abbrev cX6_counted : ByteArray := prog_1_method_20_code
def yX6_counted : MethodName := ⟨RX6, "counted", "(II)I"⟩
abbrev cX6_tell : ByteArray := prog_1_method_21_code
def yX6_tell : MethodName := ⟨RX6, "tell", "(III)I"⟩
abbrev cX6_fits : ByteArray := prog_1_method_22_code
def yX6_fits : MethodName := ⟨RX6, "fits", "(I)I"⟩
abbrev cX6_wrong : ByteArray := prog_1_method_23_code
def yX6_wrong : MethodName := ⟨RX6, "wrong", "()I"⟩
abbrev cX6_keep : ByteArray := prog_1_method_24_code
def yX6_keep : MethodName := ⟨RX6, "keep", "()I"⟩
abbrev cX6_beside : ByteArray := prog_1_method_25_code
def yX6_beside : MethodName := ⟨RX6, "beside", "(II)I"⟩
abbrev cX6_count : ByteArray := prog_1_method_26_code
def yX6_count : MethodName := ⟨RX6, "count", "(I)I"⟩
abbrev cX6_within : ByteArray := prog_1_method_27_code
def yX6_within : MethodName := ⟨RX6, "within", "(III)Z"⟩
abbrev cX6_isSpeed : ByteArray := prog_1_method_28_code
def yX6_isSpeed : MethodName := ⟨RX6, "isSpeed", "(II)Z"⟩
abbrev cX6_isFloor : ByteArray := prog_1_method_29_code
def yX6_isFloor : MethodName := ⟨RX6, "isFloor", "(I)Z"⟩
abbrev cX6_isSafe : ByteArray := prog_1_method_30_code
def yX6_isSafe : MethodName := ⟨RX6, "isSafe", "(I)Z"⟩
def RX7 : String := "CabinChainModel"
def TX7 : u_T := fun k => match k with
  | 0 => ("CabinChainModel", "floors", "I", false)
  | 1 => ("CabinChainModel", "steps", "I", false)
  | 2 => ("CabinChainModel", "open", "I", false)
  | 3 => ("CabinChainModel", "speed", "I", false)
  | 4 => ("CabinChainModel", "allStairs", "I", false)
  | 5 => ("CabinChainModel", "people", "I", false)
  | 6 => ("CabinChainModel", "come", "[I", true)
  | 7 => ("CabinChainModel", "from", "[I", true)
  | 8 => ("CabinChainModel", "to", "[I", true)
  | 9 => ("CabinChainModel", "width", "[I", true)
  | 10 => ("CabinChainModel", "need", "[I", true)
  | 11 => ("CabinChainModel", "fear", "[I", true)
  | 12 => ("CabinChainModel", "stairs", "[I", true)
  | 13 => ("CabinChainModel", "m", "[I", true)
  | 14 => ("CabinChainModel", "aside", "[I", true)
  | 15 => ("CabinChainModel", "told", "[I", true)
  | 16 => ("CabinChainModel", "kept", "I", false)
  | 17 => ("CabinChainModel", "keptPeople", "[I", true)
  | _ => ("CabinChainModel", "keptCost", "[I", true)
def tyX7 : Nat → FieldType := fun k => match k with
  | 0 => .int
  | 1 => .int
  | 2 => .int
  | 3 => .int
  | 4 => .int
  | 5 => .int
  | 6 => .array .int
  | 7 => .array .int
  | 8 => .array .int
  | 9 => .array .int
  | 10 => .array .int
  | 11 => .array .int
  | 12 => .array .int
  | 13 => .array .int
  | 14 => .array .int
  | 15 => .array .int
  | 16 => .int
  | 17 => .array .int
  | _ => .array .int
abbrev wsX70 : List Cond := u_ws RX7 TX7 19
theorem nmX7 : ∀ a, a < 19 → ∀ b, b < 19 → a ≠ b → (TX7 a).2.1 ≠ (TX7 b).2.1 := by decide +kernel
theorem tyX7_ok : ∀ k, k < 19 → parseFieldDescriptor (TX7 k).2.2.1 = some (tyX7 k) := by decide +kernel
abbrev cX7_init : ByteArray := prog_9_method_1_code
def yX7_init : MethodName := ⟨RX7, "<init>", "()V"⟩
abbrev cX7_in : ByteArray := prog_9_method_2_code
def yX7_in : MethodName := ⟨RX7, "in", "(III)Z"⟩
abbrev cX7_begins : ByteArray := prog_9_method_3_code
def yX7_begins : MethodName := ⟨RX7, "begins", "()V"⟩
abbrev cX7_isSpeed : ByteArray := prog_9_method_4_code
def yX7_isSpeed : MethodName := ⟨RX7, "isSpeed", "(I)Z"⟩
abbrev cX7_house : ByteArray := prog_9_method_5_code
def yX7_house : MethodName := ⟨RX7, "house", "(IIII)I"⟩
abbrev cX7_isFloor : ByteArray := prog_9_method_6_code
def yX7_isFloor : MethodName := ⟨RX7, "isFloor", "(I)Z"⟩
abbrev cX7_isPerson : ByteArray := prog_9_method_7_code
def yX7_isPerson : MethodName := ⟨RX7, "isPerson", "(I)Z"⟩
abbrev cX7_boxes : ByteArray := prog_9_method_8_code
def yX7_boxes : MethodName := ⟨RX7, "boxes", "()I"⟩
abbrev cX7_person : ByteArray := prog_9_method_9_code
def yX7_person : MethodName := ⟨RX7, "person", "(IIIIIII)I"⟩
abbrev cX7_speed : ByteArray := prog_9_method_10_code
def yX7_speed : MethodName := ⟨RX7, "speed", "(I)I"⟩
abbrev cX7_anew : ByteArray := prog_9_method_11_code
def yX7_anew : MethodName := ⟨RX7, "anew", "()I"⟩
abbrev cX7_placeOf : ByteArray := prog_9_method_12_code
def yX7_placeOf : MethodName := ⟨RX7, "placeOf", "(I)I"⟩
abbrev cX7_partOf : ByteArray := prog_9_method_13_code
def yX7_partOf : MethodName := ⟨RX7, "partOf", "(I)I"⟩
abbrev cX7_isAside : ByteArray := prog_9_method_14_code
def yX7_isAside : MethodName := ⟨RX7, "isAside", "(I)Z"⟩
abbrev cX7_floorOf : ByteArray := prog_9_method_15_code
def yX7_floorOf : MethodName := ⟨RX7, "floorOf", "(I)I"⟩
abbrev cX7_leftOf : ByteArray := prog_9_method_16_code
def yX7_leftOf : MethodName := ⟨RX7, "leftOf", "(I)I"⟩
abbrev cX7_joins : ByteArray := prog_9_method_17_code
def yX7_joins : MethodName := ⟨RX7, "joins", "(II)V"⟩
abbrev cX7_parts : ByteArray := prog_9_method_18_code
def yX7_parts : MethodName := ⟨RX7, "parts", "(II)V"⟩
abbrev cX7_rides : ByteArray := prog_9_method_19_code
def yX7_rides : MethodName := ⟨RX7, "rides", "(II)Z"⟩
abbrev cX7_widths : ByteArray := prog_9_method_20_code
def yX7_widths : MethodName := ⟨RX7, "widths", "(I)I"⟩
abbrev cX7_moves : ByteArray := prog_9_method_21_code
def yX7_moves : MethodName := ⟨RX7, "moves", "()V"⟩
abbrev cX7_far : ByteArray := prog_9_method_22_code
def yX7_far : MethodName := ⟨RX7, "far", "(I)I"⟩
abbrev cX7_walks : ByteArray := prog_9_method_23_code
def yX7_walks : MethodName := ⟨RX7, "walks", "(I)Z"⟩
abbrev cX7_comes : ByteArray := prog_9_method_24_code
def yX7_comes : MethodName := ⟨RX7, "comes", "()V"⟩
abbrev cX7_leaves : ByteArray := prog_9_method_25_code
def yX7_leaves : MethodName := ⟨RX7, "leaves", "(II)V"⟩
abbrev cX7_serves : ByteArray := prog_9_method_26_code
def yX7_serves : MethodName := ⟨RX7, "serves", "(II)V"⟩
abbrev cX7_passes : ByteArray := prog_9_method_27_code
def yX7_passes : MethodName := ⟨RX7, "passes", "()V"⟩
abbrev cX7_ticks : ByteArray := prog_9_method_28_code
def yX7_ticks : MethodName := ⟨RX7, "ticks", "(I)I"⟩
abbrev cX7_stop : ByteArray := prog_9_method_29_code
def yX7_stop : MethodName := ⟨RX7, "stop", "(Z)I"⟩
abbrev cX7_shut : ByteArray := prog_9_method_30_code
def yX7_shut : MethodName := ⟨RX7, "shut", "(IZ)I"⟩
abbrev cX7_ridersOf : ByteArray := prog_9_method_31_code
def yX7_ridersOf : MethodName := ⟨RX7, "ridersOf", "(I)I"⟩
abbrev cX7_box : ByteArray := prog_9_method_32_code
def yX7_box : MethodName := ⟨RX7, "box", "(II)I"⟩
abbrev cX7_left : ByteArray := prog_9_method_33_code
def yX7_left : MethodName := ⟨RX7, "left", "()I"⟩
abbrev cX7_stateOf : ByteArray := prog_9_method_34_code
def yX7_stateOf : MethodName := ⟨RX7, "stateOf", "(I)I"⟩
abbrev cX7_costOf : ByteArray := prog_9_method_35_code
def yX7_costOf : MethodName := ⟨RX7, "costOf", "(I)I"⟩
abbrev cX7_about : ByteArray := prog_9_method_36_code
def yX7_about : MethodName := ⟨RX7, "about", "(II)I"⟩
abbrev cX7_stands : ByteArray := prog_9_method_37_code
def yX7_stands : MethodName := ⟨RX7, "stands", "(II)I"⟩
abbrev cX7_dayBy : ByteArray := prog_9_method_38_code
def yX7_dayBy : MethodName := ⟨RX7, "dayBy", "(II)I"⟩
abbrev cX7_returns : ByteArray := prog_9_method_39_code
def yX7_returns : MethodName := ⟨RX7, "returns", "()V"⟩
abbrev cX7_dayCost : ByteArray := prog_9_method_40_code
def yX7_dayCost : MethodName := ⟨RX7, "dayCost", "(II)I"⟩
abbrev cX7_isSafe : ByteArray := prog_9_method_41_code
def yX7_isSafe : MethodName := ⟨RX7, "isSafe", "(I)Z"⟩
abbrev cX7_safe : ByteArray := prog_9_method_42_code
def yX7_safe : MethodName := ⟨RX7, "safe", "(I)I"⟩
abbrev cX7_cost : ByteArray := prog_9_method_43_code
def yX7_cost : MethodName := ⟨RX7, "cost", "(II)I"⟩
abbrev cX7_bestSpeed : ByteArray := prog_9_method_44_code
def yX7_bestSpeed : MethodName := ⟨RX7, "bestSpeed", "()I"⟩
abbrev cX7_bestStairs : ByteArray := prog_9_method_45_code
def yX7_bestStairs : MethodName := ⟨RX7, "bestStairs", "()I"⟩
abbrev cX7_day : ByteArray := prog_9_method_46_code
def yX7_day : MethodName := ⟨RX7, "day", "(I)I"⟩
abbrev cX7_opens : ByteArray := prog_9_method_47_code
def yX7_opens : MethodName := ⟨RX7, "opens", "(II)Z"⟩
abbrev cX7_frees : ByteArray := prog_9_method_48_code
def yX7_frees : MethodName := ⟨RX7, "frees", "(II)Z"⟩
abbrev cX7_wheel : ByteArray := prog_9_method_49_code
def yX7_wheel : MethodName := ⟨RX7, "wheel", "()I"⟩
abbrev cX7_turn : ByteArray := prog_9_method_50_code
def yX7_turn : MethodName := ⟨RX7, "turn", "(I)I"⟩
abbrev cX7_counted : ByteArray := prog_9_method_51_code
def yX7_counted : MethodName := ⟨RX7, "counted", "(II)I"⟩
abbrev cX7_tell : ByteArray := prog_9_method_52_code
def yX7_tell : MethodName := ⟨RX7, "tell", "(III)I"⟩
abbrev cX7_fits : ByteArray := prog_9_method_53_code
def yX7_fits : MethodName := ⟨RX7, "fits", "(I)I"⟩
abbrev cX7_wrong : ByteArray := prog_9_method_54_code
def yX7_wrong : MethodName := ⟨RX7, "wrong", "()I"⟩
abbrev cX7_keep : ByteArray := prog_9_method_55_code
def yX7_keep : MethodName := ⟨RX7, "keep", "()I"⟩
abbrev cX7_beside : ByteArray := prog_9_method_56_code
def yX7_beside : MethodName := ⟨RX7, "beside", "(II)I"⟩
abbrev cX7_inState : ByteArray := prog_9_method_57_code
def yX7_inState : MethodName := ⟨RX7, "inState", "(I)I"⟩
abbrev cX7_count : ByteArray := prog_9_method_58_code
def yX7_count : MethodName := ⟨RX7, "count", "(I)I"⟩
def RJ6 : String := "java/lang/Integer"
def TJ6 : u_T := fun k => match k with
  | _ => ("", "", "", false)
def tyJ6 : Nat → FieldType := fun k => match k with
  | _ => .int
abbrev wsJ60 : List Cond := u_ws RJ6 TJ6 0
theorem nmJ6 : ∀ a, a < 0 → ∀ b, b < 0 → a ≠ b → (TJ6 a).2.1 ≠ (TJ6 b).2.1 := by decide +kernel
theorem tyJ6_ok : ∀ k, k < 0 → parseFieldDescriptor (TJ6 k).2.2.1 = some (tyJ6 k) := by decide +kernel
abbrev cJ6_signum_0f7a4 : ByteArray := prog_10_method_56_code
def yJ6_signum_0f7a4 : MethodName := ⟨RJ6, "signum", "(I)I"⟩
def RJ9 : String := "java/lang/Math"
def TJ9 : u_T := fun k => match k with
  | _ => ("", "", "", false)
def tyJ9 : Nat → FieldType := fun k => match k with
  | _ => .int
abbrev wsJ90 : List Cond := u_ws RJ9 TJ9 0
theorem nmJ9 : ∀ a, a < 0 → ∀ b, b < 0 → a ≠ b → (TJ9 a).2.1 ≠ (TJ9 b).2.1 := by decide +kernel
theorem tyJ9_ok : ∀ k, k < 0 → parseFieldDescriptor (TJ9 k).2.2.1 = some (tyJ9 k) := by decide +kernel
abbrev cJ9_floorMod_7cf53 : ByteArray := prog_11_method_50_code
def yJ9_floorMod_7cf53 : MethodName := ⟨RJ9, "floorMod", "(II)I"⟩
abbrev cJ9_abs_0f7a4 : ByteArray := prog_11_method_59_code
def yJ9_abs_0f7a4 : MethodName := ⟨RJ9, "abs", "(I)I"⟩
abbrev cJ9_max_7cf53 : ByteArray := prog_11_method_65_code
def yJ9_max_7cf53 : MethodName := ⟨RJ9, "max", "(II)I"⟩
abbrev cJ9_min_7cf53 : ByteArray := prog_11_method_69_code
def yJ9_min_7cf53 : MethodName := ⟨RJ9, "min", "(II)I"⟩
def RJ7 : String := "java/util/Arrays"
def TJ7 : u_T := fun k => match k with
  | _ => ("", "", "", false)
def tyJ7 : Nat → FieldType := fun k => match k with
  | _ => .int
abbrev wsJ70 : List Cond := u_ws RJ7 TJ7 0
theorem nmJ7 : ∀ a, a < 0 → ∀ b, b < 0 → a ≠ b → (TJ7 a).2.1 ≠ (TJ7 b).2.1 := by decide +kernel
theorem tyJ7_ok : ∀ k, k < 0 → parseFieldDescriptor (TJ7 k).2.2.1 = some (tyJ7 k) := by decide +kernel
abbrev cJ7_fill_53178 : ByteArray := prog_12_method_103_code
def yJ7_fill_53178 : MethodName := ⟨RJ7, "fill", "([II)V"⟩
def RL : String := "CabinChainLaw"
abbrev cL_law : ByteArray := code
def yL_law : MethodName := ⟨RL, "law", "([I)Z"⟩
abbrev vwCl : List vw_C := [(RX0, TX0, 17), (RX1, TX1, 2), (RX2, TX2, 5), (RX3, TX3, 3), (RX4, TX4, 8), (RX5, TX5, 1), (RX6, TX6, 7), (RX7, TX7, 19)]
