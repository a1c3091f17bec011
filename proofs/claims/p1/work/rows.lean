section
-- ===== PART A: goes FIRST, ahead of the names: the tables' words, and 'selects' of the private methods out of them =====
/-- a private method of a class that the tables say can be made, by its rows of tables_1 -/
def lw_okq (q : MethodName × Nat) : Prop := (q.1.cls ≠ "java/lang/invoke/MethodHandle" ∧ q.1.cls ≠ "java/lang/invoke/VarHandle") ∧ Cond.instantiable q.1.cls q.2 ∈ tables_1 ∧ Cond.privateMethod q.1 ∈ tables_1 ∧ Cond.instanceMethod q.1 ∈ tables_1
theorem lw_p0 : lw_okq (⟨"PatternMatcher", "forgetMatchIfText", "(I)V"⟩, 13) := ⟨⟨by decide +kernel, by decide +kernel⟩, List.mem_of_getElem? (i := 21) (by decide +kernel), List.mem_of_getElem? (i := 242) (by decide +kernel), List.mem_of_getElem? (i := 243) (by decide +kernel)⟩
theorem lw_p1 : lw_okq (⟨"PatternMatcher$Reader", "add", "(I)I"⟩, 10) := ⟨⟨by decide +kernel, by decide +kernel⟩, List.mem_of_getElem? (i := 270) (by decide +kernel), List.mem_of_getElem? (i := 315) (by decide +kernel), List.mem_of_getElem? (i := 316) (by decide +kernel)⟩
theorem lw_p2 : lw_okq (⟨"PatternMatcher$Reader", "choice", "(II)I"⟩, 10) := ⟨⟨by decide +kernel, by decide +kernel⟩, List.mem_of_getElem? (i := 270) (by decide +kernel), List.mem_of_getElem? (i := 323) (by decide +kernel), List.mem_of_getElem? (i := 324) (by decide +kernel)⟩
theorem lw_p3 : lw_okq (⟨"PatternMatcher$Reader", "sequence", "(II)I"⟩, 10) := ⟨⟨by decide +kernel, by decide +kernel⟩, List.mem_of_getElem? (i := 270) (by decide +kernel), List.mem_of_getElem? (i := 327) (by decide +kernel), List.mem_of_getElem? (i := 328) (by decide +kernel)⟩
theorem lw_p4 : lw_okq (⟨"PatternMatcher$Reader", "isSequenceOver", "()Z"⟩, 10) := ⟨⟨by decide +kernel, by decide +kernel⟩, List.mem_of_getElem? (i := 270) (by decide +kernel), List.mem_of_getElem? (i := 331) (by decide +kernel), List.mem_of_getElem? (i := 332) (by decide +kernel)⟩
theorem lw_p5 : lw_okq (⟨"PatternMatcher$Reader", "onePiece", "(I)I"⟩, 10) := ⟨⟨by decide +kernel, by decide +kernel⟩, List.mem_of_getElem? (i := 270) (by decide +kernel), List.mem_of_getElem? (i := 344) (by decide +kernel), List.mem_of_getElem? (i := 345) (by decide +kernel)⟩
theorem lw_p6 : lw_okq (⟨"PatternMatcher$Reader", "atom", "(I)I"⟩, 10) := ⟨⟨by decide +kernel, by decide +kernel⟩, List.mem_of_getElem? (i := 270) (by decide +kernel), List.mem_of_getElem? (i := 348) (by decide +kernel), List.mem_of_getElem? (i := 349) (by decide +kernel)⟩
theorem lw_p7 : lw_okq (⟨"PatternMatcher$Reader", "bracket", "(I)I"⟩, 10) := ⟨⟨by decide +kernel, by decide +kernel⟩, List.mem_of_getElem? (i := 270) (by decide +kernel), List.mem_of_getElem? (i := 352) (by decide +kernel), List.mem_of_getElem? (i := 353) (by decide +kernel)⟩
theorem lw_p8 : lw_okq (⟨"PatternMatcher$Reader", "refuse", "()I"⟩, 10) := ⟨⟨by decide +kernel, by decide +kernel⟩, List.mem_of_getElem? (i := 270) (by decide +kernel), List.mem_of_getElem? (i := 356) (by decide +kernel), List.mem_of_getElem? (i := 357) (by decide +kernel)⟩
theorem lw_p9 : lw_okq (⟨"PatternMatcher$Reader", "take", "(C)Z"⟩, 10) := ⟨⟨by decide +kernel, by decide +kernel⟩, List.mem_of_getElem? (i := 270) (by decide +kernel), List.mem_of_getElem? (i := 360) (by decide +kernel), List.mem_of_getElem? (i := 361) (by decide +kernel)⟩
theorem lw_p10 : lw_okq (⟨"PatternMatcher$Reader", "group", "(I)I"⟩, 10) := ⟨⟨by decide +kernel, by decide +kernel⟩, List.mem_of_getElem? (i := 270) (by decide +kernel), List.mem_of_getElem? (i := 364) (by decide +kernel), List.mem_of_getElem? (i := 365) (by decide +kernel)⟩
theorem lw_p11 : lw_okq (⟨"PatternMatcher$Reader", "closedChoice", "(II)I"⟩, 10) := ⟨⟨by decide +kernel, by decide +kernel⟩, List.mem_of_getElem? (i := 270) (by decide +kernel), List.mem_of_getElem? (i := 368) (by decide +kernel), List.mem_of_getElem? (i := 369) (by decide +kernel)⟩
theorem lw_p12 : lw_okq (⟨"PatternMatcher$Reader", "expect", "(C)V"⟩, 10) := ⟨⟨by decide +kernel, by decide +kernel⟩, List.mem_of_getElem? (i := 270) (by decide +kernel), List.mem_of_getElem? (i := 372) (by decide +kernel), List.mem_of_getElem? (i := 373) (by decide +kernel)⟩
theorem lw_p13 : lw_okq (⟨"PatternMatcher$Reader", "together", "(I)I"⟩, 10) := ⟨⟨by decide +kernel, by decide +kernel⟩, List.mem_of_getElem? (i := 270) (by decide +kernel), List.mem_of_getElem? (i := 376) (by decide +kernel), List.mem_of_getElem? (i := 377) (by decide +kernel)⟩
theorem lw_p14 : lw_okq (⟨"PatternMatcher$Reader", "withBody", "(II)I"⟩, 10) := ⟨⟨by decide +kernel, by decide +kernel⟩, List.mem_of_getElem? (i := 270) (by decide +kernel), List.mem_of_getElem? (i := 380) (by decide +kernel), List.mem_of_getElem? (i := 381) (by decide +kernel)⟩
theorem lw_p15 : lw_okq (⟨"PatternMatcher$Reader", "single", "(I)I"⟩, 10) := ⟨⟨by decide +kernel, by decide +kernel⟩, List.mem_of_getElem? (i := 270) (by decide +kernel), List.mem_of_getElem? (i := 384) (by decide +kernel), List.mem_of_getElem? (i := 385) (by decide +kernel)⟩
def lw_privs_1 : List (MethodName × Nat) := [(⟨"PatternMatcher", "forgetMatchIfText", "(I)V"⟩, 13), (⟨"PatternMatcher$Reader", "add", "(I)I"⟩, 10), (⟨"PatternMatcher$Reader", "choice", "(II)I"⟩, 10), (⟨"PatternMatcher$Reader", "sequence", "(II)I"⟩, 10), (⟨"PatternMatcher$Reader", "isSequenceOver", "()Z"⟩, 10), (⟨"PatternMatcher$Reader", "onePiece", "(I)I"⟩, 10), (⟨"PatternMatcher$Reader", "atom", "(I)I"⟩, 10), (⟨"PatternMatcher$Reader", "bracket", "(I)I"⟩, 10), (⟨"PatternMatcher$Reader", "refuse", "()I"⟩, 10), (⟨"PatternMatcher$Reader", "take", "(C)Z"⟩, 10), (⟨"PatternMatcher$Reader", "group", "(I)I"⟩, 10), (⟨"PatternMatcher$Reader", "closedChoice", "(II)I"⟩, 10), (⟨"PatternMatcher$Reader", "expect", "(C)V"⟩, 10), (⟨"PatternMatcher$Reader", "together", "(I)I"⟩, 10), (⟨"PatternMatcher$Reader", "withBody", "(II)I"⟩, 10), (⟨"PatternMatcher$Reader", "single", "(I)I"⟩, 10)]
theorem lw_r1 : ∀ q ∈ lw_privs_1, lw_okq q := List.forall_mem_cons.mpr ⟨lw_p0, List.forall_mem_cons.mpr ⟨lw_p1, List.forall_mem_cons.mpr ⟨lw_p2, List.forall_mem_cons.mpr ⟨lw_p3, List.forall_mem_cons.mpr ⟨lw_p4, List.forall_mem_cons.mpr ⟨lw_p5, List.forall_mem_cons.mpr ⟨lw_p6, List.forall_mem_cons.mpr ⟨lw_p7, List.forall_mem_cons.mpr ⟨lw_p8, List.forall_mem_cons.mpr ⟨lw_p9, List.forall_mem_cons.mpr ⟨lw_p10, List.forall_mem_cons.mpr ⟨lw_p11, List.forall_mem_cons.mpr ⟨lw_p12, List.forall_mem_cons.mpr ⟨lw_p13, List.forall_mem_cons.mpr ⟨lw_p14, List.forall_mem_cons.mpr ⟨lw_p15, fun _ h => absurd h List.not_mem_nil⟩⟩⟩⟩⟩⟩⟩⟩⟩⟩⟩⟩⟩⟩⟩⟩
theorem lw_p16 : lw_okq (⟨"PatternMatcher$Reader", "look", "(I)I"⟩, 10) := ⟨⟨by decide +kernel, by decide +kernel⟩, List.mem_of_getElem? (i := 270) (by decide +kernel), List.mem_of_getElem? (i := 388) (by decide +kernel), List.mem_of_getElem? (i := 389) (by decide +kernel)⟩
theorem lw_p17 : lw_okq (⟨"PatternMatcher$Reader", "items", "()I"⟩, 10) := ⟨⟨by decide +kernel, by decide +kernel⟩, List.mem_of_getElem? (i := 270) (by decide +kernel), List.mem_of_getElem? (i := 392) (by decide +kernel), List.mem_of_getElem? (i := 393) (by decide +kernel)⟩
theorem lw_p18 : lw_okq (⟨"PatternMatcher$Reader", "item", "()V"⟩, 10) := ⟨⟨by decide +kernel, by decide +kernel⟩, List.mem_of_getElem? (i := 270) (by decide +kernel), List.mem_of_getElem? (i := 396) (by decide +kernel), List.mem_of_getElem? (i := 397) (by decide +kernel)⟩
theorem lw_p19 : lw_okq (⟨"PatternMatcher$Reader", "escapedItem", "()V"⟩, 10) := ⟨⟨by decide +kernel, by decide +kernel⟩, List.mem_of_getElem? (i := 270) (by decide +kernel), List.mem_of_getElem? (i := 400) (by decide +kernel), List.mem_of_getElem? (i := 401) (by decide +kernel)⟩
theorem lw_p20 : lw_okq (⟨"PatternMatcher$Reader", "addItem", "(I)V"⟩, 10) := ⟨⟨by decide +kernel, by decide +kernel⟩, List.mem_of_getElem? (i := 270) (by decide +kernel), List.mem_of_getElem? (i := 493) (by decide +kernel), List.mem_of_getElem? (i := 494) (by decide +kernel)⟩
theorem lw_p21 : lw_okq (⟨"PatternMatcher$Reader", "set", "(JJ)I"⟩, 10) := ⟨⟨by decide +kernel, by decide +kernel⟩, List.mem_of_getElem? (i := 270) (by decide +kernel), List.mem_of_getElem? (i := 501) (by decide +kernel), List.mem_of_getElem? (i := 502) (by decide +kernel)⟩
theorem lw_p22 : lw_okq (⟨"PatternMatcher$Reader", "escaped", "()I"⟩, 10) := ⟨⟨by decide +kernel, by decide +kernel⟩, List.mem_of_getElem? (i := 270) (by decide +kernel), List.mem_of_getElem? (i := 505) (by decide +kernel), List.mem_of_getElem? (i := 506) (by decide +kernel)⟩
theorem lw_p23 : lw_okq (⟨"PatternMatcher$Reader", "backReference", "(I)I"⟩, 10) := ⟨⟨by decide +kernel, by decide +kernel⟩, List.mem_of_getElem? (i := 270) (by decide +kernel), List.mem_of_getElem? (i := 509) (by decide +kernel), List.mem_of_getElem? (i := 510) (by decide +kernel)⟩
theorem lw_p24 : lw_okq (⟨"PatternMatcher$Reader", "character", "(C)I"⟩, 10) := ⟨⟨by decide +kernel, by decide +kernel⟩, List.mem_of_getElem? (i := 270) (by decide +kernel), List.mem_of_getElem? (i := 515) (by decide +kernel), List.mem_of_getElem? (i := 516) (by decide +kernel)⟩
theorem lw_p25 : lw_okq (⟨"PatternMatcher$Reader", "readLoop", "()Z"⟩, 10) := ⟨⟨by decide +kernel, by decide +kernel⟩, List.mem_of_getElem? (i := 270) (by decide +kernel), List.mem_of_getElem? (i := 519) (by decide +kernel), List.mem_of_getElem? (i := 520) (by decide +kernel)⟩
theorem lw_p26 : lw_okq (⟨"PatternMatcher$Reader", "readCounts", "()V"⟩, 10) := ⟨⟨by decide +kernel, by decide +kernel⟩, List.mem_of_getElem? (i := 270) (by decide +kernel), List.mem_of_getElem? (i := 523) (by decide +kernel), List.mem_of_getElem? (i := 524) (by decide +kernel)⟩
theorem lw_p27 : lw_okq (⟨"PatternMatcher$Reader", "count", "()I"⟩, 10) := ⟨⟨by decide +kernel, by decide +kernel⟩, List.mem_of_getElem? (i := 270) (by decide +kernel), List.mem_of_getElem? (i := 527) (by decide +kernel), List.mem_of_getElem? (i := 528) (by decide +kernel)⟩
theorem lw_p28 : lw_okq (⟨"java/lang/Throwable", "fillInStackTrace", "(I)Ljava/lang/Throwable;"⟩, 6) := ⟨⟨by decide +kernel, by decide +kernel⟩, List.mem_of_getElem? (i := 569) (by decide +kernel), List.mem_of_getElem? (i := 567) (by decide +kernel), List.mem_of_getElem? (i := 568) (by decide +kernel)⟩
theorem lw_p29 : lw_okq (⟨"PatternMatcher", "match", "(III)Z"⟩, 13) := ⟨⟨by decide +kernel, by decide +kernel⟩, List.mem_of_getElem? (i := 21) (by decide +kernel), List.mem_of_getElem? (i := 618) (by decide +kernel), List.mem_of_getElem? (i := 619) (by decide +kernel)⟩
theorem lw_p30 : lw_okq (⟨"PatternMatcher$Search", "run", "(III)Z"⟩, 13) := ⟨⟨by decide +kernel, by decide +kernel⟩, List.mem_of_getElem? (i := 29) (by decide +kernel), List.mem_of_getElem? (i := 631) (by decide +kernel), List.mem_of_getElem? (i := 632) (by decide +kernel)⟩
theorem lw_p31 : lw_okq (⟨"PatternMatcher$Search", "takeWaiting", "()V"⟩, 13) := ⟨⟨by decide +kernel, by decide +kernel⟩, List.mem_of_getElem? (i := 29) (by decide +kernel), List.mem_of_getElem? (i := 636) (by decide +kernel), List.mem_of_getElem? (i := 637) (by decide +kernel)⟩
def lw_privs_2 : List (MethodName × Nat) := [(⟨"PatternMatcher$Reader", "look", "(I)I"⟩, 10), (⟨"PatternMatcher$Reader", "items", "()I"⟩, 10), (⟨"PatternMatcher$Reader", "item", "()V"⟩, 10), (⟨"PatternMatcher$Reader", "escapedItem", "()V"⟩, 10), (⟨"PatternMatcher$Reader", "addItem", "(I)V"⟩, 10), (⟨"PatternMatcher$Reader", "set", "(JJ)I"⟩, 10), (⟨"PatternMatcher$Reader", "escaped", "()I"⟩, 10), (⟨"PatternMatcher$Reader", "backReference", "(I)I"⟩, 10), (⟨"PatternMatcher$Reader", "character", "(C)I"⟩, 10), (⟨"PatternMatcher$Reader", "readLoop", "()Z"⟩, 10), (⟨"PatternMatcher$Reader", "readCounts", "()V"⟩, 10), (⟨"PatternMatcher$Reader", "count", "()I"⟩, 10), (⟨"java/lang/Throwable", "fillInStackTrace", "(I)Ljava/lang/Throwable;"⟩, 6), (⟨"PatternMatcher", "match", "(III)Z"⟩, 13), (⟨"PatternMatcher$Search", "run", "(III)Z"⟩, 13), (⟨"PatternMatcher$Search", "takeWaiting", "()V"⟩, 13)]
theorem lw_r2 : ∀ q ∈ lw_privs_2, lw_okq q := List.forall_mem_cons.mpr ⟨lw_p16, List.forall_mem_cons.mpr ⟨lw_p17, List.forall_mem_cons.mpr ⟨lw_p18, List.forall_mem_cons.mpr ⟨lw_p19, List.forall_mem_cons.mpr ⟨lw_p20, List.forall_mem_cons.mpr ⟨lw_p21, List.forall_mem_cons.mpr ⟨lw_p22, List.forall_mem_cons.mpr ⟨lw_p23, List.forall_mem_cons.mpr ⟨lw_p24, List.forall_mem_cons.mpr ⟨lw_p25, List.forall_mem_cons.mpr ⟨lw_p26, List.forall_mem_cons.mpr ⟨lw_p27, List.forall_mem_cons.mpr ⟨lw_p28, List.forall_mem_cons.mpr ⟨lw_p29, List.forall_mem_cons.mpr ⟨lw_p30, List.forall_mem_cons.mpr ⟨lw_p31, fun _ h => absurd h List.not_mem_nil⟩⟩⟩⟩⟩⟩⟩⟩⟩⟩⟩⟩⟩⟩⟩⟩
theorem lw_p32 : lw_okq (⟨"PatternMatcher$Search", "step", "(LPatternMatcher$Node;I)Z"⟩, 13) := ⟨⟨by decide +kernel, by decide +kernel⟩, List.mem_of_getElem? (i := 29) (by decide +kernel), List.mem_of_getElem? (i := 642) (by decide +kernel), List.mem_of_getElem? (i := 643) (by decide +kernel)⟩
theorem lw_p33 : lw_okq (⟨"PatternMatcher$Search", "takeCharacter", "(LPatternMatcher$Node;)Z"⟩, 13) := ⟨⟨by decide +kernel, by decide +kernel⟩, List.mem_of_getElem? (i := 29) (by decide +kernel), List.mem_of_getElem? (i := 646) (by decide +kernel), List.mem_of_getElem? (i := 647) (by decide +kernel)⟩
theorem lw_p34 : lw_okq (⟨"PatternMatcher$Search", "moveTo", "(I)V"⟩, 13) := ⟨⟨by decide +kernel, by decide +kernel⟩, List.mem_of_getElem? (i := 29) (by decide +kernel), List.mem_of_getElem? (i := 655) (by decide +kernel), List.mem_of_getElem? (i := 656) (by decide +kernel)⟩
theorem lw_p35 : lw_okq (⟨"PatternMatcher$Search", "isEdge", "()Z"⟩, 13) := ⟨⟨by decide +kernel, by decide +kernel⟩, List.mem_of_getElem? (i := 29) (by decide +kernel), List.mem_of_getElem? (i := 660) (by decide +kernel), List.mem_of_getElem? (i := 661) (by decide +kernel)⟩
theorem lw_p36 : lw_okq (⟨"PatternMatcher$Search", "takeSpanAgain", "(I)Z"⟩, 13) := ⟨⟨by decide +kernel, by decide +kernel⟩, List.mem_of_getElem? (i := 29) (by decide +kernel), List.mem_of_getElem? (i := 669) (by decide +kernel), List.mem_of_getElem? (i := 670) (by decide +kernel)⟩
theorem lw_p37 : lw_okq (⟨"PatternMatcher$Search", "letWait", "(II)Z"⟩, 13) := ⟨⟨by decide +kernel, by decide +kernel⟩, List.mem_of_getElem? (i := 29) (by decide +kernel), List.mem_of_getElem? (i := 686) (by decide +kernel), List.mem_of_getElem? (i := 687) (by decide +kernel)⟩
theorem lw_p38 : lw_okq (⟨"PatternMatcher$Search", "packed", "(II)I"⟩, 13) := ⟨⟨by decide +kernel, by decide +kernel⟩, List.mem_of_getElem? (i := 29) (by decide +kernel), List.mem_of_getElem? (i := 690) (by decide +kernel), List.mem_of_getElem? (i := 691) (by decide +kernel)⟩
theorem lw_p39 : lw_okq (⟨"PatternMatcher$Search", "withLoop", "(II)I"⟩, 13) := ⟨⟨by decide +kernel, by decide +kernel⟩, List.mem_of_getElem? (i := 29) (by decide +kernel), List.mem_of_getElem? (i := 694) (by decide +kernel), List.mem_of_getElem? (i := 695) (by decide +kernel)⟩
theorem lw_p40 : lw_okq (⟨"PatternMatcher$Search", "wasHere", "(LPatternMatcher$Node;I)Z"⟩, 13) := ⟨⟨by decide +kernel, by decide +kernel⟩, List.mem_of_getElem? (i := 29) (by decide +kernel), List.mem_of_getElem? (i := 698) (by decide +kernel), List.mem_of_getElem? (i := 699) (by decide +kernel)⟩
theorem lw_p41 : lw_okq (⟨"PatternMatcher$Search", "isOver", "(II)Z"⟩, 13) := ⟨⟨by decide +kernel, by decide +kernel⟩, List.mem_of_getElem? (i := 29) (by decide +kernel), List.mem_of_getElem? (i := 704) (by decide +kernel), List.mem_of_getElem? (i := 705) (by decide +kernel)⟩
theorem lw_p42 : lw_okq (⟨"PatternMatcher$Search", "loop", "(LPatternMatcher$Node;)Z"⟩, 13) := ⟨⟨by decide +kernel, by decide +kernel⟩, List.mem_of_getElem? (i := 29) (by decide +kernel), List.mem_of_getElem? (i := 708) (by decide +kernel), List.mem_of_getElem? (i := 709) (by decide +kernel)⟩
theorem lw_p43 : lw_okq (⟨"PatternMatcher$Search", "goTo", "(II)Z"⟩, 13) := ⟨⟨by decide +kernel, by decide +kernel⟩, List.mem_of_getElem? (i := 29) (by decide +kernel), List.mem_of_getElem? (i := 712) (by decide +kernel), List.mem_of_getElem? (i := 713) (by decide +kernel)⟩
theorem lw_p44 : lw_okq (⟨"PatternMatcher$Search", "look", "(LPatternMatcher$Node;I)Z"⟩, 13) := ⟨⟨by decide +kernel, by decide +kernel⟩, List.mem_of_getElem? (i := 29) (by decide +kernel), List.mem_of_getElem? (i := 716) (by decide +kernel), List.mem_of_getElem? (i := 717) (by decide +kernel)⟩
theorem lw_p45 : lw_okq (⟨"PatternMatcher$Search", "lookBehind", "(II)Z"⟩, 13) := ⟨⟨by decide +kernel, by decide +kernel⟩, List.mem_of_getElem? (i := 29) (by decide +kernel), List.mem_of_getElem? (i := 721) (by decide +kernel), List.mem_of_getElem? (i := 722) (by decide +kernel)⟩
theorem lw_p46 : lw_okq (⟨"PatternMatcher$Search", "atomic", "(LPatternMatcher$Node;I)Z"⟩, 13) := ⟨⟨by decide +kernel, by decide +kernel⟩, List.mem_of_getElem? (i := 29) (by decide +kernel), List.mem_of_getElem? (i := 725) (by decide +kernel), List.mem_of_getElem? (i := 726) (by decide +kernel)⟩
theorem lw_p47 : lw_okq (⟨"PatternMatcher", "isGroup", "(I)Z"⟩, 13) := ⟨⟨by decide +kernel, by decide +kernel⟩, List.mem_of_getElem? (i := 21) (by decide +kernel), List.mem_of_getElem? (i := 766) (by decide +kernel), List.mem_of_getElem? (i := 767) (by decide +kernel)⟩
def lw_privs_3 : List (MethodName × Nat) := [(⟨"PatternMatcher$Search", "step", "(LPatternMatcher$Node;I)Z"⟩, 13), (⟨"PatternMatcher$Search", "takeCharacter", "(LPatternMatcher$Node;)Z"⟩, 13), (⟨"PatternMatcher$Search", "moveTo", "(I)V"⟩, 13), (⟨"PatternMatcher$Search", "isEdge", "()Z"⟩, 13), (⟨"PatternMatcher$Search", "takeSpanAgain", "(I)Z"⟩, 13), (⟨"PatternMatcher$Search", "letWait", "(II)Z"⟩, 13), (⟨"PatternMatcher$Search", "packed", "(II)I"⟩, 13), (⟨"PatternMatcher$Search", "withLoop", "(II)I"⟩, 13), (⟨"PatternMatcher$Search", "wasHere", "(LPatternMatcher$Node;I)Z"⟩, 13), (⟨"PatternMatcher$Search", "isOver", "(II)Z"⟩, 13), (⟨"PatternMatcher$Search", "loop", "(LPatternMatcher$Node;)Z"⟩, 13), (⟨"PatternMatcher$Search", "goTo", "(II)Z"⟩, 13), (⟨"PatternMatcher$Search", "look", "(LPatternMatcher$Node;I)Z"⟩, 13), (⟨"PatternMatcher$Search", "lookBehind", "(II)Z"⟩, 13), (⟨"PatternMatcher$Search", "atomic", "(LPatternMatcher$Node;I)Z"⟩, 13), (⟨"PatternMatcher", "isGroup", "(I)Z"⟩, 13)]
theorem lw_r3 : ∀ q ∈ lw_privs_3, lw_okq q := List.forall_mem_cons.mpr ⟨lw_p32, List.forall_mem_cons.mpr ⟨lw_p33, List.forall_mem_cons.mpr ⟨lw_p34, List.forall_mem_cons.mpr ⟨lw_p35, List.forall_mem_cons.mpr ⟨lw_p36, List.forall_mem_cons.mpr ⟨lw_p37, List.forall_mem_cons.mpr ⟨lw_p38, List.forall_mem_cons.mpr ⟨lw_p39, List.forall_mem_cons.mpr ⟨lw_p40, List.forall_mem_cons.mpr ⟨lw_p41, List.forall_mem_cons.mpr ⟨lw_p42, List.forall_mem_cons.mpr ⟨lw_p43, List.forall_mem_cons.mpr ⟨lw_p44, List.forall_mem_cons.mpr ⟨lw_p45, List.forall_mem_cons.mpr ⟨lw_p46, List.forall_mem_cons.mpr ⟨lw_p47, fun _ h => absurd h List.not_mem_nil⟩⟩⟩⟩⟩⟩⟩⟩⟩⟩⟩⟩⟩⟩⟩⟩
theorem lw_p48 : lw_okq (⟨"PatternMatcher", "groupFrom", "(I)I"⟩, 13) := ⟨⟨by decide +kernel, by decide +kernel⟩, List.mem_of_getElem? (i := 21) (by decide +kernel), List.mem_of_getElem? (i := 770) (by decide +kernel), List.mem_of_getElem? (i := 771) (by decide +kernel)⟩
theorem lw_p49 : lw_okq (⟨"PatternMatcher", "groupTo", "(I)I"⟩, 13) := ⟨⟨by decide +kernel, by decide +kernel⟩, List.mem_of_getElem? (i := 21) (by decide +kernel), List.mem_of_getElem? (i := 781) (by decide +kernel), List.mem_of_getElem? (i := 782) (by decide +kernel)⟩
theorem lw_p50 : lw_okq (⟨"PatternMatcher", "templateFault", "()I"⟩, 13) := ⟨⟨by decide +kernel, by decide +kernel⟩, List.mem_of_getElem? (i := 21) (by decide +kernel), List.mem_of_getElem? (i := 792) (by decide +kernel), List.mem_of_getElem? (i := 793) (by decide +kernel)⟩
theorem lw_p51 : lw_okq (⟨"PatternMatcher", "makeFromText", "(II)V"⟩, 13) := ⟨⟨by decide +kernel, by decide +kernel⟩, List.mem_of_getElem? (i := 21) (by decide +kernel), List.mem_of_getElem? (i := 800) (by decide +kernel), List.mem_of_getElem? (i := 801) (by decide +kernel)⟩
theorem lw_p52 : lw_okq (⟨"PatternMatcher", "makeFromTemplate", "()V"⟩, 13) := ⟨⟨by decide +kernel, by decide +kernel⟩, List.mem_of_getElem? (i := 21) (by decide +kernel), List.mem_of_getElem? (i := 804) (by decide +kernel), List.mem_of_getElem? (i := 805) (by decide +kernel)⟩
theorem lw_p53 : lw_okq (⟨"PatternMatcher", "placeAfterMatch", "()I"⟩, 13) := ⟨⟨by decide +kernel, by decide +kernel⟩, List.mem_of_getElem? (i := 21) (by decide +kernel), List.mem_of_getElem? (i := 808) (by decide +kernel), List.mem_of_getElem? (i := 809) (by decide +kernel)⟩
theorem lw_p54 : lw_okq (⟨"PatternMatcher", "addPiece", "(II)V"⟩, 13) := ⟨⟨by decide +kernel, by decide +kernel⟩, List.mem_of_getElem? (i := 21) (by decide +kernel), List.mem_of_getElem? (i := 826) (by decide +kernel), List.mem_of_getElem? (i := 827) (by decide +kernel)⟩
theorem lw_p55 : lw_okq (⟨"PatternMatcher", "dropEmptyPiecesAtEnd", "()V"⟩, 13) := ⟨⟨by decide +kernel, by decide +kernel⟩, List.mem_of_getElem? (i := 21) (by decide +kernel), List.mem_of_getElem? (i := 830) (by decide +kernel), List.mem_of_getElem? (i := 831) (by decide +kernel)⟩
theorem lw_p56 : lw_okq (⟨"PatternMatcherModel", "read", "()Z"⟩, 48) := ⟨⟨by decide +kernel, by decide +kernel⟩, List.mem_of_getElem? (i := 841) (by decide +kernel), List.mem_of_getElem? (i := 1016) (by decide +kernel), List.mem_of_getElem? (i := 1017) (by decide +kernel)⟩
theorem lw_p57 : lw_okq (⟨"PatternMatcherModel", "newChoice", "(IZ)V"⟩, 48) := ⟨⟨by decide +kernel, by decide +kernel⟩, List.mem_of_getElem? (i := 841) (by decide +kernel), List.mem_of_getElem? (i := 1020) (by decide +kernel), List.mem_of_getElem? (i := 1021) (by decide +kernel)⟩
theorem lw_p58 : lw_okq (⟨"PatternMatcherModel", "create", "(I)I"⟩, 48) := ⟨⟨by decide +kernel, by decide +kernel⟩, List.mem_of_getElem? (i := 841) (by decide +kernel), List.mem_of_getElem? (i := 1024) (by decide +kernel), List.mem_of_getElem? (i := 1025) (by decide +kernel)⟩
theorem lw_p59 : lw_okq (⟨"PatternMatcherModel", "newSequence", "()V"⟩, 48) := ⟨⟨by decide +kernel, by decide +kernel⟩, List.mem_of_getElem? (i := 841) (by decide +kernel), List.mem_of_getElem? (i := 1028) (by decide +kernel), List.mem_of_getElem? (i := 1029) (by decide +kernel)⟩
theorem lw_p60 : lw_okq (⟨"PatternMatcherModel", "peek", "(I)I"⟩, 48) := ⟨⟨by decide +kernel, by decide +kernel⟩, List.mem_of_getElem? (i := 841) (by decide +kernel), List.mem_of_getElem? (i := 1032) (by decide +kernel), List.mem_of_getElem? (i := 1033) (by decide +kernel)⟩
theorem lw_p61 : lw_okq (⟨"PatternMatcherModel", "bar", "()Z"⟩, 48) := ⟨⟨by decide +kernel, by decide +kernel⟩, List.mem_of_getElem? (i := 841) (by decide +kernel), List.mem_of_getElem? (i := 1036) (by decide +kernel), List.mem_of_getElem? (i := 1037) (by decide +kernel)⟩
theorem lw_p62 : lw_okq (⟨"PatternMatcherModel", "bracket", "()Z"⟩, 48) := ⟨⟨by decide +kernel, by decide +kernel⟩, List.mem_of_getElem? (i := 841) (by decide +kernel), List.mem_of_getElem? (i := 1040) (by decide +kernel), List.mem_of_getElem? (i := 1041) (by decide +kernel)⟩
theorem lw_p63 : lw_okq (⟨"PatternMatcherModel", "close", "()Z"⟩, 48) := ⟨⟨by decide +kernel, by decide +kernel⟩, List.mem_of_getElem? (i := 841) (by decide +kernel), List.mem_of_getElem? (i := 1044) (by decide +kernel), List.mem_of_getElem? (i := 1045) (by decide +kernel)⟩
def lw_privs_4 : List (MethodName × Nat) := [(⟨"PatternMatcher", "groupFrom", "(I)I"⟩, 13), (⟨"PatternMatcher", "groupTo", "(I)I"⟩, 13), (⟨"PatternMatcher", "templateFault", "()I"⟩, 13), (⟨"PatternMatcher", "makeFromText", "(II)V"⟩, 13), (⟨"PatternMatcher", "makeFromTemplate", "()V"⟩, 13), (⟨"PatternMatcher", "placeAfterMatch", "()I"⟩, 13), (⟨"PatternMatcher", "addPiece", "(II)V"⟩, 13), (⟨"PatternMatcher", "dropEmptyPiecesAtEnd", "()V"⟩, 13), (⟨"PatternMatcherModel", "read", "()Z"⟩, 48), (⟨"PatternMatcherModel", "newChoice", "(IZ)V"⟩, 48), (⟨"PatternMatcherModel", "create", "(I)I"⟩, 48), (⟨"PatternMatcherModel", "newSequence", "()V"⟩, 48), (⟨"PatternMatcherModel", "peek", "(I)I"⟩, 48), (⟨"PatternMatcherModel", "bar", "()Z"⟩, 48), (⟨"PatternMatcherModel", "bracket", "()Z"⟩, 48), (⟨"PatternMatcherModel", "close", "()Z"⟩, 48)]
theorem lw_r4 : ∀ q ∈ lw_privs_4, lw_okq q := List.forall_mem_cons.mpr ⟨lw_p48, List.forall_mem_cons.mpr ⟨lw_p49, List.forall_mem_cons.mpr ⟨lw_p50, List.forall_mem_cons.mpr ⟨lw_p51, List.forall_mem_cons.mpr ⟨lw_p52, List.forall_mem_cons.mpr ⟨lw_p53, List.forall_mem_cons.mpr ⟨lw_p54, List.forall_mem_cons.mpr ⟨lw_p55, List.forall_mem_cons.mpr ⟨lw_p56, List.forall_mem_cons.mpr ⟨lw_p57, List.forall_mem_cons.mpr ⟨lw_p58, List.forall_mem_cons.mpr ⟨lw_p59, List.forall_mem_cons.mpr ⟨lw_p60, List.forall_mem_cons.mpr ⟨lw_p61, List.forall_mem_cons.mpr ⟨lw_p62, List.forall_mem_cons.mpr ⟨lw_p63, fun _ h => absurd h List.not_mem_nil⟩⟩⟩⟩⟩⟩⟩⟩⟩⟩⟩⟩⟩⟩⟩⟩
theorem lw_p64 : lw_okq (⟨"PatternMatcherModel", "loop", "(I)Z"⟩, 48) := ⟨⟨by decide +kernel, by decide +kernel⟩, List.mem_of_getElem? (i := 841) (by decide +kernel), List.mem_of_getElem? (i := 1048) (by decide +kernel), List.mem_of_getElem? (i := 1049) (by decide +kernel)⟩
theorem lw_p65 : lw_okq (⟨"PatternMatcherModel", "append", "(I)V"⟩, 48) := ⟨⟨by decide +kernel, by decide +kernel⟩, List.mem_of_getElem? (i := 841) (by decide +kernel), List.mem_of_getElem? (i := 1052) (by decide +kernel), List.mem_of_getElem? (i := 1053) (by decide +kernel)⟩
theorem lw_p66 : lw_okq (⟨"PatternMatcherModel", "bounds", "(I)Z"⟩, 48) := ⟨⟨by decide +kernel, by decide +kernel⟩, List.mem_of_getElem? (i := 841) (by decide +kernel), List.mem_of_getElem? (i := 1056) (by decide +kernel), List.mem_of_getElem? (i := 1057) (by decide +kernel)⟩
theorem lw_p67 : lw_okq (⟨"PatternMatcherModel", "atom", "(I)I"⟩, 48) := ⟨⟨by decide +kernel, by decide +kernel⟩, List.mem_of_getElem? (i := 841) (by decide +kernel), List.mem_of_getElem? (i := 1063) (by decide +kernel), List.mem_of_getElem? (i := 1064) (by decide +kernel)⟩
theorem lw_p68 : lw_okq (⟨"PatternMatcherModel", "escape", "()I"⟩, 48) := ⟨⟨by decide +kernel, by decide +kernel⟩, List.mem_of_getElem? (i := 841) (by decide +kernel), List.mem_of_getElem? (i := 1067) (by decide +kernel), List.mem_of_getElem? (i := 1068) (by decide +kernel)⟩
theorem lw_p69 : lw_okq (⟨"PatternMatcherModel", "includeKind", "(II)V"⟩, 48) := ⟨⟨by decide +kernel, by decide +kernel⟩, List.mem_of_getElem? (i := 841) (by decide +kernel), List.mem_of_getElem? (i := 1074) (by decide +kernel), List.mem_of_getElem? (i := 1075) (by decide +kernel)⟩
theorem lw_p70 : lw_okq (⟨"PatternMatcherModel", "include", "(II)V"⟩, 48) := ⟨⟨by decide +kernel, by decide +kernel⟩, List.mem_of_getElem? (i := 841) (by decide +kernel), List.mem_of_getElem? (i := 1081) (by decide +kernel), List.mem_of_getElem? (i := 1082) (by decide +kernel)⟩
theorem lw_p71 : lw_okq (⟨"PatternMatcherModel", "items", "()I"⟩, 48) := ⟨⟨by decide +kernel, by decide +kernel⟩, List.mem_of_getElem? (i := 841) (by decide +kernel), List.mem_of_getElem? (i := 1085) (by decide +kernel), List.mem_of_getElem? (i := 1086) (by decide +kernel)⟩
theorem lw_p72 : lw_okq (⟨"PatternMatcherModel", "item", "(I)Z"⟩, 48) := ⟨⟨by decide +kernel, by decide +kernel⟩, List.mem_of_getElem? (i := 841) (by decide +kernel), List.mem_of_getElem? (i := 1089) (by decide +kernel), List.mem_of_getElem? (i := 1090) (by decide +kernel)⟩
theorem lw_p73 : lw_okq (⟨"PatternMatcherModel", "fail", "(I)I"⟩, 48) := ⟨⟨by decide +kernel, by decide +kernel⟩, List.mem_of_getElem? (i := 841) (by decide +kernel), List.mem_of_getElem? (i := 1097) (by decide +kernel), List.mem_of_getElem? (i := 1098) (by decide +kernel)⟩
theorem lw_p74 : lw_okq (⟨"PatternMatcherModel", "run", "(IZ)Z"⟩, 48) := ⟨⟨by decide +kernel, by decide +kernel⟩, List.mem_of_getElem? (i := 841) (by decide +kernel), List.mem_of_getElem? (i := 1105) (by decide +kernel), List.mem_of_getElem? (i := 1106) (by decide +kernel)⟩
theorem lw_p75 : lw_okq (⟨"PatternMatcherModel", "link", "(IIII)I"⟩, 48) := ⟨⟨by decide +kernel, by decide +kernel⟩, List.mem_of_getElem? (i := 841) (by decide +kernel), List.mem_of_getElem? (i := 1109) (by decide +kernel), List.mem_of_getElem? (i := 1110) (by decide +kernel)⟩
theorem lw_p76 : lw_okq (⟨"PatternMatcherModel", "goOn", "()Z"⟩, 48) := ⟨⟨by decide +kernel, by decide +kernel⟩, List.mem_of_getElem? (i := 841) (by decide +kernel), List.mem_of_getElem? (i := 1113) (by decide +kernel), List.mem_of_getElem? (i := 1114) (by decide +kernel)⟩
theorem lw_p77 : lw_okq (⟨"PatternMatcherModel", "keep", "(I)Z"⟩, 48) := ⟨⟨by decide +kernel, by decide +kernel⟩, List.mem_of_getElem? (i := 841) (by decide +kernel), List.mem_of_getElem? (i := 1117) (by decide +kernel), List.mem_of_getElem? (i := 1118) (by decide +kernel)⟩
theorem lw_p78 : lw_okq (⟨"PatternMatcherModel", "pieces", "(I)Z"⟩, 48) := ⟨⟨by decide +kernel, by decide +kernel⟩, List.mem_of_getElem? (i := 841) (by decide +kernel), List.mem_of_getElem? (i := 1121) (by decide +kernel), List.mem_of_getElem? (i := 1122) (by decide +kernel)⟩
theorem lw_p79 : lw_okq (⟨"PatternMatcherModel", "turn", "(III)Z"⟩, 48) := ⟨⟨by decide +kernel, by decide +kernel⟩, List.mem_of_getElem? (i := 841) (by decide +kernel), List.mem_of_getElem? (i := 1125) (by decide +kernel), List.mem_of_getElem? (i := 1126) (by decide +kernel)⟩
def lw_privs_5 : List (MethodName × Nat) := [(⟨"PatternMatcherModel", "loop", "(I)Z"⟩, 48), (⟨"PatternMatcherModel", "append", "(I)V"⟩, 48), (⟨"PatternMatcherModel", "bounds", "(I)Z"⟩, 48), (⟨"PatternMatcherModel", "atom", "(I)I"⟩, 48), (⟨"PatternMatcherModel", "escape", "()I"⟩, 48), (⟨"PatternMatcherModel", "includeKind", "(II)V"⟩, 48), (⟨"PatternMatcherModel", "include", "(II)V"⟩, 48), (⟨"PatternMatcherModel", "items", "()I"⟩, 48), (⟨"PatternMatcherModel", "item", "(I)Z"⟩, 48), (⟨"PatternMatcherModel", "fail", "(I)I"⟩, 48), (⟨"PatternMatcherModel", "run", "(IZ)Z"⟩, 48), (⟨"PatternMatcherModel", "link", "(IIII)I"⟩, 48), (⟨"PatternMatcherModel", "goOn", "()Z"⟩, 48), (⟨"PatternMatcherModel", "keep", "(I)Z"⟩, 48), (⟨"PatternMatcherModel", "pieces", "(I)Z"⟩, 48), (⟨"PatternMatcherModel", "turn", "(III)Z"⟩, 48)]
theorem lw_r5 : ∀ q ∈ lw_privs_5, lw_okq q := List.forall_mem_cons.mpr ⟨lw_p64, List.forall_mem_cons.mpr ⟨lw_p65, List.forall_mem_cons.mpr ⟨lw_p66, List.forall_mem_cons.mpr ⟨lw_p67, List.forall_mem_cons.mpr ⟨lw_p68, List.forall_mem_cons.mpr ⟨lw_p69, List.forall_mem_cons.mpr ⟨lw_p70, List.forall_mem_cons.mpr ⟨lw_p71, List.forall_mem_cons.mpr ⟨lw_p72, List.forall_mem_cons.mpr ⟨lw_p73, List.forall_mem_cons.mpr ⟨lw_p74, List.forall_mem_cons.mpr ⟨lw_p75, List.forall_mem_cons.mpr ⟨lw_p76, List.forall_mem_cons.mpr ⟨lw_p77, List.forall_mem_cons.mpr ⟨lw_p78, List.forall_mem_cons.mpr ⟨lw_p79, fun _ h => absurd h List.not_mem_nil⟩⟩⟩⟩⟩⟩⟩⟩⟩⟩⟩⟩⟩⟩⟩⟩
theorem lw_p80 : lw_okq (⟨"PatternMatcherModel", "goThrough", "(II)V"⟩, 48) := ⟨⟨by decide +kernel, by decide +kernel⟩, List.mem_of_getElem? (i := 841) (by decide +kernel), List.mem_of_getElem? (i := 1129) (by decide +kernel), List.mem_of_getElem? (i := 1130) (by decide +kernel)⟩
theorem lw_p81 : lw_okq (⟨"PatternMatcherModel", "otherWay", "(IIII)V"⟩, 48) := ⟨⟨by decide +kernel, by decide +kernel⟩, List.mem_of_getElem? (i := 841) (by decide +kernel), List.mem_of_getElem? (i := 1133) (by decide +kernel), List.mem_of_getElem? (i := 1134) (by decide +kernel)⟩
theorem lw_p82 : lw_okq (⟨"PatternMatcherModel", "enter", "(I)Z"⟩, 48) := ⟨⟨by decide +kernel, by decide +kernel⟩, List.mem_of_getElem? (i := 841) (by decide +kernel), List.mem_of_getElem? (i := 1137) (by decide +kernel), List.mem_of_getElem? (i := 1138) (by decide +kernel)⟩
theorem lw_p83 : lw_okq (⟨"PatternMatcherModel", "into", "(II)Z"⟩, 48) := ⟨⟨by decide +kernel, by decide +kernel⟩, List.mem_of_getElem? (i := 841) (by decide +kernel), List.mem_of_getElem? (i := 1141) (by decide +kernel), List.mem_of_getElem? (i := 1142) (by decide +kernel)⟩
theorem lw_p84 : lw_okq (⟨"PatternMatcherModel", "begin", "(I)Z"⟩, 48) := ⟨⟨by decide +kernel, by decide +kernel⟩, List.mem_of_getElem? (i := 841) (by decide +kernel), List.mem_of_getElem? (i := 1145) (by decide +kernel), List.mem_of_getElem? (i := 1146) (by decide +kernel)⟩
theorem lw_p85 : lw_okq (⟨"PatternMatcherModel", "one", "(I)Z"⟩, 48) := ⟨⟨by decide +kernel, by decide +kernel⟩, List.mem_of_getElem? (i := 841) (by decide +kernel), List.mem_of_getElem? (i := 1149) (by decide +kernel), List.mem_of_getElem? (i := 1150) (by decide +kernel)⟩
theorem lw_p86 : lw_okq (⟨"PatternMatcherModel", "character", "(I)I"⟩, 48) := ⟨⟨by decide +kernel, by decide +kernel⟩, List.mem_of_getElem? (i := 841) (by decide +kernel), List.mem_of_getElem? (i := 1153) (by decide +kernel), List.mem_of_getElem? (i := 1154) (by decide +kernel)⟩
theorem lw_p87 : lw_okq (⟨"PatternMatcherModel", "includes", "(II)Z"⟩, 48) := ⟨⟨by decide +kernel, by decide +kernel⟩, List.mem_of_getElem? (i := 841) (by decide +kernel), List.mem_of_getElem? (i := 1157) (by decide +kernel), List.mem_of_getElem? (i := 1158) (by decide +kernel)⟩
theorem lw_p88 : lw_okq (⟨"PatternMatcherModel", "isWordAt", "(I)Z"⟩, 48) := ⟨⟨by decide +kernel, by decide +kernel⟩, List.mem_of_getElem? (i := 841) (by decide +kernel), List.mem_of_getElem? (i := 1161) (by decide +kernel), List.mem_of_getElem? (i := 1162) (by decide +kernel)⟩
theorem lw_p89 : lw_okq (⟨"PatternMatcherModel", "again", "(I)Z"⟩, 48) := ⟨⟨by decide +kernel, by decide +kernel⟩, List.mem_of_getElem? (i := 841) (by decide +kernel), List.mem_of_getElem? (i := 1165) (by decide +kernel), List.mem_of_getElem? (i := 1166) (by decide +kernel)⟩
theorem lw_p90 : lw_okq (⟨"PatternMatcherModel", "beginLoop", "(I)Z"⟩, 48) := ⟨⟨by decide +kernel, by decide +kernel⟩, List.mem_of_getElem? (i := 841) (by decide +kernel), List.mem_of_getElem? (i := 1169) (by decide +kernel), List.mem_of_getElem? (i := 1170) (by decide +kernel)⟩
theorem lw_p91 : lw_okq (⟨"PatternMatcherModel", "notAhead", "(I)Z"⟩, 48) := ⟨⟨by decide +kernel, by decide +kernel⟩, List.mem_of_getElem? (i := 841) (by decide +kernel), List.mem_of_getElem? (i := 1173) (by decide +kernel), List.mem_of_getElem? (i := 1174) (by decide +kernel)⟩
theorem lw_p92 : lw_okq (⟨"PatternMatcherModel", "look", "(I)Z"⟩, 48) := ⟨⟨by decide +kernel, by decide +kernel⟩, List.mem_of_getElem? (i := 841) (by decide +kernel), List.mem_of_getElem? (i := 1177) (by decide +kernel), List.mem_of_getElem? (i := 1178) (by decide +kernel)⟩
theorem lw_p93 : lw_okq (⟨"PatternMatcherModel", "before", "(II)V"⟩, 48) := ⟨⟨by decide +kernel, by decide +kernel⟩, List.mem_of_getElem? (i := 841) (by decide +kernel), List.mem_of_getElem? (i := 1181) (by decide +kernel), List.mem_of_getElem? (i := 1182) (by decide +kernel)⟩
theorem lw_p94 : lw_okq (⟨"PatternMatcherModel", "back", "()V"⟩, 48) := ⟨⟨by decide +kernel, by decide +kernel⟩, List.mem_of_getElem? (i := 841) (by decide +kernel), List.mem_of_getElem? (i := 1185) (by decide +kernel), List.mem_of_getElem? (i := 1186) (by decide +kernel)⟩
theorem lw_p95 : lw_okq (⟨"PatternMatcherModel", "note", "(Z)V"⟩, 48) := ⟨⟨by decide +kernel, by decide +kernel⟩, List.mem_of_getElem? (i := 841) (by decide +kernel), List.mem_of_getElem? (i := 1189) (by decide +kernel), List.mem_of_getElem? (i := 1190) (by decide +kernel)⟩
def lw_privs_6 : List (MethodName × Nat) := [(⟨"PatternMatcherModel", "goThrough", "(II)V"⟩, 48), (⟨"PatternMatcherModel", "otherWay", "(IIII)V"⟩, 48), (⟨"PatternMatcherModel", "enter", "(I)Z"⟩, 48), (⟨"PatternMatcherModel", "into", "(II)Z"⟩, 48), (⟨"PatternMatcherModel", "begin", "(I)Z"⟩, 48), (⟨"PatternMatcherModel", "one", "(I)Z"⟩, 48), (⟨"PatternMatcherModel", "character", "(I)I"⟩, 48), (⟨"PatternMatcherModel", "includes", "(II)Z"⟩, 48), (⟨"PatternMatcherModel", "isWordAt", "(I)Z"⟩, 48), (⟨"PatternMatcherModel", "again", "(I)Z"⟩, 48), (⟨"PatternMatcherModel", "beginLoop", "(I)Z"⟩, 48), (⟨"PatternMatcherModel", "notAhead", "(I)Z"⟩, 48), (⟨"PatternMatcherModel", "look", "(I)Z"⟩, 48), (⟨"PatternMatcherModel", "before", "(II)V"⟩, 48), (⟨"PatternMatcherModel", "back", "()V"⟩, 48), (⟨"PatternMatcherModel", "note", "(Z)V"⟩, 48)]
theorem lw_r6 : ∀ q ∈ lw_privs_6, lw_okq q := List.forall_mem_cons.mpr ⟨lw_p80, List.forall_mem_cons.mpr ⟨lw_p81, List.forall_mem_cons.mpr ⟨lw_p82, List.forall_mem_cons.mpr ⟨lw_p83, List.forall_mem_cons.mpr ⟨lw_p84, List.forall_mem_cons.mpr ⟨lw_p85, List.forall_mem_cons.mpr ⟨lw_p86, List.forall_mem_cons.mpr ⟨lw_p87, List.forall_mem_cons.mpr ⟨lw_p88, List.forall_mem_cons.mpr ⟨lw_p89, List.forall_mem_cons.mpr ⟨lw_p90, List.forall_mem_cons.mpr ⟨lw_p91, List.forall_mem_cons.mpr ⟨lw_p92, List.forall_mem_cons.mpr ⟨lw_p93, List.forall_mem_cons.mpr ⟨lw_p94, List.forall_mem_cons.mpr ⟨lw_p95, fun _ h => absurd h List.not_mem_nil⟩⟩⟩⟩⟩⟩⟩⟩⟩⟩⟩⟩⟩⟩⟩⟩
theorem lw_p96 : lw_okq (⟨"PatternMatcherModel", "search", "(I)Z"⟩, 48) := ⟨⟨by decide +kernel, by decide +kernel⟩, List.mem_of_getElem? (i := 841) (by decide +kernel), List.mem_of_getElem? (i := 1201) (by decide +kernel), List.mem_of_getElem? (i := 1202) (by decide +kernel)⟩
theorem lw_p97 : lw_okq (⟨"PatternMatcherModel", "spanOf", "(II)I"⟩, 48) := ⟨⟨by decide +kernel, by decide +kernel⟩, List.mem_of_getElem? (i := 841) (by decide +kernel), List.mem_of_getElem? (i := 1209) (by decide +kernel), List.mem_of_getElem? (i := 1210) (by decide +kernel)⟩
theorem lw_p98 : lw_okq (⟨"PatternMatcherModel", "faultOfTemplate", "()I"⟩, 48) := ⟨⟨by decide +kernel, by decide +kernel⟩, List.mem_of_getElem? (i := 841) (by decide +kernel), List.mem_of_getElem? (i := 1221) (by decide +kernel), List.mem_of_getElem? (i := 1222) (by decide +kernel)⟩
theorem lw_p99 : lw_okq (⟨"PatternMatcherModel", "putText", "(II)V"⟩, 48) := ⟨⟨by decide +kernel, by decide +kernel⟩, List.mem_of_getElem? (i := 841) (by decide +kernel), List.mem_of_getElem? (i := 1225) (by decide +kernel), List.mem_of_getElem? (i := 1226) (by decide +kernel)⟩
theorem lw_p100 : lw_okq (⟨"PatternMatcherModel", "put", "(I)V"⟩, 48) := ⟨⟨by decide +kernel, by decide +kernel⟩, List.mem_of_getElem? (i := 841) (by decide +kernel), List.mem_of_getElem? (i := 1229) (by decide +kernel), List.mem_of_getElem? (i := 1230) (by decide +kernel)⟩
theorem lw_p101 : lw_okq (⟨"PatternMatcherModel", "putTemplate", "()V"⟩, 48) := ⟨⟨by decide +kernel, by decide +kernel⟩, List.mem_of_getElem? (i := 841) (by decide +kernel), List.mem_of_getElem? (i := 1233) (by decide +kernel), List.mem_of_getElem? (i := 1234) (by decide +kernel)⟩
theorem lw_p102 : lw_okq (⟨"PatternMatcherModel", "behindMatch", "()I"⟩, 48) := ⟨⟨by decide +kernel, by decide +kernel⟩, List.mem_of_getElem? (i := 841) (by decide +kernel), List.mem_of_getElem? (i := 1237) (by decide +kernel), List.mem_of_getElem? (i := 1238) (by decide +kernel)⟩
def lw_privs_7 : List (MethodName × Nat) := [(⟨"PatternMatcherModel", "search", "(I)Z"⟩, 48), (⟨"PatternMatcherModel", "spanOf", "(II)I"⟩, 48), (⟨"PatternMatcherModel", "faultOfTemplate", "()I"⟩, 48), (⟨"PatternMatcherModel", "putText", "(II)V"⟩, 48), (⟨"PatternMatcherModel", "put", "(I)V"⟩, 48), (⟨"PatternMatcherModel", "putTemplate", "()V"⟩, 48), (⟨"PatternMatcherModel", "behindMatch", "()I"⟩, 48)]
theorem lw_r7 : ∀ q ∈ lw_privs_7, lw_okq q := List.forall_mem_cons.mpr ⟨lw_p96, List.forall_mem_cons.mpr ⟨lw_p97, List.forall_mem_cons.mpr ⟨lw_p98, List.forall_mem_cons.mpr ⟨lw_p99, List.forall_mem_cons.mpr ⟨lw_p100, List.forall_mem_cons.mpr ⟨lw_p101, List.forall_mem_cons.mpr ⟨lw_p102, fun _ h => absurd h List.not_mem_nil⟩⟩⟩⟩⟩⟩⟩
def lw_privs : List (MethodName × Nat) := lw_privs_1 ++ (lw_privs_2 ++ (lw_privs_3 ++ (lw_privs_4 ++ (lw_privs_5 ++ (lw_privs_6 ++ (lw_privs_7))))))
def lw_tbl : List Cond := k2_sels lw_privs ++ tables_1
theorem lw_privs_ok : ∀ q ∈ lw_privs, lw_okq q := by
  show ∀ q ∈ lw_privs_1 ++ (lw_privs_2 ++ (lw_privs_3 ++ (lw_privs_4 ++ (lw_privs_5 ++ (lw_privs_6 ++ (lw_privs_7)))))), lw_okq q
  exact List.forall_mem_append.mpr ⟨lw_r1, List.forall_mem_append.mpr ⟨lw_r2, List.forall_mem_append.mpr ⟨lw_r3, List.forall_mem_append.mpr ⟨lw_r4, List.forall_mem_append.mpr ⟨lw_r5, List.forall_mem_append.mpr ⟨lw_r6, lw_r7⟩⟩⟩⟩⟩⟩
end
section
/-! names of all classes and methods (laid by wip/names.py, wip/namesout.py out of the Statement) -/
def RX0 : String := "PatternMatcher$Node"
def TX0 : u_T := fun k => match k with
  | 0 => ("PatternMatcher$Node", "number", "I", true)
  | 1 => ("PatternMatcher$Node", "kind", "I", false)
  | 2 => ("PatternMatcher$Node", "next", "I", false)
  | 3 => ("PatternMatcher$Node", "other", "I", false)
  | 4 => ("PatternMatcher$Node", "group", "I", false)
  | 5 => ("PatternMatcher$Node", "slot", "I", false)
  | 6 => ("PatternMatcher$Node", "least", "I", false)
  | 7 => ("PatternMatcher$Node", "most", "I", false)
  | 8 => ("PatternMatcher$Node", "lazy", "Z", false)
  | 9 => ("PatternMatcher$Node", "behind", "Z", false)
  | 10 => ("PatternMatcher$Node", "negative", "Z", false)
  | 11 => ("PatternMatcher$Node", "low", "J", false)
  | _ => ("PatternMatcher$Node", "high", "J", false)
def tyX0 : Nat → FieldType := fun k => match k with
  | 0 => .int
  | 1 => .int
  | 2 => .int
  | 3 => .int
  | 4 => .int
  | 5 => .int
  | 6 => .int
  | 7 => .int
  | 8 => .boolean
  | 9 => .boolean
  | 10 => .boolean
  | 11 => .long
  | _ => .long
theorem nmX0 : ∀ a, a < 13 → ∀ b, b < 13 → a ≠ b → (TX0 a).2.1 ≠ (TX0 b).2.1 := by decide +kernel
theorem tyX0_ok : ∀ k, k < 13 → parseFieldDescriptor (TX0 k).2.2.1 = some (tyX0 k) := by decide +kernel
def RX1 : String := "PatternMatcher$Program"
def TX1 : u_T := fun k => match k with
  | 0 => ("PatternMatcher$Program", "nodes", "[LPatternMatcher$Node;", true)
  | 1 => ("PatternMatcher$Program", "count", "I", false)
  | 2 => ("PatternMatcher$Program", "first", "I", false)
  | 3 => ("PatternMatcher$Program", "groups", "I", false)
  | _ => ("PatternMatcher$Program", "asked", "J", false)
def tyX1 : Nat → FieldType := fun k => match k with
  | 0 => .array (.object "PatternMatcher$Node")
  | 1 => .int
  | 2 => .int
  | 3 => .int
  | _ => .long
theorem nmX1 : ∀ a, a < 5 → ∀ b, b < 5 → a ≠ b → (TX1 a).2.1 ≠ (TX1 b).2.1 := by decide +kernel
theorem tyX1_ok : ∀ k, k < 5 → parseFieldDescriptor (TX1 k).2.2.1 = some (tyX1 k) := by decide +kernel
def RX2 : String := "PatternMatcher$Reader"
def TX2 : u_T := fun k => match k with
  | 0 => ("PatternMatcher$Reader", "row", "LPatternMatcher$Row;", true)
  | 1 => ("PatternMatcher$Reader", "program", "LPatternMatcher$Program;", true)
  | 2 => ("PatternMatcher$Reader", "at", "I", false)
  | 3 => ("PatternMatcher$Reader", "bad", "Z", false)
  | 4 => ("PatternMatcher$Reader", "behinds", "I", false)
  | 5 => ("PatternMatcher$Reader", "tail", "I", false)
  | 6 => ("PatternMatcher$Reader", "low", "J", false)
  | 7 => ("PatternMatcher$Reader", "high", "J", false)
  | 8 => ("PatternMatcher$Reader", "least", "I", false)
  | _ => ("PatternMatcher$Reader", "most", "I", false)
def tyX2 : Nat → FieldType := fun k => match k with
  | 0 => .object "PatternMatcher$Row"
  | 1 => .object "PatternMatcher$Program"
  | 2 => .int
  | 3 => .boolean
  | 4 => .int
  | 5 => .int
  | 6 => .long
  | 7 => .long
  | 8 => .int
  | _ => .int
theorem nmX2 : ∀ a, a < 10 → ∀ b, b < 10 → a ≠ b → (TX2 a).2.1 ≠ (TX2 b).2.1 := by decide +kernel
theorem tyX2_ok : ∀ k, k < 10 → parseFieldDescriptor (TX2 k).2.2.1 = some (tyX2 k) := by decide +kernel
def RX3 : String := "PatternMatcher$Row"
def TX3 : u_T := fun k => match k with
  | 0 => ("PatternMatcher$Row", "characters", "[C", true)
  | _ => ("PatternMatcher$Row", "count", "I", false)
def tyX3 : Nat → FieldType := fun k => match k with
  | 0 => .array .char
  | _ => .int
theorem nmX3 : ∀ a, a < 2 → ∀ b, b < 2 → a ≠ b → (TX3 a).2.1 ≠ (TX3 b).2.1 := by decide +kernel
theorem tyX3_ok : ∀ k, k < 2 → parseFieldDescriptor (TX3 k).2.2.1 = some (tyX3 k) := by decide +kernel
def RX4 : String := "PatternMatcher$Search"
def TX4 : u_T := fun k => match k with
  | 0 => ("PatternMatcher$Search", "waitingAt", "[I", true)
  | 1 => ("PatternMatcher$Search", "waitingSpans", "[J", true)
  | 2 => ("PatternMatcher$Search", "waiting", "I", false)
  | 3 => ("PatternMatcher$Search", "seenWhere", "[J", true)
  | 4 => ("PatternMatcher$Search", "seenSpans", "[J", true)
  | 5 => ("PatternMatcher$Search", "open", "[I", true)
  | 6 => ("PatternMatcher$Search", "searches", "I", false)
  | 7 => ("PatternMatcher$Search", "text", "LPatternMatcher$Row;", true)
  | 8 => ("PatternMatcher$Search", "program", "LPatternMatcher$Program;", false)
  | 9 => ("PatternMatcher$Search", "node", "I", false)
  | 10 => ("PatternMatcher$Search", "place", "I", false)
  | 11 => ("PatternMatcher$Search", "loops", "I", false)
  | _ => ("PatternMatcher$Search", "spans", "J", false)
def tyX4 : Nat → FieldType := fun k => match k with
  | 0 => .array .int
  | 1 => .array .long
  | 2 => .int
  | 3 => .array .long
  | 4 => .array .long
  | 5 => .array .int
  | 6 => .int
  | 7 => .object "PatternMatcher$Row"
  | 8 => .object "PatternMatcher$Program"
  | 9 => .int
  | 10 => .int
  | 11 => .int
  | _ => .long
theorem nmX4 : ∀ a, a < 13 → ∀ b, b < 13 → a ≠ b → (TX4 a).2.1 ≠ (TX4 b).2.1 := by decide +kernel
theorem tyX4_ok : ∀ k, k < 13 → parseFieldDescriptor (TX4 k).2.2.1 = some (tyX4 k) := by decide +kernel
def RX5 : String := "PatternMatcher"
def TX5 : u_T := fun k => match k with
  | 0 => ("PatternMatcher", "search", "LPatternMatcher$Search;", true)
  | 1 => ("PatternMatcher", "text", "LPatternMatcher$Row;", true)
  | 2 => ("PatternMatcher", "rows", "[LPatternMatcher$Row;", true)
  | 3 => ("PatternMatcher", "spare", "LPatternMatcher$Program;", false)
  | 4 => ("PatternMatcher", "compiled", "Z", false)
  | 5 => ("PatternMatcher", "matched", "Z", false)
  | 6 => ("PatternMatcher", "matchFrom", "I", false)
  | 7 => ("PatternMatcher", "matchTo", "I", false)
  | 8 => ("PatternMatcher", "matchSpans", "J", false)
  | 9 => ("PatternMatcher", "made", "LPatternMatcher$Row;", true)
  | 10 => ("PatternMatcher", "pieceFrom", "[I", true)
  | 11 => ("PatternMatcher", "pieceTo", "[I", true)
  | _ => ("PatternMatcher", "pieces", "I", false)
def tyX5 : Nat → FieldType := fun k => match k with
  | 0 => .object "PatternMatcher$Search"
  | 1 => .object "PatternMatcher$Row"
  | 2 => .array (.object "PatternMatcher$Row")
  | 3 => .object "PatternMatcher$Program"
  | 4 => .boolean
  | 5 => .boolean
  | 6 => .int
  | 7 => .int
  | 8 => .long
  | 9 => .object "PatternMatcher$Row"
  | 10 => .array .int
  | 11 => .array .int
  | _ => .int
theorem nmX5 : ∀ a, a < 13 → ∀ b, b < 13 → a ≠ b → (TX5 a).2.1 ≠ (TX5 b).2.1 := by decide +kernel
theorem tyX5_ok : ∀ k, k < 13 → parseFieldDescriptor (TX5 k).2.2.1 = some (tyX5 k) := by decide +kernel
def RX6 : String := "PatternMatcherModel"
def TX6 : u_T := fun k => match k with
  | 0 => ("PatternMatcherModel", "code", "I", false)
  | 1 => ("PatternMatcherModel", "row", "[I", true)
  | 2 => ("PatternMatcherModel", "length", "[I", true)
  | 3 => ("PatternMatcherModel", "base", "I", false)
  | 4 => ("PatternMatcherModel", "used", "I", false)
  | 5 => ("PatternMatcherModel", "groups", "I", false)
  | 6 => ("PatternMatcherModel", "open", "I", false)
  | 7 => ("PatternMatcherModel", "compiled", "Z", false)
  | 8 => ("PatternMatcherModel", "type", "[I", true)
  | 9 => ("PatternMatcherModel", "a", "[I", true)
  | 10 => ("PatternMatcherModel", "b", "[I", true)
  | 11 => ("PatternMatcherModel", "mode", "[I", true)
  | 12 => ("PatternMatcherModel", "kid", "[I", true)
  | 13 => ("PatternMatcherModel", "sibling", "[I", true)
  | 14 => ("PatternMatcherModel", "low", "[J", true)
  | 15 => ("PatternMatcherModel", "high", "[J", true)
  | 16 => ("PatternMatcherModel", "depth", "I", false)
  | 17 => ("PatternMatcherModel", "at", "I", false)
  | 18 => ("PatternMatcherModel", "bracket", "[I", true)
  | 19 => ("PatternMatcherModel", "choice", "[I", true)
  | 20 => ("PatternMatcherModel", "sequence", "[I", true)
  | 21 => ("PatternMatcherModel", "tail", "[I", true)
  | 22 => ("PatternMatcherModel", "behind", "[Z", true)
  | 23 => ("PatternMatcherModel", "place", "I", false)
  | 24 => ("PatternMatcherModel", "node", "I", false)
  | 25 => ("PatternMatcherModel", "next", "I", false)
  | 26 => ("PatternMatcherModel", "linked", "I", false)
  | 27 => ("PatternMatcherModel", "ways", "I", false)
  | 28 => ("PatternMatcherModel", "whole", "I", false)
  | 29 => ("PatternMatcherModel", "alive", "Z", false)
  | 30 => ("PatternMatcherModel", "span", "[I", true)
  | 31 => ("PatternMatcherModel", "linkKind", "[I", true)
  | 32 => ("PatternMatcherModel", "linkA", "[I", true)
  | 33 => ("PatternMatcherModel", "linkB", "[I", true)
  | 34 => ("PatternMatcherModel", "linkTo", "[I", true)
  | 35 => ("PatternMatcherModel", "wayNode", "[I", true)
  | 36 => ("PatternMatcherModel", "wayCount", "[I", true)
  | 37 => ("PatternMatcherModel", "wayPlace", "[I", true)
  | 38 => ("PatternMatcherModel", "wayNext", "[I", true)
  | 39 => ("PatternMatcherModel", "wayLinked", "[I", true)
  | 40 => ("PatternMatcherModel", "waySpan", "[I", true)
  | 41 => ("PatternMatcherModel", "matched", "Z", false)
  | 42 => ("PatternMatcherModel", "match", "[I", true)
  | 43 => ("PatternMatcherModel", "made", "I", false)
  | 44 => ("PatternMatcherModel", "result", "[I", true)
  | 45 => ("PatternMatcherModel", "pieces", "I", false)
  | 46 => ("PatternMatcherModel", "pieceFrom", "[I", true)
  | _ => ("PatternMatcherModel", "pieceTo", "[I", true)
def tyX6 : Nat → FieldType := fun k => match k with
  | 0 => .int
  | 1 => .array .int
  | 2 => .array .int
  | 3 => .int
  | 4 => .int
  | 5 => .int
  | 6 => .int
  | 7 => .boolean
  | 8 => .array .int
  | 9 => .array .int
  | 10 => .array .int
  | 11 => .array .int
  | 12 => .array .int
  | 13 => .array .int
  | 14 => .array .long
  | 15 => .array .long
  | 16 => .int
  | 17 => .int
  | 18 => .array .int
  | 19 => .array .int
  | 20 => .array .int
  | 21 => .array .int
  | 22 => .array .boolean
  | 23 => .int
  | 24 => .int
  | 25 => .int
  | 26 => .int
  | 27 => .int
  | 28 => .int
  | 29 => .boolean
  | 30 => .array .int
  | 31 => .array .int
  | 32 => .array .int
  | 33 => .array .int
  | 34 => .array .int
  | 35 => .array .int
  | 36 => .array .int
  | 37 => .array .int
  | 38 => .array .int
  | 39 => .array .int
  | 40 => .array .int
  | 41 => .boolean
  | 42 => .array .int
  | 43 => .int
  | 44 => .array .int
  | 45 => .int
  | 46 => .array .int
  | _ => .array .int
theorem nmX6 : ∀ a, a < 48 → ∀ b, b < 48 → a ≠ b → (TX6 a).2.1 ≠ (TX6 b).2.1 := by decide +kernel
theorem tyX6_ok : ∀ k, k < 48 → parseFieldDescriptor (TX6 k).2.2.1 = some (tyX6 k) := by decide +kernel
def RL : String := "PatternMatcherLaw"
abbrev vwCl : List vw_C := [(RX0, TX0, 13), (RX1, TX1, 5), (RX2, TX2, 10), (RX3, TX3, 2), (RX4, TX4, 13), (RX5, TX5, 13), (RX6, TX6, 48)]
abbrev cX5_init : ByteArray := prog_1_method_1_code
def yX5_init : MethodName := ⟨RX5, "<init>", "()V"⟩
abbrev cX4_init : ByteArray := prog_6_method_1_code
def yX4_init : MethodName := ⟨RX4, "<init>", "()V"⟩
abbrev cX3_init : ByteArray := prog_5_method_1_code
def yX3_init : MethodName := ⟨RX3, "<init>", "(I)V"⟩
abbrev cX1_init : ByteArray := prog_3_method_1_code
def yX1_init : MethodName := ⟨RX1, "<init>", "()V"⟩
abbrev cX0_init : ByteArray := prog_2_method_1_code
def yX0_init : MethodName := ⟨RX0, "<init>", "(I)V"⟩
abbrev cX5_type : ByteArray := prog_1_method_2_code
def yX5_type : MethodName := ⟨RX5, "type", "(IC)Z"⟩
abbrev cX5_isRow : ByteArray := prog_1_method_15_code
def yX5_isRow : MethodName := ⟨RX5, "isRow", "(I)Z"⟩
abbrev cX3_add : ByteArray := prog_5_method_2_code
def yX3_add : MethodName := ⟨RX3, "add", "(C)Z"⟩
abbrev cX5_forgetMatchIfText : ByteArray := prog_1_method_16_code
def yX5_forgetMatchIfText : MethodName := ⟨RX5, "forgetMatchIfText", "(I)V"⟩
abbrev cX5_clear : ByteArray := prog_1_method_3_code
def yX5_clear : MethodName := ⟨RX5, "clear", "(I)Z"⟩
abbrev cX3_empty : ByteArray := prog_5_method_3_code
def yX3_empty : MethodName := ⟨RX3, "empty", "()V"⟩
abbrev cX5_length : ByteArray := prog_1_method_14_code
def yX5_length : MethodName := ⟨RX5, "length", "(I)I"⟩
abbrev cX3_size : ByteArray := prog_5_method_4_code
def yX3_size : MethodName := ⟨RX3, "size", "()I"⟩
abbrev cL_compile : ByteArray := method_3_code
def yL_compile : MethodName := ⟨RL, "compile", "(LPatternMatcher;[J)I"⟩
abbrev cX5_compile : ByteArray := prog_1_method_4_code
def yX5_compile : MethodName := ⟨RX5, "compile", "()I"⟩
abbrev cX2_init : ByteArray := prog_4_method_1_code
def yX2_init : MethodName := ⟨RX2, "<init>", "(LPatternMatcher$Row;LPatternMatcher$Program;)V"⟩
abbrev cX2_readPattern : ByteArray := prog_4_method_2_code
def yX2_readPattern : MethodName := ⟨RX2, "readPattern", "()Z"⟩
abbrev cX1_restart : ByteArray := prog_3_method_2_code
def yX1_restart : MethodName := ⟨RX1, "restart", "()V"⟩
abbrev cX2_add : ByteArray := prog_4_method_27_code
def yX2_add : MethodName := ⟨RX2, "add", "(I)I"⟩
abbrev cX1_add : ByteArray := prog_3_method_3_code
def yX1_add : MethodName := ⟨RX1, "add", "(I)I"⟩
abbrev cX2_choice : ByteArray := prog_4_method_3_code
def yX2_choice : MethodName := ⟨RX2, "choice", "(II)I"⟩
abbrev cX2_sequence : ByteArray := prog_4_method_4_code
def yX2_sequence : MethodName := ⟨RX2, "sequence", "(II)I"⟩
abbrev cX2_isSequenceOver : ByteArray := prog_4_method_5_code
def yX2_isSequenceOver : MethodName := ⟨RX2, "isSequenceOver", "()Z"⟩
abbrev cX3_at : ByteArray := prog_5_method_5_code
def yX3_at : MethodName := ⟨RX3, "at", "(I)C"⟩
abbrev cX1_node : ByteArray := prog_3_method_4_code
def yX1_node : MethodName := ⟨RX1, "node", "(I)LPatternMatcher$Node;"⟩
abbrev cX2_onePiece : ByteArray := prog_4_method_6_code
def yX2_onePiece : MethodName := ⟨RX2, "onePiece", "(I)I"⟩
abbrev cX2_atom : ByteArray := prog_4_method_10_code
def yX2_atom : MethodName := ⟨RX2, "atom", "(I)I"⟩
abbrev cX2_bracket : ByteArray := prog_4_method_18_code
def yX2_bracket : MethodName := ⟨RX2, "bracket", "(I)I"⟩
abbrev cX2_refuse : ByteArray := prog_4_method_30_code
def yX2_refuse : MethodName := ⟨RX2, "refuse", "()I"⟩
abbrev cX2_take : ByteArray := prog_4_method_28_code
def yX2_take : MethodName := ⟨RX2, "take", "(C)Z"⟩
abbrev cX2_group : ByteArray := prog_4_method_19_code
def yX2_group : MethodName := ⟨RX2, "group", "(I)I"⟩
abbrev cX2_closedChoice : ByteArray := prog_4_method_22_code
def yX2_closedChoice : MethodName := ⟨RX2, "closedChoice", "(II)I"⟩
abbrev cX2_expect : ByteArray := prog_4_method_29_code
def yX2_expect : MethodName := ⟨RX2, "expect", "(C)V"⟩
abbrev cX2_together : ByteArray := prog_4_method_20_code
def yX2_together : MethodName := ⟨RX2, "together", "(I)I"⟩
abbrev cX2_withBody : ByteArray := prog_4_method_23_code
def yX2_withBody : MethodName := ⟨RX2, "withBody", "(II)I"⟩
abbrev cX2_single : ByteArray := prog_4_method_26_code
def yX2_single : MethodName := ⟨RX2, "single", "(I)I"⟩
abbrev cX2_look : ByteArray := prog_4_method_21_code
def yX2_look : MethodName := ⟨RX2, "look", "(I)I"⟩
abbrev cX2_items : ByteArray := prog_4_method_13_code
def yX2_items : MethodName := ⟨RX2, "items", "()I"⟩
abbrev cX2_item : ByteArray := prog_4_method_14_code
def yX2_item : MethodName := ⟨RX2, "item", "()V"⟩
abbrev cX2_escapedItem : ByteArray := prog_4_method_15_code
def yX2_escapedItem : MethodName := ⟨RX2, "escapedItem", "()V"⟩
abbrev cX2_addItem : ByteArray := prog_4_method_17_code
def yX2_addItem : MethodName := ⟨RX2, "addItem", "(I)V"⟩
abbrev cX2_isItem : ByteArray := prog_4_method_16_code
def yX2_isItem : MethodName := ⟨RX2, "isItem", "(C)Z"⟩
abbrev cX2_set : ByteArray := prog_4_method_25_code
def yX2_set : MethodName := ⟨RX2, "set", "(JJ)I"⟩
abbrev cX2_escaped : ByteArray := prog_4_method_11_code
def yX2_escaped : MethodName := ⟨RX2, "escaped", "()I"⟩
abbrev cX2_backReference : ByteArray := prog_4_method_12_code
def yX2_backReference : MethodName := ⟨RX2, "backReference", "(I)I"⟩
abbrev cX2_character : ByteArray := prog_4_method_24_code
def yX2_character : MethodName := ⟨RX2, "character", "(C)I"⟩
abbrev cX2_readLoop : ByteArray := prog_4_method_7_code
def yX2_readLoop : MethodName := ⟨RX2, "readLoop", "()Z"⟩
abbrev cX2_readCounts : ByteArray := prog_4_method_8_code
def yX2_readCounts : MethodName := ⟨RX2, "readCounts", "()V"⟩
abbrev cX2_count : ByteArray := prog_4_method_9_code
def yX2_count : MethodName := ⟨RX2, "count", "()I"⟩
abbrev cL_matches : ByteArray := method_4_code
def yL_matches : MethodName := ⟨RL, "matches", "(LPatternMatcher;[J)I"⟩
abbrev cX5_matches : ByteArray := prog_1_method_5_code
def yX5_matches : MethodName := ⟨RX5, "matches", "()Z"⟩
abbrev cX5_match : ByteArray := prog_1_method_17_code
def yX5_match : MethodName := ⟨RX5, "match", "(III)Z"⟩
abbrev cX4_openSearch : ByteArray := prog_6_method_2_code
def yX4_openSearch : MethodName := ⟨RX4, "openSearch", "(I)V"⟩
abbrev cX4_firstWay : ByteArray := prog_6_method_3_code
def yX4_firstWay : MethodName := ⟨RX4, "firstWay", "(II)Z"⟩
abbrev cX4_run : ByteArray := prog_6_method_4_code
def yX4_run : MethodName := ⟨RX4, "run", "(III)Z"⟩
abbrev cX4_takeWaiting : ByteArray := prog_6_method_15_code
def yX4_takeWaiting : MethodName := ⟨RX4, "takeWaiting", "()V"⟩
abbrev cX4_step : ByteArray := prog_6_method_5_code
def yX4_step : MethodName := ⟨RX4, "step", "(LPatternMatcher$Node;I)Z"⟩
abbrev cX4_takeCharacter : ByteArray := prog_6_method_6_code
def yX4_takeCharacter : MethodName := ⟨RX4, "takeCharacter", "(LPatternMatcher$Node;)Z"⟩
abbrev cX5_isIn : ByteArray := prog_1_method_28_code
def yX5_isIn : MethodName := ⟨RX5, "isIn", "(CJJ)Z"⟩
abbrev cX4_moveTo : ByteArray := prog_6_method_8_code
def yX4_moveTo : MethodName := ⟨RX4, "moveTo", "(I)V"⟩
abbrev cX4_isEdge : ByteArray := prog_6_method_9_code
def yX4_isEdge : MethodName := ⟨RX4, "isEdge", "()Z"⟩
abbrev cX4_isWord : ByteArray := prog_6_method_10_code
def yX4_isWord : MethodName := ⟨RX4, "isWord", "(C)Z"⟩
abbrev cX4_takeSpanAgain : ByteArray := prog_6_method_7_code
def yX4_takeSpanAgain : MethodName := ⟨RX4, "takeSpanAgain", "(I)Z"⟩
abbrev cX5_spanPlace : ByteArray := prog_1_method_29_code
def yX5_spanPlace : MethodName := ⟨RX5, "spanPlace", "(JII)I"⟩
abbrev cX5_spanOpened : ByteArray := prog_1_method_30_code
def yX5_spanOpened : MethodName := ⟨RX5, "spanOpened", "(JII)J"⟩
abbrev cX5_spanClosed : ByteArray := prog_1_method_31_code
def yX5_spanClosed : MethodName := ⟨RX5, "spanClosed", "(JII)J"⟩
abbrev cX4_letWait : ByteArray := prog_6_method_14_code
def yX4_letWait : MethodName := ⟨RX4, "letWait", "(II)Z"⟩
abbrev cX4_packed : ByteArray := prog_6_method_18_code
def yX4_packed : MethodName := ⟨RX4, "packed", "(II)I"⟩
abbrev cX4_withLoop : ByteArray := prog_6_method_12_code
def yX4_withLoop : MethodName := ⟨RX4, "withLoop", "(II)I"⟩
abbrev cX4_wasHere : ByteArray := prog_6_method_16_code
def yX4_wasHere : MethodName := ⟨RX4, "wasHere", "(LPatternMatcher$Node;I)Z"⟩
abbrev cX4_isOver : ByteArray := prog_6_method_17_code
def yX4_isOver : MethodName := ⟨RX4, "isOver", "(II)Z"⟩
abbrev cX4_loop : ByteArray := prog_6_method_11_code
def yX4_loop : MethodName := ⟨RX4, "loop", "(LPatternMatcher$Node;)Z"⟩
abbrev cX4_goTo : ByteArray := prog_6_method_13_code
def yX4_goTo : MethodName := ⟨RX4, "goTo", "(II)Z"⟩
abbrev cX4_look : ByteArray := prog_6_method_19_code
def yX4_look : MethodName := ⟨RX4, "look", "(LPatternMatcher$Node;I)Z"⟩
abbrev cX4_lookBehind : ByteArray := prog_6_method_20_code
def yX4_lookBehind : MethodName := ⟨RX4, "lookBehind", "(II)Z"⟩
abbrev cX4_atomic : ByteArray := prog_6_method_21_code
def yX4_atomic : MethodName := ⟨RX4, "atomic", "(LPatternMatcher$Node;I)Z"⟩
abbrev cL_looking : ByteArray := method_5_code
def yL_looking : MethodName := ⟨RL, "looking", "(LPatternMatcher;[J)I"⟩
abbrev cX5_looking : ByteArray := prog_1_method_6_code
def yX5_looking : MethodName := ⟨RX5, "looking", "()Z"⟩
abbrev cL_find : ByteArray := method_6_code
def yL_find : MethodName := ⟨RL, "find", "(LPatternMatcher;I[J)I"⟩
abbrev cX5_find : ByteArray := prog_1_method_7_code
def yX5_find : MethodName := ⟨RX5, "find", "(I)I"⟩
abbrev cL_start : ByteArray := method_7_code
def yL_start : MethodName := ⟨RL, "start", "(LPatternMatcher;I[J)I"⟩
abbrev cX5_start : ByteArray := prog_1_method_8_code
def yX5_start : MethodName := ⟨RX5, "start", "(I)I"⟩
abbrev cX5_isGroup : ByteArray := prog_1_method_19_code
def yX5_isGroup : MethodName := ⟨RX5, "isGroup", "(I)Z"⟩
abbrev cX5_groupFrom : ByteArray := prog_1_method_20_code
def yX5_groupFrom : MethodName := ⟨RX5, "groupFrom", "(I)I"⟩
abbrev cL_end : ByteArray := method_8_code
def yL_end : MethodName := ⟨RL, "end", "(LPatternMatcher;I[J)I"⟩
abbrev cX5_end : ByteArray := prog_1_method_9_code
def yX5_end : MethodName := ⟨RX5, "end", "(I)I"⟩
abbrev cX5_groupTo : ByteArray := prog_1_method_21_code
def yX5_groupTo : MethodName := ⟨RX5, "groupTo", "(I)I"⟩
abbrev cL_replace : ByteArray := method_9_code
def yL_replace : MethodName := ⟨RL, "replace", "(LPatternMatcher;[J)I"⟩
abbrev cX5_replace : ByteArray := prog_1_method_10_code
def yX5_replace : MethodName := ⟨RX5, "replace", "()I"⟩
abbrev cX5_templateFault : ByteArray := prog_1_method_22_code
def yX5_templateFault : MethodName := ⟨RX5, "templateFault", "()I"⟩
abbrev cX5_isDigit : ByteArray := prog_1_method_27_code
def yX5_isDigit : MethodName := ⟨RX5, "isDigit", "(C)Z"⟩
abbrev cX5_makeFromText : ByteArray := prog_1_method_24_code
def yX5_makeFromText : MethodName := ⟨RX5, "makeFromText", "(II)V"⟩
abbrev cX5_makeFromTemplate : ByteArray := prog_1_method_23_code
def yX5_makeFromTemplate : MethodName := ⟨RX5, "makeFromTemplate", "()V"⟩
abbrev cX5_placeAfterMatch : ByteArray := prog_1_method_18_code
def yX5_placeAfterMatch : MethodName := ⟨RX5, "placeAfterMatch", "()I"⟩
abbrev cL_replaced : ByteArray := method_10_code
def yL_replaced : MethodName := ⟨RL, "replaced", "(LPatternMatcher;I[J)I"⟩
abbrev cX5_replaced : ByteArray := prog_1_method_11_code
def yX5_replaced : MethodName := ⟨RX5, "replaced", "(I)C"⟩
abbrev cL_split : ByteArray := method_11_code
def yL_split : MethodName := ⟨RL, "split", "(LPatternMatcher;[J)I"⟩
abbrev cX5_split : ByteArray := prog_1_method_12_code
def yX5_split : MethodName := ⟨RX5, "split", "()I"⟩
abbrev cX5_addPiece : ByteArray := prog_1_method_25_code
def yX5_addPiece : MethodName := ⟨RX5, "addPiece", "(II)V"⟩
abbrev cX5_dropEmptyPiecesAtEnd : ByteArray := prog_1_method_26_code
def yX5_dropEmptyPiecesAtEnd : MethodName := ⟨RX5, "dropEmptyPiecesAtEnd", "()V"⟩
abbrev cL_piece : ByteArray := method_12_code
def yL_piece : MethodName := ⟨RL, "piece", "(LPatternMatcher;II[J)I"⟩
abbrev cX5_piece : ByteArray := prog_1_method_13_code
def yX5_piece : MethodName := ⟨RX5, "piece", "(II)I"⟩
abbrev cX6_init : ByteArray := prog_8_method_1_code
def yX6_init : MethodName := ⟨RX6, "<init>", "()V"⟩
abbrev cX6_thrown : ByteArray := prog_8_method_2_code
def yX6_thrown : MethodName := ⟨RX6, "thrown", "()I"⟩
abbrev cX6_type : ByteArray := prog_8_method_5_code
def yX6_type : MethodName := ⟨RX6, "type", "(IC)Z"⟩
abbrev cX6_room : ByteArray := prog_8_method_4_code
def yX6_room : MethodName := ⟨RX6, "room", "(I)I"⟩
abbrev cX6_clear : ByteArray := prog_8_method_6_code
def yX6_clear : MethodName := ⟨RX6, "clear", "(I)Z"⟩
abbrev cX6_length : ByteArray := prog_8_method_7_code
def yX6_length : MethodName := ⟨RX6, "length", "(I)I"⟩
abbrev cX6_compile : ByteArray := prog_8_method_30_code
def yX6_compile : MethodName := ⟨RX6, "compile", "()I"⟩
abbrev cX6_read : ByteArray := prog_8_method_18_code
def yX6_read : MethodName := ⟨RX6, "read", "()Z"⟩
abbrev cX6_newChoice : ByteArray := prog_8_method_11_code
def yX6_newChoice : MethodName := ⟨RX6, "newChoice", "(IZ)V"⟩
abbrev cX6_create : ByteArray := prog_8_method_9_code
def yX6_create : MethodName := ⟨RX6, "create", "(I)I"⟩
abbrev cX6_newSequence : ByteArray := prog_8_method_10_code
def yX6_newSequence : MethodName := ⟨RX6, "newSequence", "()V"⟩
abbrev cX6_peek : ByteArray := prog_8_method_8_code
def yX6_peek : MethodName := ⟨RX6, "peek", "(I)I"⟩
abbrev cX6_bar : ByteArray := prog_8_method_19_code
def yX6_bar : MethodName := ⟨RX6, "bar", "()Z"⟩
abbrev cX6_bracket : ByteArray := prog_8_method_20_code
def yX6_bracket : MethodName := ⟨RX6, "bracket", "()Z"⟩
abbrev cX6_close : ByteArray := prog_8_method_21_code
def yX6_close : MethodName := ⟨RX6, "close", "()Z"⟩
abbrev cX6_loop : ByteArray := prog_8_method_28_code
def yX6_loop : MethodName := ⟨RX6, "loop", "(I)Z"⟩
abbrev cX6_append : ByteArray := prog_8_method_12_code
def yX6_append : MethodName := ⟨RX6, "append", "(I)V"⟩
abbrev cX6_bounds : ByteArray := prog_8_method_29_code
def yX6_bounds : MethodName := ⟨RX6, "bounds", "(I)Z"⟩
abbrev cX6_isFour : ByteArray := prog_8_method_27_code
def yX6_isFour : MethodName := ⟨RX6, "isFour", "(I)Z"⟩
abbrev cX6_atom : ByteArray := prog_8_method_22_code
def yX6_atom : MethodName := ⟨RX6, "atom", "(I)I"⟩
abbrev cX6_escape : ByteArray := prog_8_method_23_code
def yX6_escape : MethodName := ⟨RX6, "escape", "()I"⟩
abbrev cX6_isSpecial : ByteArray := prog_8_method_13_code
def yX6_isSpecial : MethodName := ⟨RX6, "isSpecial", "(I)Z"⟩
abbrev cX6_includeKind : ByteArray := prog_8_method_16_code
def yX6_includeKind : MethodName := ⟨RX6, "includeKind", "(II)V"⟩
abbrev cX6_isWord : ByteArray := prog_8_method_14_code
def yX6_isWord : MethodName := ⟨RX6, "isWord", "(I)Z"⟩
abbrev cX6_include : ByteArray := prog_8_method_15_code
def yX6_include : MethodName := ⟨RX6, "include", "(II)V"⟩
abbrev cX6_items : ByteArray := prog_8_method_25_code
def yX6_items : MethodName := ⟨RX6, "items", "()I"⟩
abbrev cX6_item : ByteArray := prog_8_method_26_code
def yX6_item : MethodName := ⟨RX6, "item", "(I)Z"⟩
abbrev cX6_isBarred : ByteArray := prog_8_method_24_code
def yX6_isBarred : MethodName := ⟨RX6, "isBarred", "(I)Z"⟩
abbrev cX6_fail : ByteArray := prog_8_method_3_code
def yX6_fail : MethodName := ⟨RX6, "fail", "(I)I"⟩
abbrev cX6_matches : ByteArray := prog_8_method_53_code
def yX6_matches : MethodName := ⟨RX6, "matches", "()Z"⟩
abbrev cX6_run : ByteArray := prog_8_method_35_code
def yX6_run : MethodName := ⟨RX6, "run", "(IZ)Z"⟩
abbrev cX6_link : ByteArray := prog_8_method_31_code
def yX6_link : MethodName := ⟨RX6, "link", "(IIII)I"⟩
abbrev cX6_goOn : ByteArray := prog_8_method_49_code
def yX6_goOn : MethodName := ⟨RX6, "goOn", "()Z"⟩
abbrev cX6_keep : ByteArray := prog_8_method_50_code
def yX6_keep : MethodName := ⟨RX6, "keep", "(I)Z"⟩
abbrev cX6_pieces : ByteArray := prog_8_method_40_code
def yX6_pieces : MethodName := ⟨RX6, "pieces", "(I)Z"⟩
abbrev cX6_turn : ByteArray := prog_8_method_48_code
def yX6_turn : MethodName := ⟨RX6, "turn", "(III)Z"⟩
abbrev cX6_goThrough : ByteArray := prog_8_method_47_code
def yX6_goThrough : MethodName := ⟨RX6, "goThrough", "(II)V"⟩
abbrev cX6_otherWay : ByteArray := prog_8_method_32_code
def yX6_otherWay : MethodName := ⟨RX6, "otherWay", "(IIII)V"⟩
abbrev cX6_enter : ByteArray := prog_8_method_37_code
def yX6_enter : MethodName := ⟨RX6, "enter", "(I)Z"⟩
abbrev cX6_into : ByteArray := prog_8_method_38_code
def yX6_into : MethodName := ⟨RX6, "into", "(II)Z"⟩
abbrev cX6_begin : ByteArray := prog_8_method_39_code
def yX6_begin : MethodName := ⟨RX6, "begin", "(I)Z"⟩
abbrev cX6_one : ByteArray := prog_8_method_41_code
def yX6_one : MethodName := ⟨RX6, "one", "(I)Z"⟩
abbrev cX6_character : ByteArray := prog_8_method_33_code
def yX6_character : MethodName := ⟨RX6, "character", "(I)I"⟩
abbrev cX6_includes : ByteArray := prog_8_method_17_code
def yX6_includes : MethodName := ⟨RX6, "includes", "(II)Z"⟩
abbrev cX6_isWordAt : ByteArray := prog_8_method_34_code
def yX6_isWordAt : MethodName := ⟨RX6, "isWordAt", "(I)Z"⟩
abbrev cX6_again : ByteArray := prog_8_method_42_code
def yX6_again : MethodName := ⟨RX6, "again", "(I)Z"⟩
abbrev cX6_beginLoop : ByteArray := prog_8_method_46_code
def yX6_beginLoop : MethodName := ⟨RX6, "beginLoop", "(I)Z"⟩
abbrev cX6_notAhead : ByteArray := prog_8_method_43_code
def yX6_notAhead : MethodName := ⟨RX6, "notAhead", "(I)Z"⟩
abbrev cX6_look : ByteArray := prog_8_method_44_code
def yX6_look : MethodName := ⟨RX6, "look", "(I)Z"⟩
abbrev cX6_before : ByteArray := prog_8_method_45_code
def yX6_before : MethodName := ⟨RX6, "before", "(II)V"⟩
abbrev cX6_back : ByteArray := prog_8_method_36_code
def yX6_back : MethodName := ⟨RX6, "back", "()V"⟩
abbrev cX6_note : ByteArray := prog_8_method_52_code
def yX6_note : MethodName := ⟨RX6, "note", "(Z)V"⟩
abbrev cX6_looking : ByteArray := prog_8_method_54_code
def yX6_looking : MethodName := ⟨RX6, "looking", "()Z"⟩
abbrev cX6_find : ByteArray := prog_8_method_55_code
def yX6_find : MethodName := ⟨RX6, "find", "(I)I"⟩
abbrev cX6_search : ByteArray := prog_8_method_51_code
def yX6_search : MethodName := ⟨RX6, "search", "(I)Z"⟩
abbrev cX6_start : ByteArray := prog_8_method_57_code
def yX6_start : MethodName := ⟨RX6, "start", "(I)I"⟩
abbrev cX6_spanOf : ByteArray := prog_8_method_56_code
def yX6_spanOf : MethodName := ⟨RX6, "spanOf", "(II)I"⟩
abbrev cX6_end : ByteArray := prog_8_method_58_code
def yX6_end : MethodName := ⟨RX6, "end", "(I)I"⟩
abbrev cX6_replace : ByteArray := prog_8_method_64_code
def yX6_replace : MethodName := ⟨RX6, "replace", "()I"⟩
abbrev cX6_faultOfTemplate : ByteArray := prog_8_method_62_code
def yX6_faultOfTemplate : MethodName := ⟨RX6, "faultOfTemplate", "()I"⟩
abbrev cX6_putText : ByteArray := prog_8_method_61_code
def yX6_putText : MethodName := ⟨RX6, "putText", "(II)V"⟩
abbrev cX6_put : ByteArray := prog_8_method_60_code
def yX6_put : MethodName := ⟨RX6, "put", "(I)V"⟩
abbrev cX6_putTemplate : ByteArray := prog_8_method_63_code
def yX6_putTemplate : MethodName := ⟨RX6, "putTemplate", "()V"⟩
abbrev cX6_behindMatch : ByteArray := prog_8_method_59_code
def yX6_behindMatch : MethodName := ⟨RX6, "behindMatch", "()I"⟩
abbrev cX6_replaced : ByteArray := prog_8_method_65_code
def yX6_replaced : MethodName := ⟨RX6, "replaced", "(I)C"⟩
abbrev cX6_split : ByteArray := prog_8_method_66_code
def yX6_split : MethodName := ⟨RX6, "split", "()I"⟩
abbrev cX6_piece : ByteArray := prog_8_method_67_code
def yX6_piece : MethodName := ⟨RX6, "piece", "(II)I"⟩
abbrev cL_law : ByteArray := code
def yL_law : MethodName := ⟨RL, "law", "([I)Z"⟩
/-! the words: one list for all methods -/
def aW : List Cond := lw_tbl.filter goodWord
theorem aw_good {w : Cond} (h : w ∈ aW) : goodWord w = true := (List.mem_filter.mp h).2
theorem aw_t {w : Cond} (h : w ∈ tables_1) (g : goodWord w = true) : w ∈ aW := List.mem_filter.mpr ⟨List.mem_append_right _ h, g⟩
theorem aw_s {y : MethodName} {n : Nat} (h : (y, n) ∈ lw_privs) : Cond.selects y.cls y y ∈ aW := List.mem_filter.mpr ⟨List.mem_append_left _ (List.mem_map.mpr ⟨(y, n), h, rfl⟩), rfl⟩
theorem ti_1 {w : Cond} (h : w ∈ tables_1_1) : w ∈ tables_1 := List.mem_append_left _ h
theorem ti_2 {w : Cond} (h : w ∈ tables_1_2) : w ∈ tables_1 := List.mem_append_right _ (List.mem_append_left _ h)
theorem ti_3 {w : Cond} (h : w ∈ tables_1_3) : w ∈ tables_1 := List.mem_append_right _ (List.mem_append_right _ (List.mem_append_left _ h))
theorem ti_4 {w : Cond} (h : w ∈ tables_1_4) : w ∈ tables_1 := List.mem_append_right _ (List.mem_append_right _ (List.mem_append_right _ (List.mem_append_left _ h)))
theorem ti_5 {w : Cond} (h : w ∈ tables_1_5) : w ∈ tables_1 := List.mem_append_right _ (List.mem_append_right _ (List.mem_append_right _ (List.mem_append_right _ (List.mem_append_left _ h))))
theorem ti_6 {w : Cond} (h : w ∈ tables_1_6) : w ∈ tables_1 := List.mem_append_right _ (List.mem_append_right _ (List.mem_append_right _ (List.mem_append_right _ (List.mem_append_right _ (h)))))
def nwK : Cond → Bool
  | .fieldLinkNest .. => true
  | .methodLinkNest .. => true
  | _ => false
def nxW : List Cond := tables_1.filter nwK
theorem w_0 : Cond.initialized RL ∈ aW := aw_t (ti_1 (List.mem_of_getElem? (i := 0) rfl)) rfl
theorem w_1 : Cond.initialized RX5 ∈ aW := aw_t (ti_1 (List.mem_of_getElem? (i := 1) rfl)) rfl
theorem w_2 : Cond.initialized RX4 ∈ aW := aw_t (ti_1 (List.mem_of_getElem? (i := 2) rfl)) rfl
theorem w_3 : Cond.initialized RX3 ∈ aW := aw_t (ti_1 (List.mem_of_getElem? (i := 3) rfl)) rfl
theorem w_4 : Cond.initialized RX1 ∈ aW := aw_t (ti_1 (List.mem_of_getElem? (i := 4) rfl)) rfl
theorem w_5 : Cond.initialized RX0 ∈ aW := aw_t (ti_1 (List.mem_of_getElem? (i := 5) rfl)) rfl
theorem w_6 : Cond.initialized RX6 ∈ aW := aw_t (ti_1 (List.mem_of_getElem? (i := 6) rfl)) rfl
theorem w_7 : Cond.initialized RX2 ∈ aW := aw_t (ti_1 (List.mem_of_getElem? (i := 7) rfl)) rfl
theorem w_8 : Cond.initialized "java/lang/String" ∈ aW := aw_t (ti_1 (List.mem_of_getElem? (i := 8) rfl)) rfl
theorem w_9 : Cond.initialized "java/lang/StringLatin1" ∈ aW := aw_t (ti_1 (List.mem_of_getElem? (i := 9) rfl)) rfl
theorem w_10 : Cond.initialized "java/lang/Math" ∈ aW := aw_t (ti_1 (List.mem_of_getElem? (i := 10) rfl)) rfl
theorem w_11 : Cond.initialized "java/lang/StringUTF16" ∈ aW := aw_t (ti_1 (List.mem_of_getElem? (i := 11) rfl)) rfl
theorem w_12 : Cond.initialized "jdk/internal/util/Preconditions" ∈ aW := aw_t (ti_1 (List.mem_of_getElem? (i := 12) rfl)) rfl
theorem w_13 : Cond.initialized "java/lang/Character" ∈ aW := aw_t (ti_1 (List.mem_of_getElem? (i := 13) rfl)) rfl
theorem w_14 : Cond.initialized "java/lang/Throwable" ∈ aW := aw_t (ti_1 (List.mem_of_getElem? (i := 14) rfl)) rfl
theorem w_15 : Cond.initialized "java/lang/Exception" ∈ aW := aw_t (ti_1 (List.mem_of_getElem? (i := 15) rfl)) rfl
theorem w_16 : Cond.initialized "java/lang/RuntimeException" ∈ aW := aw_t (ti_1 (List.mem_of_getElem? (i := 16) rfl)) rfl
theorem w_17 : Cond.initialized "java/lang/IllegalArgumentException" ∈ aW := aw_t (ti_1 (List.mem_of_getElem? (i := 17) rfl)) rfl
theorem w_18 : Cond.initialized "java/lang/IllegalStateException" ∈ aW := aw_t (ti_1 (List.mem_of_getElem? (i := 18) rfl)) rfl
theorem w_19 : Cond.initialized "java/lang/IndexOutOfBoundsException" ∈ aW := aw_t (ti_1 (List.mem_of_getElem? (i := 19) rfl)) rfl
theorem w_20 : Cond.classLink RL 8 RX5 ∈ aW := aw_t (ti_1 (List.mem_of_getElem? (i := 20) rfl)) rfl
theorem w_21 : Cond.instantiable RX5 13 ∈ aW := aw_t (ti_1 (List.mem_of_getElem? (i := 21) rfl)) rfl
theorem w_22 : Cond.methodLink RL 50 yX5_init ∈ aW := aw_t (ti_1 (List.mem_of_getElem? (i := 22) rfl)) rfl
theorem w_23 : Cond.instanceMethod yX5_init ∈ aW := aw_t (ti_1 (List.mem_of_getElem? (i := 23) rfl)) rfl
theorem w_24 : Cond.code yX5_init cX5_init 1 none ∈ aW := aw_t (ti_1 (List.mem_of_getElem? (i := 24) rfl)) rfl
theorem w_25 : Cond.methodLink RX5 3 objectInit ∈ aW := aw_t (ti_1 (List.mem_of_getElem? (i := 25) rfl)) rfl
theorem w_26 : Cond.instanceMethod objectInit ∈ aW := aw_t (ti_1 (List.mem_of_getElem? (i := 26) rfl)) rfl
theorem w_27 : Cond.code objectInit ⟨#[0xb1]⟩ 1 none ∈ aW := aw_t (ti_1 (List.mem_of_getElem? (i := 27) rfl)) rfl
theorem w_28 : Cond.classLink RX5 9 RX4 ∈ aW := aw_t (ti_1 (List.mem_of_getElem? (i := 28) rfl)) rfl
theorem w_29 : Cond.instantiable RX4 13 ∈ aW := aw_t (ti_1 (List.mem_of_getElem? (i := 29) rfl)) rfl
theorem w_30 : Cond.methodLink RX5 11 yX4_init ∈ aW := aw_t (ti_1 (List.mem_of_getElem? (i := 30) rfl)) rfl
theorem w_31 : Cond.instanceMethod yX4_init ∈ aW := aw_t (ti_1 (List.mem_of_getElem? (i := 31) rfl)) rfl
theorem w_32 : Cond.code yX4_init cX4_init 1 none ∈ aW := aw_t (ti_1 (List.mem_of_getElem? (i := 32) rfl)) rfl
theorem w_33 : Cond.methodLink RX4 3 objectInit ∈ aW := aw_t (ti_1 (List.mem_of_getElem? (i := 33) rfl)) rfl
theorem w_34 : Cond.classLink RX4 9 RX3 ∈ aW := aw_t (ti_1 (List.mem_of_getElem? (i := 34) rfl)) rfl
theorem w_35 : Cond.instantiable RX3 2 ∈ aW := aw_t (ti_1 (List.mem_of_getElem? (i := 35) rfl)) rfl
theorem w_36 : Cond.methodLink RX4 11 yX3_init ∈ aW := aw_t (ti_1 (List.mem_of_getElem? (i := 36) rfl)) rfl
theorem w_37 : Cond.instanceMethod yX3_init ∈ aW := aw_t (ti_1 (List.mem_of_getElem? (i := 37) rfl)) rfl
theorem w_38 : Cond.code yX3_init cX3_init 2 none ∈ aW := aw_t (ti_1 (List.mem_of_getElem? (i := 38) rfl)) rfl
theorem w_39 : Cond.methodLink RX3 3 objectInit ∈ aW := aw_t (ti_1 (List.mem_of_getElem? (i := 39) rfl)) rfl
theorem w_40 : Cond.fieldLink RX3 9 "PatternMatcher$Row" "characters" "[C" ∈ aW := aw_t (ti_1 (List.mem_of_getElem? (i := 40) rfl)) rfl
theorem w_41 : Cond.fieldLink RX3 15 "PatternMatcher$Row" "count" "I" ∈ aW := aw_t (ti_1 (List.mem_of_getElem? (i := 41) rfl)) rfl
theorem w_42 : Cond.laysFinal RX3 "PatternMatcher$Row" "characters" "[C" ∈ aW := aw_t (ti_1 (List.mem_of_getElem? (i := 42) rfl)) rfl
theorem w_44 : Cond.lays RX3 "PatternMatcher$Row" "count" "I" ∈ aW := aw_t (ti_1 (List.mem_of_getElem? (i := 44) rfl)) rfl
theorem w_47 : Cond.arrayClass .char ∈ aW := aw_t (ti_1 (List.mem_of_getElem? (i := 47) rfl)) rfl
theorem w_48 : Cond.classLink RX4 20 RX1 ∈ aW := aw_t (ti_1 (List.mem_of_getElem? (i := 48) rfl)) rfl
theorem w_49 : Cond.instantiable RX1 5 ∈ aW := aw_t (ti_1 (List.mem_of_getElem? (i := 49) rfl)) rfl
theorem w_50 : Cond.methodLink RX4 22 yX1_init ∈ aW := aw_t (ti_1 (List.mem_of_getElem? (i := 50) rfl)) rfl
theorem w_51 : Cond.instanceMethod yX1_init ∈ aW := aw_t (ti_1 (List.mem_of_getElem? (i := 51) rfl)) rfl
theorem w_52 : Cond.code yX1_init cX1_init 2 none ∈ aW := aw_t (ti_1 (List.mem_of_getElem? (i := 52) rfl)) rfl
theorem w_53 : Cond.methodLink RX1 3 objectInit ∈ aW := aw_t (ti_1 (List.mem_of_getElem? (i := 53) rfl)) rfl
theorem w_54 : Cond.classLink RX1 9 RX0 ∈ aW := aw_t (ti_1 (List.mem_of_getElem? (i := 54) rfl)) rfl
theorem w_56 : Cond.instantiable RX0 13 ∈ aW := aw_t (ti_1 (List.mem_of_getElem? (i := 56) rfl)) rfl
theorem w_57 : Cond.methodLink RX1 17 yX0_init ∈ aW := aw_t (ti_1 (List.mem_of_getElem? (i := 57) rfl)) rfl
theorem w_58 : Cond.instanceMethod yX0_init ∈ aW := aw_t (ti_1 (List.mem_of_getElem? (i := 58) rfl)) rfl
theorem w_59 : Cond.code yX0_init cX0_init 2 none ∈ aW := aw_t (ti_1 (List.mem_of_getElem? (i := 59) rfl)) rfl
theorem w_60 : Cond.methodLink RX0 1 objectInit ∈ aW := aw_t (ti_1 (List.mem_of_getElem? (i := 60) rfl)) rfl
theorem w_61 : Cond.fieldLink RX0 7 "PatternMatcher$Node" "number" "I" ∈ aW := aw_t (ti_1 (List.mem_of_getElem? (i := 61) rfl)) rfl
theorem w_62 : Cond.fieldLinkNest RX1 43 "PatternMatcher$Node" "number" "I" "PatternMatcher" ∈ nxW := List.mem_filter.mpr ⟨ti_1 (List.mem_of_getElem? (i := 62) rfl), rfl⟩
theorem w_63 : Cond.fieldLinkNest RX4 191 "PatternMatcher$Node" "number" "I" "PatternMatcher" ∈ nxW := List.mem_filter.mpr ⟨ti_1 (List.mem_of_getElem? (i := 63) rfl), rfl⟩
theorem w_64 : Cond.fieldLinkNest RX1 34 "PatternMatcher$Node" "kind" "I" "PatternMatcher" ∈ nxW := List.mem_filter.mpr ⟨ti_1 (List.mem_of_getElem? (i := 64) rfl), rfl⟩
theorem w_65 : Cond.fieldLinkNest RX4 80 "PatternMatcher$Node" "kind" "I" "PatternMatcher" ∈ nxW := List.mem_filter.mpr ⟨ti_1 (List.mem_of_getElem? (i := 65) rfl), rfl⟩
theorem w_66 : Cond.fieldLinkNest RX1 37 "PatternMatcher$Node" "next" "I" "PatternMatcher" ∈ nxW := List.mem_filter.mpr ⟨ti_1 (List.mem_of_getElem? (i := 66) rfl), rfl⟩
theorem w_67 : Cond.fieldLinkNest RX2 71 "PatternMatcher$Node" "next" "I" "PatternMatcher" ∈ nxW := List.mem_filter.mpr ⟨ti_1 (List.mem_of_getElem? (i := 67) rfl), rfl⟩
theorem w_68 : Cond.fieldLinkNest RX4 89 "PatternMatcher$Node" "next" "I" "PatternMatcher" ∈ nxW := List.mem_filter.mpr ⟨ti_1 (List.mem_of_getElem? (i := 68) rfl), rfl⟩
theorem w_69 : Cond.fieldLinkNest RX1 40 "PatternMatcher$Node" "other" "I" "PatternMatcher" ∈ nxW := List.mem_filter.mpr ⟨ti_1 (List.mem_of_getElem? (i := 69) rfl), rfl⟩
theorem w_70 : Cond.fieldLinkNest RX2 59 "PatternMatcher$Node" "other" "I" "PatternMatcher" ∈ nxW := List.mem_filter.mpr ⟨ti_1 (List.mem_of_getElem? (i := 70) rfl), rfl⟩
theorem w_71 : Cond.fieldLinkNest RX4 118 "PatternMatcher$Node" "other" "I" "PatternMatcher" ∈ nxW := List.mem_filter.mpr ⟨ti_1 (List.mem_of_getElem? (i := 71) rfl), rfl⟩
theorem w_72 : Cond.fieldLinkNest RX4 104 "PatternMatcher$Node" "group" "I" "PatternMatcher" ∈ nxW := List.mem_filter.mpr ⟨ti_1 (List.mem_of_getElem? (i := 72) rfl), rfl⟩
theorem w_73 : Cond.fieldLinkNest RX2 165 "PatternMatcher$Node" "group" "I" "PatternMatcher" ∈ nxW := List.mem_filter.mpr ⟨ti_1 (List.mem_of_getElem? (i := 73) rfl), rfl⟩
theorem w_74 : Cond.fieldLinkNest RX4 125 "PatternMatcher$Node" "slot" "I" "PatternMatcher" ∈ nxW := List.mem_filter.mpr ⟨ti_1 (List.mem_of_getElem? (i := 74) rfl), rfl⟩
theorem w_75 : Cond.fieldLinkNest RX2 83 "PatternMatcher$Node" "slot" "I" "PatternMatcher" ∈ nxW := List.mem_filter.mpr ⟨ti_1 (List.mem_of_getElem? (i := 75) rfl), rfl⟩
theorem w_76 : Cond.fieldLinkNest RX2 89 "PatternMatcher$Node" "least" "I" "PatternMatcher" ∈ nxW := List.mem_filter.mpr ⟨ti_1 (List.mem_of_getElem? (i := 76) rfl), rfl⟩
theorem w_77 : Cond.fieldLinkNest RX4 177 "PatternMatcher$Node" "least" "I" "PatternMatcher" ∈ nxW := List.mem_filter.mpr ⟨ti_1 (List.mem_of_getElem? (i := 77) rfl), rfl⟩
theorem w_78 : Cond.fieldLinkNest RX2 93 "PatternMatcher$Node" "most" "I" "PatternMatcher" ∈ nxW := List.mem_filter.mpr ⟨ti_1 (List.mem_of_getElem? (i := 78) rfl), rfl⟩
theorem w_79 : Cond.fieldLinkNest RX4 174 "PatternMatcher$Node" "most" "I" "PatternMatcher" ∈ nxW := List.mem_filter.mpr ⟨ti_1 (List.mem_of_getElem? (i := 79) rfl), rfl⟩
theorem w_80 : Cond.fieldLinkNest RX2 98 "PatternMatcher$Node" "lazy" "Z" "PatternMatcher" ∈ nxW := List.mem_filter.mpr ⟨ti_1 (List.mem_of_getElem? (i := 80) rfl), rfl⟩
theorem w_81 : Cond.fieldLinkNest RX4 183 "PatternMatcher$Node" "lazy" "Z" "PatternMatcher" ∈ nxW := List.mem_filter.mpr ⟨ti_1 (List.mem_of_getElem? (i := 81) rfl), rfl⟩
theorem w_82 : Cond.fieldLinkNest RX4 207 "PatternMatcher$Node" "behind" "Z" "PatternMatcher" ∈ nxW := List.mem_filter.mpr ⟨ti_1 (List.mem_of_getElem? (i := 82) rfl), rfl⟩
theorem w_83 : Cond.fieldLinkNest RX2 200 "PatternMatcher$Node" "behind" "Z" "PatternMatcher" ∈ nxW := List.mem_filter.mpr ⟨ti_1 (List.mem_of_getElem? (i := 83) rfl), rfl⟩
theorem w_84 : Cond.fieldLinkNest RX4 213 "PatternMatcher$Node" "negative" "Z" "PatternMatcher" ∈ nxW := List.mem_filter.mpr ⟨ti_1 (List.mem_of_getElem? (i := 84) rfl), rfl⟩
theorem w_85 : Cond.fieldLinkNest RX2 203 "PatternMatcher$Node" "negative" "Z" "PatternMatcher" ∈ nxW := List.mem_filter.mpr ⟨ti_1 (List.mem_of_getElem? (i := 85) rfl), rfl⟩
theorem w_86 : Cond.fieldLinkNest RX4 148 "PatternMatcher$Node" "low" "J" "PatternMatcher" ∈ nxW := List.mem_filter.mpr ⟨ti_1 (List.mem_of_getElem? (i := 86) rfl), rfl⟩
theorem w_87 : Cond.fieldLinkNest RX2 206 "PatternMatcher$Node" "low" "J" "PatternMatcher" ∈ nxW := List.mem_filter.mpr ⟨ti_1 (List.mem_of_getElem? (i := 87) rfl), rfl⟩
theorem w_88 : Cond.fieldLinkNest RX4 151 "PatternMatcher$Node" "high" "J" "PatternMatcher" ∈ nxW := List.mem_filter.mpr ⟨ti_1 (List.mem_of_getElem? (i := 88) rfl), rfl⟩
theorem w_89 : Cond.fieldLinkNest RX2 207 "PatternMatcher$Node" "high" "J" "PatternMatcher" ∈ nxW := List.mem_filter.mpr ⟨ti_1 (List.mem_of_getElem? (i := 89) rfl), rfl⟩
theorem w_90 : Cond.laysFinal RX0 "PatternMatcher$Node" "number" "I" ∈ aW := aw_t (ti_1 (List.mem_of_getElem? (i := 90) rfl)) rfl
theorem w_92 : Cond.lays RX0 "PatternMatcher$Node" "kind" "I" ∈ aW := aw_t (ti_1 (List.mem_of_getElem? (i := 92) rfl)) rfl
theorem w_94 : Cond.lays RX0 "PatternMatcher$Node" "next" "I" ∈ aW := aw_t (ti_1 (List.mem_of_getElem? (i := 94) rfl)) rfl
theorem w_96 : Cond.lays RX0 "PatternMatcher$Node" "other" "I" ∈ aW := aw_t (ti_1 (List.mem_of_getElem? (i := 96) rfl)) rfl
theorem w_98 : Cond.lays RX0 "PatternMatcher$Node" "group" "I" ∈ aW := aw_t (ti_1 (List.mem_of_getElem? (i := 98) rfl)) rfl
theorem w_100 : Cond.lays RX0 "PatternMatcher$Node" "slot" "I" ∈ aW := aw_t (ti_1 (List.mem_of_getElem? (i := 100) rfl)) rfl
theorem w_102 : Cond.lays RX0 "PatternMatcher$Node" "least" "I" ∈ aW := aw_t (ti_1 (List.mem_of_getElem? (i := 102) rfl)) rfl
theorem w_104 : Cond.lays RX0 "PatternMatcher$Node" "most" "I" ∈ aW := aw_t (ti_1 (List.mem_of_getElem? (i := 104) rfl)) rfl
theorem w_106 : Cond.lays RX0 "PatternMatcher$Node" "lazy" "Z" ∈ aW := aw_t (ti_1 (List.mem_of_getElem? (i := 106) rfl)) rfl
theorem w_108 : Cond.lays RX0 "PatternMatcher$Node" "behind" "Z" ∈ aW := aw_t (ti_1 (List.mem_of_getElem? (i := 108) rfl)) rfl
theorem w_110 : Cond.lays RX0 "PatternMatcher$Node" "negative" "Z" ∈ aW := aw_t (ti_1 (List.mem_of_getElem? (i := 110) rfl)) rfl
theorem w_112 : Cond.lays RX0 "PatternMatcher$Node" "low" "J" ∈ aW := aw_t (ti_1 (List.mem_of_getElem? (i := 112) rfl)) rfl
theorem w_114 : Cond.lays RX0 "PatternMatcher$Node" "high" "J" ∈ aW := aw_t (ti_1 (List.mem_of_getElem? (i := 114) rfl)) rfl
theorem w_117 : Cond.fieldLink RX1 11 "PatternMatcher$Program" "nodes" "[LPatternMatcher$Node;" ∈ aW := aw_t (ti_1 (List.mem_of_getElem? (i := 117) rfl)) rfl
theorem w_118 : Cond.fieldLink RX1 20 "PatternMatcher$Program" "count" "I" ∈ aW := aw_t (ti_1 (List.mem_of_getElem? (i := 118) rfl)) rfl
theorem w_119 : Cond.fieldLink RX1 24 "PatternMatcher$Program" "first" "I" ∈ aW := aw_t (ti_1 (List.mem_of_getElem? (i := 119) rfl)) rfl
theorem w_120 : Cond.fieldLinkNest RX2 32 "PatternMatcher$Program" "first" "I" "PatternMatcher" ∈ nxW := List.mem_filter.mpr ⟨ti_1 (List.mem_of_getElem? (i := 120) rfl), rfl⟩
theorem w_121 : Cond.fieldLinkNest RX4 60 "PatternMatcher$Program" "first" "I" "PatternMatcher" ∈ nxW := List.mem_filter.mpr ⟨ti_1 (List.mem_of_getElem? (i := 121) rfl), rfl⟩
theorem w_122 : Cond.fieldLink RX1 27 "PatternMatcher$Program" "groups" "I" ∈ aW := aw_t (ti_1 (List.mem_of_getElem? (i := 122) rfl)) rfl
theorem w_123 : Cond.fieldLinkNest RX5 83 "PatternMatcher$Program" "groups" "I" "PatternMatcher" ∈ nxW := List.mem_filter.mpr ⟨ti_1 (List.mem_of_getElem? (i := 123) rfl), rfl⟩
theorem w_124 : Cond.fieldLinkNest RX2 156 "PatternMatcher$Program" "groups" "I" "PatternMatcher" ∈ nxW := List.mem_filter.mpr ⟨ti_1 (List.mem_of_getElem? (i := 124) rfl), rfl⟩
theorem w_125 : Cond.fieldLink RX1 30 "PatternMatcher$Program" "asked" "J" ∈ aW := aw_t (ti_1 (List.mem_of_getElem? (i := 125) rfl)) rfl
theorem w_126 : Cond.fieldLinkNest RX2 159 "PatternMatcher$Program" "asked" "J" "PatternMatcher" ∈ nxW := List.mem_filter.mpr ⟨ti_1 (List.mem_of_getElem? (i := 126) rfl), rfl⟩
theorem w_127 : Cond.fieldLinkNest RX4 194 "PatternMatcher$Program" "asked" "J" "PatternMatcher" ∈ nxW := List.mem_filter.mpr ⟨ti_1 (List.mem_of_getElem? (i := 127) rfl), rfl⟩
theorem w_128 : Cond.laysFinal RX1 "PatternMatcher$Program" "nodes" "[LPatternMatcher$Node;" ∈ aW := aw_t (ti_1 (List.mem_of_getElem? (i := 128) rfl)) rfl
theorem w_130 : Cond.lays RX1 "PatternMatcher$Program" "count" "I" ∈ aW := aw_t (ti_1 (List.mem_of_getElem? (i := 130) rfl)) rfl
theorem w_132 : Cond.lays RX1 "PatternMatcher$Program" "first" "I" ∈ aW := aw_t (ti_1 (List.mem_of_getElem? (i := 132) rfl)) rfl
theorem w_134 : Cond.lays RX1 "PatternMatcher$Program" "groups" "I" ∈ aW := aw_t (ti_1 (List.mem_of_getElem? (i := 134) rfl)) rfl
theorem w_136 : Cond.lays RX1 "PatternMatcher$Program" "asked" "J" ∈ aW := aw_t (ti_1 (List.mem_of_getElem? (i := 136) rfl)) rfl
theorem w_139 : Cond.fieldLink RX4 27 "PatternMatcher$Search" "waitingAt" "[I" ∈ aW := aw_t (ti_1 (List.mem_of_getElem? (i := 139) rfl)) rfl
theorem w_140 : Cond.fieldLink RX4 31 "PatternMatcher$Search" "waitingSpans" "[J" ∈ aW := aw_t (ti_1 (List.mem_of_getElem? (i := 140) rfl)) rfl
theorem w_141 : Cond.fieldLink RX4 48 "PatternMatcher$Search" "waiting" "I" ∈ aW := aw_t (ti_1 (List.mem_of_getElem? (i := 141) rfl)) rfl
theorem w_142 : Cond.fieldLink RX4 35 "PatternMatcher$Search" "seenWhere" "[J" ∈ aW := aw_t (ti_1 (List.mem_of_getElem? (i := 142) rfl)) rfl
theorem w_143 : Cond.fieldLink RX4 38 "PatternMatcher$Search" "seenSpans" "[J" ∈ aW := aw_t (ti_1 (List.mem_of_getElem? (i := 143) rfl)) rfl
theorem w_144 : Cond.fieldLink RX4 41 "PatternMatcher$Search" "open" "[I" ∈ aW := aw_t (ti_1 (List.mem_of_getElem? (i := 144) rfl)) rfl
theorem w_145 : Cond.fieldLink RX4 44 "PatternMatcher$Search" "searches" "I" ∈ aW := aw_t (ti_1 (List.mem_of_getElem? (i := 145) rfl)) rfl
theorem w_146 : Cond.fieldLink RX4 14 "PatternMatcher$Search" "text" "LPatternMatcher$Row;" ∈ aW := aw_t (ti_1 (List.mem_of_getElem? (i := 146) rfl)) rfl
theorem w_147 : Cond.fieldLinkNest RX5 16 "PatternMatcher$Search" "text" "LPatternMatcher$Row;" "PatternMatcher" ∈ nxW := List.mem_filter.mpr ⟨ti_1 (List.mem_of_getElem? (i := 147) rfl), rfl⟩
theorem w_148 : Cond.fieldLink RX4 23 "PatternMatcher$Search" "program" "LPatternMatcher$Program;" ∈ aW := aw_t (ti_1 (List.mem_of_getElem? (i := 148) rfl)) rfl
theorem w_149 : Cond.fieldLinkNest RX5 73 "PatternMatcher$Search" "program" "LPatternMatcher$Program;" "PatternMatcher" ∈ nxW := List.mem_filter.mpr ⟨ti_1 (List.mem_of_getElem? (i := 149) rfl), rfl⟩
theorem w_150 : Cond.fieldLink RX4 67 "PatternMatcher$Search" "node" "I" ∈ aW := aw_t (ti_1 (List.mem_of_getElem? (i := 150) rfl)) rfl
theorem w_151 : Cond.fieldLink RX4 51 "PatternMatcher$Search" "place" "I" ∈ aW := aw_t (ti_1 (List.mem_of_getElem? (i := 151) rfl)) rfl
theorem w_152 : Cond.fieldLinkNest RX5 150 "PatternMatcher$Search" "place" "I" "PatternMatcher" ∈ nxW := List.mem_filter.mpr ⟨ti_1 (List.mem_of_getElem? (i := 152) rfl), rfl⟩
theorem w_153 : Cond.fieldLink RX4 70 "PatternMatcher$Search" "loops" "I" ∈ aW := aw_t (ti_1 (List.mem_of_getElem? (i := 153) rfl)) rfl
theorem w_154 : Cond.fieldLink RX4 56 "PatternMatcher$Search" "spans" "J" ∈ aW := aw_t (ti_1 (List.mem_of_getElem? (i := 154) rfl)) rfl
theorem w_155 : Cond.fieldLinkNest RX5 153 "PatternMatcher$Search" "spans" "J" "PatternMatcher" ∈ nxW := List.mem_filter.mpr ⟨ti_1 (List.mem_of_getElem? (i := 155) rfl), rfl⟩
theorem w_156 : Cond.laysFinal RX4 "PatternMatcher$Search" "waitingAt" "[I" ∈ aW := aw_t (ti_1 (List.mem_of_getElem? (i := 156) rfl)) rfl
theorem w_158 : Cond.laysFinal RX4 "PatternMatcher$Search" "waitingSpans" "[J" ∈ aW := aw_t (ti_1 (List.mem_of_getElem? (i := 158) rfl)) rfl
theorem w_160 : Cond.lays RX4 "PatternMatcher$Search" "waiting" "I" ∈ aW := aw_t (ti_1 (List.mem_of_getElem? (i := 160) rfl)) rfl
theorem w_162 : Cond.laysFinal RX4 "PatternMatcher$Search" "seenWhere" "[J" ∈ aW := aw_t (ti_1 (List.mem_of_getElem? (i := 162) rfl)) rfl
theorem w_164 : Cond.laysFinal RX4 "PatternMatcher$Search" "seenSpans" "[J" ∈ aW := aw_t (ti_1 (List.mem_of_getElem? (i := 164) rfl)) rfl
theorem w_166 : Cond.laysFinal RX4 "PatternMatcher$Search" "open" "[I" ∈ aW := aw_t (ti_1 (List.mem_of_getElem? (i := 166) rfl)) rfl
theorem w_168 : Cond.lays RX4 "PatternMatcher$Search" "searches" "I" ∈ aW := aw_t (ti_1 (List.mem_of_getElem? (i := 168) rfl)) rfl
theorem w_170 : Cond.laysFinal RX4 "PatternMatcher$Search" "text" "LPatternMatcher$Row;" ∈ aW := aw_t (ti_1 (List.mem_of_getElem? (i := 170) rfl)) rfl
theorem w_172 : Cond.lays RX4 "PatternMatcher$Search" "program" "LPatternMatcher$Program;" ∈ aW := aw_t (ti_1 (List.mem_of_getElem? (i := 172) rfl)) rfl
theorem w_174 : Cond.lays RX4 "PatternMatcher$Search" "node" "I" ∈ aW := aw_t (ti_1 (List.mem_of_getElem? (i := 174) rfl)) rfl
theorem w_176 : Cond.lays RX4 "PatternMatcher$Search" "place" "I" ∈ aW := aw_t (ti_1 (List.mem_of_getElem? (i := 176) rfl)) rfl
theorem w_178 : Cond.lays RX4 "PatternMatcher$Search" "loops" "I" ∈ aW := aw_t (ti_1 (List.mem_of_getElem? (i := 178) rfl)) rfl
theorem w_180 : Cond.lays RX4 "PatternMatcher$Search" "spans" "J" ∈ aW := aw_t (ti_1 (List.mem_of_getElem? (i := 180) rfl)) rfl
theorem w_183 : Cond.arrayClass .int ∈ aW := aw_t (ti_1 (List.mem_of_getElem? (i := 183) rfl)) rfl
theorem w_184 : Cond.arrayClass .long ∈ aW := aw_t (ti_1 (List.mem_of_getElem? (i := 184) rfl)) rfl
theorem w_185 : Cond.classLink RX5 21 RX3 ∈ aW := aw_t (ti_1 (List.mem_of_getElem? (i := 185) rfl)) rfl
theorem w_187 : Cond.methodLink RX5 23 yX3_init ∈ aW := aw_t (ti_1 (List.mem_of_getElem? (i := 187) rfl)) rfl
theorem w_188 : Cond.classLink RX5 30 RX1 ∈ aW := aw_t (ti_1 (List.mem_of_getElem? (i := 188) rfl)) rfl
theorem w_189 : Cond.methodLink RX5 32 yX1_init ∈ aW := aw_t (ti_1 (List.mem_of_getElem? (i := 189) rfl)) rfl
theorem w_190 : Cond.fieldLink RX5 12 "PatternMatcher" "search" "LPatternMatcher$Search;" ∈ aW := aw_t (ti_1 (List.mem_of_getElem? (i := 190) rfl)) rfl
theorem w_191 : Cond.fieldLink RX5 20 "PatternMatcher" "text" "LPatternMatcher$Row;" ∈ aW := aw_t (ti_1 (List.mem_of_getElem? (i := 191) rfl)) rfl
theorem w_192 : Cond.fieldLink RX5 26 "PatternMatcher" "rows" "[LPatternMatcher$Row;" ∈ aW := aw_t (ti_1 (List.mem_of_getElem? (i := 192) rfl)) rfl
theorem w_193 : Cond.fieldLink RX5 33 "PatternMatcher" "spare" "LPatternMatcher$Program;" ∈ aW := aw_t (ti_1 (List.mem_of_getElem? (i := 193) rfl)) rfl
theorem w_194 : Cond.fieldLink RX5 76 "PatternMatcher" "compiled" "Z" ∈ aW := aw_t (ti_1 (List.mem_of_getElem? (i := 194) rfl)) rfl
theorem w_195 : Cond.fieldLink RX5 80 "PatternMatcher" "matched" "Z" ∈ aW := aw_t (ti_1 (List.mem_of_getElem? (i := 195) rfl)) rfl
theorem w_196 : Cond.fieldLink RX5 101 "PatternMatcher" "matchFrom" "I" ∈ aW := aw_t (ti_1 (List.mem_of_getElem? (i := 196) rfl)) rfl
theorem w_197 : Cond.fieldLink RX5 124 "PatternMatcher" "matchTo" "I" ∈ aW := aw_t (ti_1 (List.mem_of_getElem? (i := 197) rfl)) rfl
theorem w_198 : Cond.fieldLink RX5 157 "PatternMatcher" "matchSpans" "J" ∈ aW := aw_t (ti_1 (List.mem_of_getElem? (i := 198) rfl)) rfl
theorem w_199 : Cond.fieldLink RX5 37 "PatternMatcher" "made" "LPatternMatcher$Row;" ∈ aW := aw_t (ti_1 (List.mem_of_getElem? (i := 199) rfl)) rfl
theorem w_200 : Cond.fieldLink RX5 40 "PatternMatcher" "pieceFrom" "[I" ∈ aW := aw_t (ti_1 (List.mem_of_getElem? (i := 200) rfl)) rfl
theorem w_201 : Cond.fieldLink RX5 44 "PatternMatcher" "pieceTo" "[I" ∈ aW := aw_t (ti_1 (List.mem_of_getElem? (i := 201) rfl)) rfl
theorem w_202 : Cond.fieldLink RX5 134 "PatternMatcher" "pieces" "I" ∈ aW := aw_t (ti_1 (List.mem_of_getElem? (i := 202) rfl)) rfl
theorem w_203 : Cond.laysFinal RX5 "PatternMatcher" "search" "LPatternMatcher$Search;" ∈ aW := aw_t (ti_1 (List.mem_of_getElem? (i := 203) rfl)) rfl
theorem w_205 : Cond.laysFinal RX5 "PatternMatcher" "text" "LPatternMatcher$Row;" ∈ aW := aw_t (ti_1 (List.mem_of_getElem? (i := 205) rfl)) rfl
theorem w_207 : Cond.laysFinal RX5 "PatternMatcher" "rows" "[LPatternMatcher$Row;" ∈ aW := aw_t (ti_1 (List.mem_of_getElem? (i := 207) rfl)) rfl
theorem w_209 : Cond.lays RX5 "PatternMatcher" "spare" "LPatternMatcher$Program;" ∈ aW := aw_t (ti_1 (List.mem_of_getElem? (i := 209) rfl)) rfl
theorem w_211 : Cond.lays RX5 "PatternMatcher" "compiled" "Z" ∈ aW := aw_t (ti_1 (List.mem_of_getElem? (i := 211) rfl)) rfl
theorem w_213 : Cond.lays RX5 "PatternMatcher" "matched" "Z" ∈ aW := aw_t (ti_1 (List.mem_of_getElem? (i := 213) rfl)) rfl
theorem w_215 : Cond.lays RX5 "PatternMatcher" "matchFrom" "I" ∈ aW := aw_t (ti_1 (List.mem_of_getElem? (i := 215) rfl)) rfl
theorem w_217 : Cond.lays RX5 "PatternMatcher" "matchTo" "I" ∈ aW := aw_t (ti_1 (List.mem_of_getElem? (i := 217) rfl)) rfl
theorem w_219 : Cond.lays RX5 "PatternMatcher" "matchSpans" "J" ∈ aW := aw_t (ti_1 (List.mem_of_getElem? (i := 219) rfl)) rfl
theorem w_221 : Cond.laysFinal RX5 "PatternMatcher" "made" "LPatternMatcher$Row;" ∈ aW := aw_t (ti_1 (List.mem_of_getElem? (i := 221) rfl)) rfl
theorem w_223 : Cond.laysFinal RX5 "PatternMatcher" "pieceFrom" "[I" ∈ aW := aw_t (ti_1 (List.mem_of_getElem? (i := 223) rfl)) rfl
theorem w_225 : Cond.laysFinal RX5 "PatternMatcher" "pieceTo" "[I" ∈ aW := aw_t (ti_1 (List.mem_of_getElem? (i := 225) rfl)) rfl
theorem w_227 : Cond.lays RX5 "PatternMatcher" "pieces" "I" ∈ aW := aw_t (ti_1 (List.mem_of_getElem? (i := 227) rfl)) rfl
theorem w_230 : Cond.methodLink RL 54 yX5_type ∈ aW := aw_t (ti_1 (List.mem_of_getElem? (i := 230) rfl)) rfl
theorem w_231 : Cond.instanceMethod yX5_type ∈ aW := aw_t (ti_1 (List.mem_of_getElem? (i := 231) rfl)) rfl
theorem w_232 : Cond.selects RX5 yX5_type yX5_type ∈ aW := aw_t (ti_1 (List.mem_of_getElem? (i := 232) rfl)) rfl
theorem w_233 : Cond.code yX5_type cX5_type 3 (some .boolean) ∈ aW := aw_t (ti_1 (List.mem_of_getElem? (i := 233) rfl)) rfl
theorem w_234 : Cond.methodLink RX5 47 yX5_isRow ∈ aW := aw_t (ti_1 (List.mem_of_getElem? (i := 234) rfl)) rfl
theorem w_235 : Cond.static yX5_isRow ∈ aW := aw_t (ti_1 (List.mem_of_getElem? (i := 235) rfl)) rfl
theorem w_236 : Cond.code yX5_isRow cX5_isRow 1 (some .boolean) ∈ aW := aw_t (ti_1 (List.mem_of_getElem? (i := 236) rfl)) rfl
theorem w_237 : Cond.methodLink RX5 51 yX3_add ∈ aW := aw_t (ti_1 (List.mem_of_getElem? (i := 237) rfl)) rfl
theorem w_238 : Cond.instanceMethod yX3_add ∈ aW := aw_t (ti_1 (List.mem_of_getElem? (i := 238) rfl)) rfl
theorem w_239 : Cond.selects RX3 yX3_add yX3_add ∈ aW := aw_t (ti_1 (List.mem_of_getElem? (i := 239) rfl)) rfl
theorem w_240 : Cond.code yX3_add cX3_add 2 (some .boolean) ∈ aW := aw_t (ti_2 (List.mem_of_getElem? (i := 0) rfl)) rfl
theorem w_241 : Cond.methodLink RX5 55 yX5_forgetMatchIfText ∈ aW := aw_t (ti_2 (List.mem_of_getElem? (i := 1) rfl)) rfl
theorem w_243 : Cond.instanceMethod yX5_forgetMatchIfText ∈ aW := aw_t (ti_2 (List.mem_of_getElem? (i := 3) rfl)) rfl
theorem w_244 : Cond.code yX5_forgetMatchIfText cX5_forgetMatchIfText 2 none ∈ aW := aw_t (ti_2 (List.mem_of_getElem? (i := 4) rfl)) rfl
theorem w_245 : Cond.methodLink RL 59 yX5_clear ∈ aW := aw_t (ti_2 (List.mem_of_getElem? (i := 5) rfl)) rfl
theorem w_246 : Cond.instanceMethod yX5_clear ∈ aW := aw_t (ti_2 (List.mem_of_getElem? (i := 6) rfl)) rfl
theorem w_247 : Cond.selects RX5 yX5_clear yX5_clear ∈ aW := aw_t (ti_2 (List.mem_of_getElem? (i := 7) rfl)) rfl
theorem w_248 : Cond.code yX5_clear cX5_clear 2 (some .boolean) ∈ aW := aw_t (ti_2 (List.mem_of_getElem? (i := 8) rfl)) rfl
theorem w_249 : Cond.methodLink RX5 58 yX3_empty ∈ aW := aw_t (ti_2 (List.mem_of_getElem? (i := 9) rfl)) rfl
theorem w_250 : Cond.instanceMethod yX3_empty ∈ aW := aw_t (ti_2 (List.mem_of_getElem? (i := 10) rfl)) rfl
theorem w_251 : Cond.selects RX3 yX3_empty yX3_empty ∈ aW := aw_t (ti_2 (List.mem_of_getElem? (i := 11) rfl)) rfl
theorem w_252 : Cond.code yX3_empty cX3_empty 1 none ∈ aW := aw_t (ti_2 (List.mem_of_getElem? (i := 12) rfl)) rfl
theorem w_253 : Cond.methodLink RL 102 yX5_length ∈ aW := aw_t (ti_2 (List.mem_of_getElem? (i := 13) rfl)) rfl
theorem w_254 : Cond.instanceMethod yX5_length ∈ aW := aw_t (ti_2 (List.mem_of_getElem? (i := 14) rfl)) rfl
theorem w_255 : Cond.selects RX5 yX5_length yX5_length ∈ aW := aw_t (ti_2 (List.mem_of_getElem? (i := 15) rfl)) rfl
theorem w_256 : Cond.code yX5_length cX5_length 2 (some .int) ∈ aW := aw_t (ti_2 (List.mem_of_getElem? (i := 16) rfl)) rfl
theorem w_257 : Cond.methodLink RX5 90 yX3_size ∈ aW := aw_t (ti_2 (List.mem_of_getElem? (i := 17) rfl)) rfl
theorem w_258 : Cond.instanceMethod yX3_size ∈ aW := aw_t (ti_2 (List.mem_of_getElem? (i := 18) rfl)) rfl
theorem w_259 : Cond.selects RX3 yX3_size yX3_size ∈ aW := aw_t (ti_2 (List.mem_of_getElem? (i := 19) rfl)) rfl
theorem w_260 : Cond.code yX3_size cX3_size 1 (some .int) ∈ aW := aw_t (ti_2 (List.mem_of_getElem? (i := 20) rfl)) rfl
theorem w_261 : Cond.methodLink RL 64 yL_compile ∈ aW := aw_t (ti_2 (List.mem_of_getElem? (i := 21) rfl)) rfl
theorem w_262 : Cond.static yL_compile ∈ aW := aw_t (ti_2 (List.mem_of_getElem? (i := 22) rfl)) rfl
theorem w_263 : Cond.codeWith yL_compile cL_compile 3 (some .int) [(0, 8, 11, 13)] ∈ aW := aw_t (ti_2 (List.mem_of_getElem? (i := 23) rfl)) rfl
theorem w_264 : Cond.classLink RL 13 "java/lang/IllegalArgumentException" ∈ aW := aw_t (ti_2 (List.mem_of_getElem? (i := 24) rfl)) rfl
theorem w_265 : Cond.methodLink RL 7 yX5_compile ∈ aW := aw_t (ti_2 (List.mem_of_getElem? (i := 25) rfl)) rfl
theorem w_266 : Cond.instanceMethod yX5_compile ∈ aW := aw_t (ti_2 (List.mem_of_getElem? (i := 26) rfl)) rfl
theorem w_267 : Cond.selects RX5 yX5_compile yX5_compile ∈ aW := aw_t (ti_2 (List.mem_of_getElem? (i := 27) rfl)) rfl
theorem w_268 : Cond.code yX5_compile cX5_compile 2 (some .int) ∈ aW := aw_t (ti_2 (List.mem_of_getElem? (i := 28) rfl)) rfl
theorem w_269 : Cond.classLink RX5 61 RX2 ∈ aW := aw_t (ti_2 (List.mem_of_getElem? (i := 29) rfl)) rfl
theorem w_270 : Cond.instantiable RX2 10 ∈ aW := aw_t (ti_2 (List.mem_of_getElem? (i := 30) rfl)) rfl
theorem w_271 : Cond.methodLink RX5 63 yX2_init ∈ aW := aw_t (ti_2 (List.mem_of_getElem? (i := 31) rfl)) rfl
theorem w_272 : Cond.instanceMethod yX2_init ∈ aW := aw_t (ti_2 (List.mem_of_getElem? (i := 32) rfl)) rfl
theorem w_273 : Cond.code yX2_init cX2_init 3 none ∈ aW := aw_t (ti_2 (List.mem_of_getElem? (i := 33) rfl)) rfl
theorem w_274 : Cond.methodLink RX2 3 objectInit ∈ aW := aw_t (ti_2 (List.mem_of_getElem? (i := 34) rfl)) rfl
theorem w_275 : Cond.fieldLink RX2 9 "PatternMatcher$Reader" "row" "LPatternMatcher$Row;" ∈ aW := aw_t (ti_2 (List.mem_of_getElem? (i := 35) rfl)) rfl
theorem w_276 : Cond.fieldLink RX2 15 "PatternMatcher$Reader" "program" "LPatternMatcher$Program;" ∈ aW := aw_t (ti_2 (List.mem_of_getElem? (i := 36) rfl)) rfl
theorem w_277 : Cond.fieldLink RX2 40 "PatternMatcher$Reader" "at" "I" ∈ aW := aw_t (ti_2 (List.mem_of_getElem? (i := 37) rfl)) rfl
theorem w_278 : Cond.fieldLink RX2 36 "PatternMatcher$Reader" "bad" "Z" ∈ aW := aw_t (ti_2 (List.mem_of_getElem? (i := 38) rfl)) rfl
theorem w_279 : Cond.fieldLink RX2 107 "PatternMatcher$Reader" "behinds" "I" ∈ aW := aw_t (ti_2 (List.mem_of_getElem? (i := 39) rfl)) rfl
theorem w_280 : Cond.fieldLink RX2 74 "PatternMatcher$Reader" "tail" "I" ∈ aW := aw_t (ti_2 (List.mem_of_getElem? (i := 40) rfl)) rfl
theorem w_281 : Cond.fieldLink RX2 168 "PatternMatcher$Reader" "low" "J" ∈ aW := aw_t (ti_2 (List.mem_of_getElem? (i := 41) rfl)) rfl
theorem w_282 : Cond.fieldLink RX2 171 "PatternMatcher$Reader" "high" "J" ∈ aW := aw_t (ti_2 (List.mem_of_getElem? (i := 42) rfl)) rfl
theorem w_283 : Cond.fieldLink RX2 86 "PatternMatcher$Reader" "least" "I" ∈ aW := aw_t (ti_2 (List.mem_of_getElem? (i := 43) rfl)) rfl
theorem w_284 : Cond.fieldLink RX2 90 "PatternMatcher$Reader" "most" "I" ∈ aW := aw_t (ti_2 (List.mem_of_getElem? (i := 44) rfl)) rfl
theorem w_285 : Cond.laysFinal RX2 "PatternMatcher$Reader" "row" "LPatternMatcher$Row;" ∈ aW := aw_t (ti_2 (List.mem_of_getElem? (i := 45) rfl)) rfl
theorem w_287 : Cond.laysFinal RX2 "PatternMatcher$Reader" "program" "LPatternMatcher$Program;" ∈ aW := aw_t (ti_2 (List.mem_of_getElem? (i := 47) rfl)) rfl
theorem w_289 : Cond.lays RX2 "PatternMatcher$Reader" "at" "I" ∈ aW := aw_t (ti_2 (List.mem_of_getElem? (i := 49) rfl)) rfl
theorem w_291 : Cond.lays RX2 "PatternMatcher$Reader" "bad" "Z" ∈ aW := aw_t (ti_2 (List.mem_of_getElem? (i := 51) rfl)) rfl
theorem w_293 : Cond.lays RX2 "PatternMatcher$Reader" "behinds" "I" ∈ aW := aw_t (ti_2 (List.mem_of_getElem? (i := 53) rfl)) rfl
theorem w_295 : Cond.lays RX2 "PatternMatcher$Reader" "tail" "I" ∈ aW := aw_t (ti_2 (List.mem_of_getElem? (i := 55) rfl)) rfl
theorem w_297 : Cond.lays RX2 "PatternMatcher$Reader" "low" "J" ∈ aW := aw_t (ti_2 (List.mem_of_getElem? (i := 57) rfl)) rfl
theorem w_299 : Cond.lays RX2 "PatternMatcher$Reader" "high" "J" ∈ aW := aw_t (ti_2 (List.mem_of_getElem? (i := 59) rfl)) rfl
theorem w_301 : Cond.lays RX2 "PatternMatcher$Reader" "least" "I" ∈ aW := aw_t (ti_2 (List.mem_of_getElem? (i := 61) rfl)) rfl
theorem w_303 : Cond.lays RX2 "PatternMatcher$Reader" "most" "I" ∈ aW := aw_t (ti_2 (List.mem_of_getElem? (i := 63) rfl)) rfl
theorem w_306 : Cond.methodLink RX5 66 yX2_readPattern ∈ aW := aw_t (ti_2 (List.mem_of_getElem? (i := 66) rfl)) rfl
theorem w_307 : Cond.instanceMethod yX2_readPattern ∈ aW := aw_t (ti_2 (List.mem_of_getElem? (i := 67) rfl)) rfl
theorem w_308 : Cond.selects RX2 yX2_readPattern yX2_readPattern ∈ aW := aw_t (ti_2 (List.mem_of_getElem? (i := 68) rfl)) rfl
theorem w_309 : Cond.code yX2_readPattern cX2_readPattern 1 (some .boolean) ∈ aW := aw_t (ti_2 (List.mem_of_getElem? (i := 69) rfl)) rfl
theorem w_310 : Cond.methodLink RX2 19 yX1_restart ∈ aW := aw_t (ti_2 (List.mem_of_getElem? (i := 70) rfl)) rfl
theorem w_311 : Cond.instanceMethod yX1_restart ∈ aW := aw_t (ti_2 (List.mem_of_getElem? (i := 71) rfl)) rfl
theorem w_312 : Cond.selects RX1 yX1_restart yX1_restart ∈ aW := aw_t (ti_2 (List.mem_of_getElem? (i := 72) rfl)) rfl
theorem w_313 : Cond.code yX1_restart cX1_restart 1 none ∈ aW := aw_t (ti_2 (List.mem_of_getElem? (i := 73) rfl)) rfl
theorem w_314 : Cond.methodLink RX2 24 yX2_add ∈ aW := aw_t (ti_2 (List.mem_of_getElem? (i := 74) rfl)) rfl
theorem w_316 : Cond.instanceMethod yX2_add ∈ aW := aw_t (ti_2 (List.mem_of_getElem? (i := 76) rfl)) rfl
theorem w_317 : Cond.code yX2_add cX2_add 3 (some .int) ∈ aW := aw_t (ti_2 (List.mem_of_getElem? (i := 77) rfl)) rfl
theorem w_318 : Cond.methodLink RX2 208 yX1_add ∈ aW := aw_t (ti_2 (List.mem_of_getElem? (i := 78) rfl)) rfl
theorem w_319 : Cond.instanceMethod yX1_add ∈ aW := aw_t (ti_2 (List.mem_of_getElem? (i := 79) rfl)) rfl
theorem w_320 : Cond.selects RX1 yX1_add yX1_add ∈ aW := aw_t (ti_2 (List.mem_of_getElem? (i := 80) rfl)) rfl
theorem w_321 : Cond.code yX1_add cX1_add 3 (some .int) ∈ aW := aw_t (ti_2 (List.mem_of_getElem? (i := 81) rfl)) rfl
theorem w_322 : Cond.methodLink RX2 28 yX2_choice ∈ aW := aw_t (ti_2 (List.mem_of_getElem? (i := 82) rfl)) rfl
theorem w_324 : Cond.instanceMethod yX2_choice ∈ aW := aw_t (ti_2 (List.mem_of_getElem? (i := 84) rfl)) rfl
theorem w_325 : Cond.code yX2_choice cX2_choice 7 (some .int) ∈ aW := aw_t (ti_2 (List.mem_of_getElem? (i := 85) rfl)) rfl
theorem w_326 : Cond.methodLink RX2 49 yX2_sequence ∈ aW := aw_t (ti_2 (List.mem_of_getElem? (i := 86) rfl)) rfl
theorem w_328 : Cond.instanceMethod yX2_sequence ∈ aW := aw_t (ti_2 (List.mem_of_getElem? (i := 88) rfl)) rfl
theorem w_329 : Cond.code yX2_sequence cX2_sequence 6 (some .int) ∈ aW := aw_t (ti_2 (List.mem_of_getElem? (i := 89) rfl)) rfl
theorem w_330 : Cond.methodLink RX2 64 yX2_isSequenceOver ∈ aW := aw_t (ti_2 (List.mem_of_getElem? (i := 90) rfl)) rfl
theorem w_332 : Cond.instanceMethod yX2_isSequenceOver ∈ aW := aw_t (ti_2 (List.mem_of_getElem? (i := 92) rfl)) rfl
theorem w_333 : Cond.code yX2_isSequenceOver cX2_isSequenceOver 1 (some .boolean) ∈ aW := aw_t (ti_2 (List.mem_of_getElem? (i := 93) rfl)) rfl
theorem w_334 : Cond.methodLink RX2 43 yX3_size ∈ aW := aw_t (ti_2 (List.mem_of_getElem? (i := 94) rfl)) rfl
theorem w_335 : Cond.methodLink RX2 52 yX3_at ∈ aW := aw_t (ti_2 (List.mem_of_getElem? (i := 95) rfl)) rfl
theorem w_336 : Cond.instanceMethod yX3_at ∈ aW := aw_t (ti_2 (List.mem_of_getElem? (i := 96) rfl)) rfl
theorem w_337 : Cond.selects RX3 yX3_at yX3_at ∈ aW := aw_t (ti_2 (List.mem_of_getElem? (i := 97) rfl)) rfl
theorem w_338 : Cond.code yX3_at cX3_at 2 (some .char) ∈ aW := aw_t (ti_2 (List.mem_of_getElem? (i := 98) rfl)) rfl
theorem w_339 : Cond.methodLink RX2 55 yX1_node ∈ aW := aw_t (ti_2 (List.mem_of_getElem? (i := 99) rfl)) rfl
theorem w_340 : Cond.instanceMethod yX1_node ∈ aW := aw_t (ti_2 (List.mem_of_getElem? (i := 100) rfl)) rfl
theorem w_341 : Cond.selects RX1 yX1_node yX1_node ∈ aW := aw_t (ti_2 (List.mem_of_getElem? (i := 101) rfl)) rfl
theorem w_342 : Cond.code yX1_node cX1_node 2 (some (.object "PatternMatcher$Node")) ∈ aW := aw_t (ti_2 (List.mem_of_getElem? (i := 102) rfl)) rfl
theorem w_343 : Cond.methodLink RX2 68 yX2_onePiece ∈ aW := aw_t (ti_2 (List.mem_of_getElem? (i := 103) rfl)) rfl
theorem w_345 : Cond.instanceMethod yX2_onePiece ∈ aW := aw_t (ti_2 (List.mem_of_getElem? (i := 105) rfl)) rfl
theorem w_346 : Cond.code yX2_onePiece cX2_onePiece 6 (some .int) ∈ aW := aw_t (ti_2 (List.mem_of_getElem? (i := 106) rfl)) rfl
theorem w_347 : Cond.methodLink RX2 77 yX2_atom ∈ aW := aw_t (ti_2 (List.mem_of_getElem? (i := 107) rfl)) rfl
theorem w_349 : Cond.instanceMethod yX2_atom ∈ aW := aw_t (ti_2 (List.mem_of_getElem? (i := 109) rfl)) rfl
theorem w_350 : Cond.code yX2_atom cX2_atom 3 (some .int) ∈ aW := aw_t (ti_2 (List.mem_of_getElem? (i := 110) rfl)) rfl
theorem w_351 : Cond.methodLink RX2 117 yX2_bracket ∈ aW := aw_t (ti_2 (List.mem_of_getElem? (i := 111) rfl)) rfl
theorem w_353 : Cond.instanceMethod yX2_bracket ∈ aW := aw_t (ti_2 (List.mem_of_getElem? (i := 113) rfl)) rfl
theorem w_354 : Cond.code yX2_bracket cX2_bracket 2 (some .int) ∈ aW := aw_t (ti_2 (List.mem_of_getElem? (i := 114) rfl)) rfl
theorem w_355 : Cond.methodLink RX2 142 yX2_refuse ∈ aW := aw_t (ti_2 (List.mem_of_getElem? (i := 115) rfl)) rfl
theorem w_357 : Cond.instanceMethod yX2_refuse ∈ aW := aw_t (ti_2 (List.mem_of_getElem? (i := 117) rfl)) rfl
theorem w_358 : Cond.code yX2_refuse cX2_refuse 1 (some .int) ∈ aW := aw_t (ti_2 (List.mem_of_getElem? (i := 118) rfl)) rfl
theorem w_359 : Cond.methodLink RX2 94 yX2_take ∈ aW := aw_t (ti_2 (List.mem_of_getElem? (i := 119) rfl)) rfl
theorem w_361 : Cond.instanceMethod yX2_take ∈ aW := aw_t (ti_2 (List.mem_of_getElem? (i := 121) rfl)) rfl
theorem w_362 : Cond.code yX2_take cX2_take 3 (some .boolean) ∈ aW := aw_t (ti_2 (List.mem_of_getElem? (i := 122) rfl)) rfl
theorem w_363 : Cond.methodLink RX2 189 yX2_group ∈ aW := aw_t (ti_2 (List.mem_of_getElem? (i := 123) rfl)) rfl
theorem w_365 : Cond.instanceMethod yX2_group ∈ aW := aw_t (ti_2 (List.mem_of_getElem? (i := 125) rfl)) rfl
theorem w_366 : Cond.code yX2_group cX2_group 4 (some .int) ∈ aW := aw_t (ti_2 (List.mem_of_getElem? (i := 126) rfl)) rfl
theorem w_367 : Cond.methodLink RX2 194 yX2_closedChoice ∈ aW := aw_t (ti_2 (List.mem_of_getElem? (i := 127) rfl)) rfl
theorem w_369 : Cond.instanceMethod yX2_closedChoice ∈ aW := aw_t (ti_2 (List.mem_of_getElem? (i := 129) rfl)) rfl
theorem w_370 : Cond.code yX2_closedChoice cX2_closedChoice 4 (some .int) ∈ aW := aw_t (ti_2 (List.mem_of_getElem? (i := 130) rfl)) rfl
theorem w_371 : Cond.methodLink RX2 113 yX2_expect ∈ aW := aw_t (ti_2 (List.mem_of_getElem? (i := 131) rfl)) rfl
theorem w_373 : Cond.instanceMethod yX2_expect ∈ aW := aw_t (ti_2 (List.mem_of_getElem? (i := 133) rfl)) rfl
theorem w_374 : Cond.code yX2_expect cX2_expect 2 none ∈ aW := aw_t (ti_2 (List.mem_of_getElem? (i := 134) rfl)) rfl
theorem w_375 : Cond.methodLink RX2 191 yX2_together ∈ aW := aw_t (ti_2 (List.mem_of_getElem? (i := 135) rfl)) rfl
theorem w_377 : Cond.instanceMethod yX2_together ∈ aW := aw_t (ti_2 (List.mem_of_getElem? (i := 137) rfl)) rfl
theorem w_378 : Cond.code yX2_together cX2_together 4 (some .int) ∈ aW := aw_t (ti_2 (List.mem_of_getElem? (i := 138) rfl)) rfl
theorem w_379 : Cond.methodLink RX2 101 yX2_withBody ∈ aW := aw_t (ti_2 (List.mem_of_getElem? (i := 139) rfl)) rfl
theorem w_381 : Cond.instanceMethod yX2_withBody ∈ aW := aw_t (ti_2 (List.mem_of_getElem? (i := 141) rfl)) rfl
theorem w_382 : Cond.code yX2_withBody cX2_withBody 4 (some .int) ∈ aW := aw_t (ti_2 (List.mem_of_getElem? (i := 142) rfl)) rfl
theorem w_383 : Cond.methodLink RX2 132 yX2_single ∈ aW := aw_t (ti_2 (List.mem_of_getElem? (i := 143) rfl)) rfl
theorem w_385 : Cond.instanceMethod yX2_single ∈ aW := aw_t (ti_2 (List.mem_of_getElem? (i := 145) rfl)) rfl
theorem w_386 : Cond.code yX2_single cX2_single 2 (some .int) ∈ aW := aw_t (ti_2 (List.mem_of_getElem? (i := 146) rfl)) rfl
theorem w_387 : Cond.methodLink RX2 197 yX2_look ∈ aW := aw_t (ti_2 (List.mem_of_getElem? (i := 147) rfl)) rfl
theorem w_389 : Cond.instanceMethod yX2_look ∈ aW := aw_t (ti_2 (List.mem_of_getElem? (i := 149) rfl)) rfl
theorem w_390 : Cond.code yX2_look cX2_look 5 (some .int) ∈ aW := aw_t (ti_2 (List.mem_of_getElem? (i := 150) rfl)) rfl
theorem w_391 : Cond.methodLink RX2 120 yX2_items ∈ aW := aw_t (ti_2 (List.mem_of_getElem? (i := 151) rfl)) rfl
theorem w_393 : Cond.instanceMethod yX2_items ∈ aW := aw_t (ti_2 (List.mem_of_getElem? (i := 153) rfl)) rfl
theorem w_394 : Cond.code yX2_items cX2_items 3 (some .int) ∈ aW := aw_t (ti_2 (List.mem_of_getElem? (i := 154) rfl)) rfl
theorem w_395 : Cond.methodLink RX2 174 yX2_item ∈ aW := aw_t (ti_2 (List.mem_of_getElem? (i := 155) rfl)) rfl
theorem w_397 : Cond.instanceMethod yX2_item ∈ aW := aw_t (ti_2 (List.mem_of_getElem? (i := 157) rfl)) rfl
theorem w_398 : Cond.code yX2_item cX2_item 4 none ∈ aW := aw_t (ti_2 (List.mem_of_getElem? (i := 158) rfl)) rfl
theorem w_399 : Cond.methodLink RX2 177 yX2_escapedItem ∈ aW := aw_t (ti_2 (List.mem_of_getElem? (i := 159) rfl)) rfl
theorem w_401 : Cond.instanceMethod yX2_escapedItem ∈ aW := aw_t (ti_2 (List.mem_of_getElem? (i := 161) rfl)) rfl
theorem w_402 : Cond.code yX2_escapedItem cX2_escapedItem 2 none ∈ aW := aw_t (ti_2 (List.mem_of_getElem? (i := 162) rfl)) rfl
theorem w_403 : Cond.constantLong RX2 149 287948901175001088 ∈ aW := aw_t (ti_2 (List.mem_of_getElem? (i := 163) rfl)) rfl
theorem w_404 : Cond.constantLong RX2 151 576460745995190270 ∈ aW := aw_t (ti_2 (List.mem_of_getElem? (i := 164) rfl)) rfl
theorem w_406 : Cond.methodLink RX2 137 ⟨"java/lang/String", "indexOf", "(I)I"⟩ ∈ aW := aw_t (ti_2 (List.mem_of_getElem? (i := 166) rfl)) rfl
theorem w_407 : Cond.instanceMethod ⟨"java/lang/String", "indexOf", "(I)I"⟩ ∈ aW := aw_t (ti_2 (List.mem_of_getElem? (i := 167) rfl)) rfl
theorem w_408 : Cond.selects "java/lang/String" ⟨"java/lang/String", "indexOf", "(I)I"⟩ ⟨"java/lang/String", "indexOf", "(I)I"⟩ ∈ aW := aw_t (ti_2 (List.mem_of_getElem? (i := 168) rfl)) rfl
theorem w_409 : Cond.code ⟨"java/lang/String", "indexOf", "(I)I"⟩ prog_16_method_79_code 2 (some .int) ∈ aW := aw_t (ti_2 (List.mem_of_getElem? (i := 169) rfl)) rfl
theorem w_410 : Cond.methodLink "java/lang/String" 633 ⟨"java/lang/String", "indexOf", "(II)I"⟩ ∈ aW := aw_t (ti_2 (List.mem_of_getElem? (i := 170) rfl)) rfl
theorem w_411 : Cond.instanceMethod ⟨"java/lang/String", "indexOf", "(II)I"⟩ ∈ aW := aw_t (ti_2 (List.mem_of_getElem? (i := 171) rfl)) rfl
theorem w_412 : Cond.selects "java/lang/String" ⟨"java/lang/String", "indexOf", "(II)I"⟩ ⟨"java/lang/String", "indexOf", "(II)I"⟩ ∈ aW := aw_t (ti_2 (List.mem_of_getElem? (i := 172) rfl)) rfl
theorem w_413 : Cond.code ⟨"java/lang/String", "indexOf", "(II)I"⟩ prog_16_method_80_code 3 (some .int) ∈ aW := aw_t (ti_2 (List.mem_of_getElem? (i := 173) rfl)) rfl
theorem w_414 : Cond.methodLink "java/lang/String" 492 ⟨"java/lang/String", "isLatin1", "()Z"⟩ ∈ aW := aw_t (ti_2 (List.mem_of_getElem? (i := 174) rfl)) rfl
theorem w_415 : Cond.instanceMethod ⟨"java/lang/String", "isLatin1", "()Z"⟩ ∈ aW := aw_t (ti_2 (List.mem_of_getElem? (i := 175) rfl)) rfl
theorem w_416 : Cond.selects "java/lang/String" ⟨"java/lang/String", "isLatin1", "()Z"⟩ ⟨"java/lang/String", "isLatin1", "()Z"⟩ ∈ aW := aw_t (ti_2 (List.mem_of_getElem? (i := 176) rfl)) rfl
theorem w_417 : Cond.code ⟨"java/lang/String", "isLatin1", "()Z"⟩ prog_16_method_154_code 1 (some .boolean) ∈ aW := aw_t (ti_2 (List.mem_of_getElem? (i := 177) rfl)) rfl
theorem w_418 : Cond.fieldLink "java/lang/String" 38 "java/lang/String" "COMPACT_STRINGS" "Z" ∈ aW := aw_t (ti_2 (List.mem_of_getElem? (i := 178) rfl)) rfl
theorem w_420 : Cond.methodLink "java/lang/String" 505 ⟨"java/lang/String", "length", "()I"⟩ ∈ aW := aw_t (ti_2 (List.mem_of_getElem? (i := 180) rfl)) rfl
theorem w_421 : Cond.instanceMethod ⟨"java/lang/String", "length", "()I"⟩ ∈ aW := aw_t (ti_2 (List.mem_of_getElem? (i := 181) rfl)) rfl
theorem w_422 : Cond.selects "java/lang/String" ⟨"java/lang/String", "length", "()I"⟩ ⟨"java/lang/String", "length", "()I"⟩ ∈ aW := aw_t (ti_2 (List.mem_of_getElem? (i := 182) rfl)) rfl
theorem w_423 : Cond.code ⟨"java/lang/String", "length", "()I"⟩ prog_16_method_54_code 1 (some .int) ∈ aW := aw_t (ti_2 (List.mem_of_getElem? (i := 183) rfl)) rfl
theorem w_424 : Cond.methodLink "java/lang/String" 335 ⟨"java/lang/String", "coder", "()B"⟩ ∈ aW := aw_t (ti_2 (List.mem_of_getElem? (i := 184) rfl)) rfl
theorem w_425 : Cond.instanceMethod ⟨"java/lang/String", "coder", "()B"⟩ ∈ aW := aw_t (ti_2 (List.mem_of_getElem? (i := 185) rfl)) rfl
theorem w_426 : Cond.selects "java/lang/String" ⟨"java/lang/String", "coder", "()B"⟩ ⟨"java/lang/String", "coder", "()B"⟩ ∈ aW := aw_t (ti_2 (List.mem_of_getElem? (i := 186) rfl)) rfl
theorem w_427 : Cond.code ⟨"java/lang/String", "coder", "()B"⟩ prog_16_method_152_code 1 (some .byte) ∈ aW := aw_t (ti_2 (List.mem_of_getElem? (i := 187) rfl)) rfl
theorem w_428 : Cond.methodLink "java/lang/String" 637 ⟨"java/lang/StringLatin1", "indexOf", "([BIII)I"⟩ ∈ aW := aw_t (ti_2 (List.mem_of_getElem? (i := 188) rfl)) rfl
theorem w_429 : Cond.static ⟨"java/lang/StringLatin1", "indexOf", "([BIII)I"⟩ ∈ aW := aw_t (ti_2 (List.mem_of_getElem? (i := 189) rfl)) rfl
theorem w_430 : Cond.code ⟨"java/lang/StringLatin1", "indexOf", "([BIII)I"⟩ prog_17_method_22_code 4 (some .int) ∈ aW := aw_t (ti_2 (List.mem_of_getElem? (i := 190) rfl)) rfl
theorem w_431 : Cond.methodLink "java/lang/StringLatin1" 88 ⟨"java/lang/StringLatin1", "canEncode", "(I)Z"⟩ ∈ aW := aw_t (ti_2 (List.mem_of_getElem? (i := 191) rfl)) rfl
theorem w_432 : Cond.static ⟨"java/lang/StringLatin1", "canEncode", "(I)Z"⟩ ∈ aW := aw_t (ti_2 (List.mem_of_getElem? (i := 192) rfl)) rfl
theorem w_433 : Cond.code ⟨"java/lang/StringLatin1", "canEncode", "(I)Z"⟩ prog_17_method_4_code 1 (some .boolean) ∈ aW := aw_t (ti_2 (List.mem_of_getElem? (i := 193) rfl)) rfl
theorem w_434 : Cond.methodLink "java/lang/StringLatin1" 92 ⟨"java/lang/Math", "max", "(II)I"⟩ ∈ aW := aw_t (ti_2 (List.mem_of_getElem? (i := 194) rfl)) rfl
theorem w_435 : Cond.static ⟨"java/lang/Math", "max", "(II)I"⟩ ∈ aW := aw_t (ti_2 (List.mem_of_getElem? (i := 195) rfl)) rfl
theorem w_436 : Cond.code ⟨"java/lang/Math", "max", "(II)I"⟩ prog_14_method_65_code 2 (some .int) ∈ aW := aw_t (ti_2 (List.mem_of_getElem? (i := 196) rfl)) rfl
theorem w_437 : Cond.methodLink "java/lang/StringLatin1" 38 ⟨"java/lang/Math", "min", "(II)I"⟩ ∈ aW := aw_t (ti_2 (List.mem_of_getElem? (i := 197) rfl)) rfl
theorem w_438 : Cond.static ⟨"java/lang/Math", "min", "(II)I"⟩ ∈ aW := aw_t (ti_2 (List.mem_of_getElem? (i := 198) rfl)) rfl
theorem w_439 : Cond.code ⟨"java/lang/Math", "min", "(II)I"⟩ prog_14_method_69_code 2 (some .int) ∈ aW := aw_t (ti_2 (List.mem_of_getElem? (i := 199) rfl)) rfl
theorem w_440 : Cond.methodLink "java/lang/StringLatin1" 95 ⟨"java/lang/StringLatin1", "indexOfChar", "([BIII)I"⟩ ∈ aW := aw_t (ti_2 (List.mem_of_getElem? (i := 200) rfl)) rfl
theorem w_441 : Cond.static ⟨"java/lang/StringLatin1", "indexOfChar", "([BIII)I"⟩ ∈ aW := aw_t (ti_2 (List.mem_of_getElem? (i := 201) rfl)) rfl
theorem w_442 : Cond.code ⟨"java/lang/StringLatin1", "indexOfChar", "([BIII)I"⟩ prog_17_method_23_code 6 (some .int) ∈ aW := aw_t (ti_2 (List.mem_of_getElem? (i := 202) rfl)) rfl
theorem w_443 : Cond.methodLink "java/lang/String" 640 ⟨"java/lang/StringUTF16", "indexOf", "([BIII)I"⟩ ∈ aW := aw_t (ti_2 (List.mem_of_getElem? (i := 203) rfl)) rfl
theorem w_444 : Cond.static ⟨"java/lang/StringUTF16", "indexOf", "([BIII)I"⟩ ∈ aW := aw_t (ti_2 (List.mem_of_getElem? (i := 204) rfl)) rfl
theorem w_445 : Cond.code ⟨"java/lang/StringUTF16", "indexOf", "([BIII)I"⟩ prog_18_method_40_code 4 (some .int) ∈ aW := aw_t (ti_2 (List.mem_of_getElem? (i := 205) rfl)) rfl
theorem w_446 : Cond.methodLink "java/lang/StringUTF16" 224 ⟨"java/lang/Math", "max", "(II)I"⟩ ∈ aW := aw_t (ti_2 (List.mem_of_getElem? (i := 206) rfl)) rfl
theorem w_447 : Cond.methodLink "java/lang/StringUTF16" 183 ⟨"java/lang/Math", "min", "(II)I"⟩ ∈ aW := aw_t (ti_2 (List.mem_of_getElem? (i := 207) rfl)) rfl
theorem w_448 : Cond.constant "java/lang/StringUTF16" 227 65536 ∈ aW := aw_t (ti_2 (List.mem_of_getElem? (i := 208) rfl)) rfl
theorem w_449 : Cond.methodLink "java/lang/StringUTF16" 228 ⟨"java/lang/StringUTF16", "indexOfChar", "([BIII)I"⟩ ∈ aW := aw_t (ti_2 (List.mem_of_getElem? (i := 209) rfl)) rfl
theorem w_450 : Cond.static ⟨"java/lang/StringUTF16", "indexOfChar", "([BIII)I"⟩ ∈ aW := aw_t (ti_2 (List.mem_of_getElem? (i := 210) rfl)) rfl
theorem w_451 : Cond.code ⟨"java/lang/StringUTF16", "indexOfChar", "([BIII)I"⟩ prog_18_method_47_code 4 (some .int) ∈ aW := aw_t (ti_2 (List.mem_of_getElem? (i := 211) rfl)) rfl
theorem w_452 : Cond.methodLink "java/lang/StringUTF16" 96 ⟨"java/lang/StringUTF16", "checkBoundsBeginEnd", "(II[B)V"⟩ ∈ aW := aw_t (ti_2 (List.mem_of_getElem? (i := 212) rfl)) rfl
theorem w_453 : Cond.static ⟨"java/lang/StringUTF16", "checkBoundsBeginEnd", "(II[B)V"⟩ ∈ aW := aw_t (ti_2 (List.mem_of_getElem? (i := 213) rfl)) rfl
theorem w_454 : Cond.code ⟨"java/lang/StringUTF16", "checkBoundsBeginEnd", "(II[B)V"⟩ prog_18_method_93_code 3 none ∈ aW := aw_t (ti_2 (List.mem_of_getElem? (i := 214) rfl)) rfl
theorem w_455 : Cond.methodLink "java/lang/StringUTF16" 48 ⟨"java/lang/StringUTF16", "length", "([B)I"⟩ ∈ aW := aw_t (ti_2 (List.mem_of_getElem? (i := 215) rfl)) rfl
theorem w_456 : Cond.static ⟨"java/lang/StringUTF16", "length", "([B)I"⟩ ∈ aW := aw_t (ti_2 (List.mem_of_getElem? (i := 216) rfl)) rfl
theorem w_457 : Cond.code ⟨"java/lang/StringUTF16", "length", "([B)I"⟩ prog_18_method_6_code 1 (some .int) ∈ aW := aw_t (ti_2 (List.mem_of_getElem? (i := 217) rfl)) rfl
theorem w_458 : Cond.methodLink "java/lang/StringUTF16" 241 ⟨"java/lang/String", "checkBoundsBeginEnd", "(III)V"⟩ ∈ aW := aw_t (ti_2 (List.mem_of_getElem? (i := 218) rfl)) rfl
theorem w_459 : Cond.static ⟨"java/lang/String", "checkBoundsBeginEnd", "(III)V"⟩ ∈ aW := aw_t (ti_2 (List.mem_of_getElem? (i := 219) rfl)) rfl
theorem w_460 : Cond.code ⟨"java/lang/String", "checkBoundsBeginEnd", "(III)V"⟩ prog_16_method_158_code 3 none ∈ aW := aw_t (ti_2 (List.mem_of_getElem? (i := 220) rfl)) rfl
theorem w_461 : Cond.fieldLink "java/lang/String" 1053 "jdk/internal/util/Preconditions" "SIOOBE_FORMATTER" "Ljava/util/function/BiFunction;" ∈ aW := aw_t (ti_2 (List.mem_of_getElem? (i := 221) rfl)) rfl
theorem w_463 : Cond.methodLink "java/lang/String" 1062 ⟨"jdk/internal/util/Preconditions", "checkFromToIndex", "(IIILjava/util/function/BiFunction;)I"⟩ ∈ aW := aw_t (ti_2 (List.mem_of_getElem? (i := 223) rfl)) rfl
theorem w_464 : Cond.static ⟨"jdk/internal/util/Preconditions", "checkFromToIndex", "(IIILjava/util/function/BiFunction;)I"⟩ ∈ aW := aw_t (ti_2 (List.mem_of_getElem? (i := 224) rfl)) rfl
theorem w_465 : Cond.code ⟨"jdk/internal/util/Preconditions", "checkFromToIndex", "(IIILjava/util/function/BiFunction;)I"⟩ prog_20_method_12_code 4 (some .int) ∈ aW := aw_t (ti_2 (List.mem_of_getElem? (i := 225) rfl)) rfl
theorem w_466 : Cond.methodLink "java/lang/StringUTF16" 244 ⟨"java/lang/StringUTF16", "indexOfCharUnsafe", "([BIII)I"⟩ ∈ aW := aw_t (ti_2 (List.mem_of_getElem? (i := 226) rfl)) rfl
theorem w_467 : Cond.static ⟨"java/lang/StringUTF16", "indexOfCharUnsafe", "([BIII)I"⟩ ∈ aW := aw_t (ti_2 (List.mem_of_getElem? (i := 227) rfl)) rfl
theorem w_468 : Cond.code ⟨"java/lang/StringUTF16", "indexOfCharUnsafe", "([BIII)I"⟩ prog_18_method_48_code 5 (some .int) ∈ aW := aw_t (ti_2 (List.mem_of_getElem? (i := 228) rfl)) rfl
theorem w_469 : Cond.methodLink "java/lang/StringUTF16" 71 ⟨"java/lang/StringUTF16", "getChar", "([BI)C"⟩ ∈ aW := aw_t (ti_2 (List.mem_of_getElem? (i := 229) rfl)) rfl
theorem w_470 : Cond.static ⟨"java/lang/StringUTF16", "getChar", "([BI)C"⟩ ∈ aW := aw_t (ti_2 (List.mem_of_getElem? (i := 230) rfl)) rfl
theorem w_471 : Cond.code ⟨"java/lang/StringUTF16", "getChar", "([BI)C"⟩ prog_18_method_5_code 2 (some .char) ∈ aW := aw_t (ti_2 (List.mem_of_getElem? (i := 231) rfl)) rfl
theorem w_472 : Cond.fieldLink "java/lang/StringUTF16" 44 "java/lang/StringUTF16" "$assertionsDisabled" "Z" ∈ aW := aw_t (ti_2 (List.mem_of_getElem? (i := 232) rfl)) rfl
theorem w_474 : Cond.fieldLink "java/lang/StringUTF16" 59 "java/lang/StringUTF16" "HI_BYTE_SHIFT" "I" ∈ aW := aw_t (ti_2 (List.mem_of_getElem? (i := 234) rfl)) rfl
theorem w_476 : Cond.fieldLink "java/lang/StringUTF16" 63 "java/lang/StringUTF16" "LO_BYTE_SHIFT" "I" ∈ aW := aw_t (ti_2 (List.mem_of_getElem? (i := 236) rfl)) rfl
theorem w_478 : Cond.methodLink "java/lang/StringUTF16" 232 ⟨"java/lang/StringUTF16", "indexOfSupplementary", "([BIII)I"⟩ ∈ aW := aw_t (ti_2 (List.mem_of_getElem? (i := 238) rfl)) rfl
theorem w_479 : Cond.static ⟨"java/lang/StringUTF16", "indexOfSupplementary", "([BIII)I"⟩ ∈ aW := aw_t (ti_2 (List.mem_of_getElem? (i := 239) rfl)) rfl
theorem w_480 : Cond.code ⟨"java/lang/StringUTF16", "indexOfSupplementary", "([BIII)I"⟩ prog_18_method_49_code 7 (some .int) ∈ aW := aw_t (ti_3 (List.mem_of_getElem? (i := 0) rfl)) rfl
theorem w_481 : Cond.methodLink "java/lang/StringUTF16" 164 ⟨"java/lang/Character", "isValidCodePoint", "(I)Z"⟩ ∈ aW := aw_t (ti_3 (List.mem_of_getElem? (i := 1) rfl)) rfl
theorem w_482 : Cond.static ⟨"java/lang/Character", "isValidCodePoint", "(I)Z"⟩ ∈ aW := aw_t (ti_3 (List.mem_of_getElem? (i := 2) rfl)) rfl
theorem w_483 : Cond.code ⟨"java/lang/Character", "isValidCodePoint", "(I)Z"⟩ prog_9_method_11_code 2 (some .boolean) ∈ aW := aw_t (ti_3 (List.mem_of_getElem? (i := 3) rfl)) rfl
theorem w_484 : Cond.methodLink "java/lang/StringUTF16" 157 ⟨"java/lang/Character", "highSurrogate", "(I)C"⟩ ∈ aW := aw_t (ti_3 (List.mem_of_getElem? (i := 4) rfl)) rfl
theorem w_485 : Cond.static ⟨"java/lang/Character", "highSurrogate", "(I)C"⟩ ∈ aW := aw_t (ti_3 (List.mem_of_getElem? (i := 5) rfl)) rfl
theorem w_486 : Cond.code ⟨"java/lang/Character", "highSurrogate", "(I)C"⟩ prog_9_method_28_code 1 (some .char) ∈ aW := aw_t (ti_3 (List.mem_of_getElem? (i := 6) rfl)) rfl
theorem w_487 : Cond.constant "java/lang/Character" 110 55232 ∈ aW := aw_t (ti_3 (List.mem_of_getElem? (i := 7) rfl)) rfl
theorem w_488 : Cond.methodLink "java/lang/StringUTF16" 161 ⟨"java/lang/Character", "lowSurrogate", "(I)C"⟩ ∈ aW := aw_t (ti_3 (List.mem_of_getElem? (i := 8) rfl)) rfl
theorem w_489 : Cond.static ⟨"java/lang/Character", "lowSurrogate", "(I)C"⟩ ∈ aW := aw_t (ti_3 (List.mem_of_getElem? (i := 9) rfl)) rfl
theorem w_490 : Cond.code ⟨"java/lang/Character", "lowSurrogate", "(I)C"⟩ prog_9_method_29_code 1 (some .char) ∈ aW := aw_t (ti_3 (List.mem_of_getElem? (i := 10) rfl)) rfl
theorem w_491 : Cond.constant "java/lang/Character" 76 56320 ∈ aW := aw_t (ti_3 (List.mem_of_getElem? (i := 11) rfl)) rfl
theorem w_492 : Cond.methodLink RX2 183 yX2_addItem ∈ aW := aw_t (ti_3 (List.mem_of_getElem? (i := 12) rfl)) rfl
theorem w_494 : Cond.instanceMethod yX2_addItem ∈ aW := aw_t (ti_3 (List.mem_of_getElem? (i := 14) rfl)) rfl
theorem w_495 : Cond.code yX2_addItem cX2_addItem 2 none ∈ aW := aw_t (ti_3 (List.mem_of_getElem? (i := 15) rfl)) rfl
theorem w_496 : Cond.methodLink RX2 180 yX2_isItem ∈ aW := aw_t (ti_3 (List.mem_of_getElem? (i := 16) rfl)) rfl
theorem w_497 : Cond.static yX2_isItem ∈ aW := aw_t (ti_3 (List.mem_of_getElem? (i := 17) rfl)) rfl
theorem w_498 : Cond.code yX2_isItem cX2_isItem 1 (some .boolean) ∈ aW := aw_t (ti_3 (List.mem_of_getElem? (i := 18) rfl)) rfl
theorem w_499 : Cond.constantLong RX2 126 (-1) ∈ aW := aw_t (ti_3 (List.mem_of_getElem? (i := 19) rfl)) rfl
theorem w_500 : Cond.methodLink RX2 128 yX2_set ∈ aW := aw_t (ti_3 (List.mem_of_getElem? (i := 20) rfl)) rfl
theorem w_502 : Cond.instanceMethod yX2_set ∈ aW := aw_t (ti_3 (List.mem_of_getElem? (i := 22) rfl)) rfl
theorem w_503 : Cond.code yX2_set cX2_set 5 (some .int) ∈ aW := aw_t (ti_3 (List.mem_of_getElem? (i := 23) rfl)) rfl
theorem w_504 : Cond.methodLink RX2 123 yX2_escaped ∈ aW := aw_t (ti_3 (List.mem_of_getElem? (i := 24) rfl)) rfl
theorem w_506 : Cond.instanceMethod yX2_escaped ∈ aW := aw_t (ti_3 (List.mem_of_getElem? (i := 26) rfl)) rfl
theorem w_507 : Cond.code yX2_escaped cX2_escaped 2 (some .int) ∈ aW := aw_t (ti_3 (List.mem_of_getElem? (i := 27) rfl)) rfl
theorem w_508 : Cond.methodLink RX2 153 yX2_backReference ∈ aW := aw_t (ti_3 (List.mem_of_getElem? (i := 28) rfl)) rfl
theorem w_510 : Cond.instanceMethod yX2_backReference ∈ aW := aw_t (ti_3 (List.mem_of_getElem? (i := 30) rfl)) rfl
theorem w_511 : Cond.code yX2_backReference cX2_backReference 3 (some .int) ∈ aW := aw_t (ti_3 (List.mem_of_getElem? (i := 31) rfl)) rfl
theorem w_512 : Cond.constantLong RX2 163 4095 ∈ aW := aw_t (ti_3 (List.mem_of_getElem? (i := 32) rfl)) rfl
theorem w_514 : Cond.methodLink RX2 145 yX2_character ∈ aW := aw_t (ti_3 (List.mem_of_getElem? (i := 34) rfl)) rfl
theorem w_516 : Cond.instanceMethod yX2_character ∈ aW := aw_t (ti_3 (List.mem_of_getElem? (i := 36) rfl)) rfl
theorem w_517 : Cond.code yX2_character cX2_character 2 (some .int) ∈ aW := aw_t (ti_3 (List.mem_of_getElem? (i := 37) rfl)) rfl
theorem w_518 : Cond.methodLink RX2 80 yX2_readLoop ∈ aW := aw_t (ti_3 (List.mem_of_getElem? (i := 38) rfl)) rfl
theorem w_520 : Cond.instanceMethod yX2_readLoop ∈ aW := aw_t (ti_3 (List.mem_of_getElem? (i := 40) rfl)) rfl
theorem w_521 : Cond.code yX2_readLoop cX2_readLoop 2 (some .boolean) ∈ aW := aw_t (ti_3 (List.mem_of_getElem? (i := 41) rfl)) rfl
theorem w_522 : Cond.methodLink RX2 104 yX2_readCounts ∈ aW := aw_t (ti_3 (List.mem_of_getElem? (i := 42) rfl)) rfl
theorem w_524 : Cond.instanceMethod yX2_readCounts ∈ aW := aw_t (ti_3 (List.mem_of_getElem? (i := 44) rfl)) rfl
theorem w_525 : Cond.code yX2_readCounts cX2_readCounts 1 none ∈ aW := aw_t (ti_3 (List.mem_of_getElem? (i := 45) rfl)) rfl
theorem w_526 : Cond.methodLink RX2 110 yX2_count ∈ aW := aw_t (ti_3 (List.mem_of_getElem? (i := 46) rfl)) rfl
theorem w_528 : Cond.instanceMethod yX2_count ∈ aW := aw_t (ti_3 (List.mem_of_getElem? (i := 48) rfl)) rfl
theorem w_529 : Cond.code yX2_count cX2_count 2 (some .int) ∈ aW := aw_t (ti_3 (List.mem_of_getElem? (i := 49) rfl)) rfl
theorem w_530 : Cond.classLink RX5 70 "java/lang/IllegalArgumentException" ∈ aW := aw_t (ti_3 (List.mem_of_getElem? (i := 50) rfl)) rfl
theorem w_531 : Cond.instantiable "java/lang/IllegalArgumentException" 6 ∈ aW := aw_t (ti_3 (List.mem_of_getElem? (i := 51) rfl)) rfl
theorem w_539 : Cond.selects "java/lang/IllegalArgumentException" ⟨"java/lang/Throwable", "fillInStackTrace", "(I)Ljava/lang/Throwable;"⟩ ⟨"java/lang/Throwable", "fillInStackTrace", "(I)Ljava/lang/Throwable;"⟩ ∈ aW := aw_t (ti_3 (List.mem_of_getElem? (i := 59) rfl)) rfl
theorem w_540 : Cond.selects "java/lang/IllegalArgumentException" ⟨"java/lang/Throwable", "fillInStackTrace", "()Ljava/lang/Throwable;"⟩ ⟨"java/lang/Throwable", "fillInStackTrace", "()Ljava/lang/Throwable;"⟩ ∈ aW := aw_t (ti_3 (List.mem_of_getElem? (i := 60) rfl)) rfl
theorem w_541 : Cond.lays "java/lang/IllegalArgumentException" "java/lang/Throwable" "cause" "Ljava/lang/Throwable;" ∈ aW := aw_t (ti_3 (List.mem_of_getElem? (i := 61) rfl)) rfl
theorem w_542 : Cond.lays "java/lang/Throwable" "java/lang/Throwable" "cause" "Ljava/lang/Throwable;" ∈ aW := aw_t (ti_3 (List.mem_of_getElem? (i := 62) rfl)) rfl
theorem w_543 : Cond.lays "java/lang/IllegalArgumentException" "java/lang/Throwable" "stackTrace" "[Ljava/lang/StackTraceElement;" ∈ aW := aw_t (ti_3 (List.mem_of_getElem? (i := 63) rfl)) rfl
theorem w_544 : Cond.lays "java/lang/Throwable" "java/lang/Throwable" "stackTrace" "[Ljava/lang/StackTraceElement;" ∈ aW := aw_t (ti_3 (List.mem_of_getElem? (i := 64) rfl)) rfl
theorem w_545 : Cond.lays "java/lang/IllegalArgumentException" "java/lang/Throwable" "suppressedExceptions" "Ljava/util/List;" ∈ aW := aw_t (ti_3 (List.mem_of_getElem? (i := 65) rfl)) rfl
theorem w_546 : Cond.lays "java/lang/Throwable" "java/lang/Throwable" "suppressedExceptions" "Ljava/util/List;" ∈ aW := aw_t (ti_3 (List.mem_of_getElem? (i := 66) rfl)) rfl
theorem w_547 : Cond.lays "java/lang/IllegalArgumentException" "java/lang/Throwable" "detailMessage" "Ljava/lang/String;" ∈ aW := aw_t (ti_3 (List.mem_of_getElem? (i := 67) rfl)) rfl
theorem w_548 : Cond.lays "java/lang/Throwable" "java/lang/Throwable" "detailMessage" "Ljava/lang/String;" ∈ aW := aw_t (ti_3 (List.mem_of_getElem? (i := 68) rfl)) rfl
theorem w_549 : Cond.lays "java/lang/IllegalArgumentException" "java/lang/Throwable" "backtrace" "Ljava/lang/Object;" ∈ aW := aw_t (ti_3 (List.mem_of_getElem? (i := 69) rfl)) rfl
theorem w_550 : Cond.lays "java/lang/Throwable" "java/lang/Throwable" "backtrace" "Ljava/lang/Object;" ∈ aW := aw_t (ti_3 (List.mem_of_getElem? (i := 70) rfl)) rfl
theorem w_551 : Cond.fieldLink "java/lang/Throwable" 198 "java/lang/Throwable" "backtrace" "Ljava/lang/Object;" ∈ aW := aw_t (ti_3 (List.mem_of_getElem? (i := 71) rfl)) rfl
theorem w_553 : Cond.instanceMethod ⟨"java/lang/Throwable", "<init>", "()V"⟩ ∈ aW := aw_t (ti_3 (List.mem_of_getElem? (i := 73) rfl)) rfl
theorem w_554 : Cond.code ⟨"java/lang/Throwable", "<init>", "()V"⟩ prog_19_method_1_code 1 none ∈ aW := aw_t (ti_3 (List.mem_of_getElem? (i := 74) rfl)) rfl
theorem w_555 : Cond.methodLink "java/lang/Throwable" 1 objectInit ∈ aW := aw_t (ti_3 (List.mem_of_getElem? (i := 75) rfl)) rfl
theorem w_556 : Cond.fieldLink "java/lang/Throwable" 13 "java/lang/Throwable" "UNASSIGNED_STACK" "[Ljava/lang/StackTraceElement;" ∈ aW := aw_t (ti_3 (List.mem_of_getElem? (i := 76) rfl)) rfl
theorem w_558 : Cond.fieldLink "java/lang/Throwable" 20 "java/lang/Throwable" "SUPPRESSED_SENTINEL" "Ljava/util/List;" ∈ aW := aw_t (ti_3 (List.mem_of_getElem? (i := 78) rfl)) rfl
theorem w_560 : Cond.methodLink "java/lang/Throwable" 27 ⟨"java/lang/Throwable", "fillInStackTrace", "()Ljava/lang/Throwable;"⟩ ∈ aW := aw_t (ti_3 (List.mem_of_getElem? (i := 80) rfl)) rfl
theorem w_561 : Cond.instanceMethod ⟨"java/lang/Throwable", "fillInStackTrace", "()Ljava/lang/Throwable;"⟩ ∈ aW := aw_t (ti_3 (List.mem_of_getElem? (i := 81) rfl)) rfl
theorem w_563 : Cond.selects "java/lang/IllegalStateException" ⟨"java/lang/Throwable", "fillInStackTrace", "()Ljava/lang/Throwable;"⟩ ⟨"java/lang/Throwable", "fillInStackTrace", "()Ljava/lang/Throwable;"⟩ ∈ aW := aw_t (ti_3 (List.mem_of_getElem? (i := 83) rfl)) rfl
theorem w_564 : Cond.selects "java/lang/IndexOutOfBoundsException" ⟨"java/lang/Throwable", "fillInStackTrace", "()Ljava/lang/Throwable;"⟩ ⟨"java/lang/Throwable", "fillInStackTrace", "()Ljava/lang/Throwable;"⟩ ∈ aW := aw_t (ti_3 (List.mem_of_getElem? (i := 84) rfl)) rfl
theorem w_566 : Cond.methodLink "java/lang/Throwable" 202 ⟨"java/lang/Throwable", "fillInStackTrace", "(I)Ljava/lang/Throwable;"⟩ ∈ aW := aw_t (ti_3 (List.mem_of_getElem? (i := 86) rfl)) rfl
theorem w_568 : Cond.instanceMethod ⟨"java/lang/Throwable", "fillInStackTrace", "(I)Ljava/lang/Throwable;"⟩ ∈ aW := aw_t (ti_3 (List.mem_of_getElem? (i := 88) rfl)) rfl
theorem w_569 : Cond.instantiable "java/lang/Throwable" 6 ∈ aW := aw_t (ti_3 (List.mem_of_getElem? (i := 89) rfl)) rfl
theorem w_571 : Cond.methodLink RX5 72 ⟨"java/lang/IllegalArgumentException", "<init>", "()V"⟩ ∈ aW := aw_t (ti_3 (List.mem_of_getElem? (i := 91) rfl)) rfl
theorem w_572 : Cond.instanceMethod ⟨"java/lang/IllegalArgumentException", "<init>", "()V"⟩ ∈ aW := aw_t (ti_3 (List.mem_of_getElem? (i := 92) rfl)) rfl
theorem w_573 : Cond.code ⟨"java/lang/IllegalArgumentException", "<init>", "()V"⟩ prog_11_method_1_code 1 none ∈ aW := aw_t (ti_3 (List.mem_of_getElem? (i := 93) rfl)) rfl
theorem w_574 : Cond.methodLink "java/lang/IllegalArgumentException" 1 ⟨"java/lang/RuntimeException", "<init>", "()V"⟩ ∈ aW := aw_t (ti_3 (List.mem_of_getElem? (i := 94) rfl)) rfl
theorem w_575 : Cond.instanceMethod ⟨"java/lang/RuntimeException", "<init>", "()V"⟩ ∈ aW := aw_t (ti_3 (List.mem_of_getElem? (i := 95) rfl)) rfl
theorem w_576 : Cond.code ⟨"java/lang/RuntimeException", "<init>", "()V"⟩ prog_15_method_1_code 1 none ∈ aW := aw_t (ti_3 (List.mem_of_getElem? (i := 96) rfl)) rfl
theorem w_577 : Cond.methodLink "java/lang/RuntimeException" 1 ⟨"java/lang/Exception", "<init>", "()V"⟩ ∈ aW := aw_t (ti_3 (List.mem_of_getElem? (i := 97) rfl)) rfl
theorem w_578 : Cond.instanceMethod ⟨"java/lang/Exception", "<init>", "()V"⟩ ∈ aW := aw_t (ti_3 (List.mem_of_getElem? (i := 98) rfl)) rfl
theorem w_579 : Cond.code ⟨"java/lang/Exception", "<init>", "()V"⟩ prog_10_method_1_code 1 none ∈ aW := aw_t (ti_3 (List.mem_of_getElem? (i := 99) rfl)) rfl
theorem w_580 : Cond.methodLink "java/lang/Exception" 1 ⟨"java/lang/Throwable", "<init>", "()V"⟩ ∈ aW := aw_t (ti_3 (List.mem_of_getElem? (i := 100) rfl)) rfl
theorem w_582 : Cond.fieldLink "java/lang/Throwable" 7 "java/lang/Throwable" "cause" "Ljava/lang/Throwable;" ∈ aW := aw_t (ti_3 (List.mem_of_getElem? (i := 102) rfl)) rfl
theorem w_583 : Cond.fieldLink "java/lang/Throwable" 17 "java/lang/Throwable" "stackTrace" "[Ljava/lang/StackTraceElement;" ∈ aW := aw_t (ti_3 (List.mem_of_getElem? (i := 103) rfl)) rfl
theorem w_584 : Cond.fieldLink "java/lang/Throwable" 24 "java/lang/Throwable" "suppressedExceptions" "Ljava/util/List;" ∈ aW := aw_t (ti_3 (List.mem_of_getElem? (i := 104) rfl)) rfl
theorem w_589 : Cond.lays "java/lang/IllegalArgumentException" "java/lang/Throwable" "depth" "I" ∈ aW := aw_t (ti_3 (List.mem_of_getElem? (i := 109) rfl)) rfl
theorem w_593 : Cond.arrayClass .byte ∈ aW := aw_t (ti_3 (List.mem_of_getElem? (i := 113) rfl)) rfl
theorem w_594 : Cond.methodLink RL 73 yL_matches ∈ aW := aw_t (ti_3 (List.mem_of_getElem? (i := 114) rfl)) rfl
theorem w_595 : Cond.static yL_matches ∈ aW := aw_t (ti_3 (List.mem_of_getElem? (i := 115) rfl)) rfl
theorem w_596 : Cond.codeWith yL_matches cL_matches 3 (some .int) [(0, 15, 18, 19)] ∈ aW := aw_t (ti_3 (List.mem_of_getElem? (i := 116) rfl)) rfl
theorem w_597 : Cond.classLink RL 19 "java/lang/IllegalStateException" ∈ aW := aw_t (ti_3 (List.mem_of_getElem? (i := 117) rfl)) rfl
theorem w_598 : Cond.methodLink RL 15 yX5_matches ∈ aW := aw_t (ti_3 (List.mem_of_getElem? (i := 118) rfl)) rfl
theorem w_599 : Cond.instanceMethod yX5_matches ∈ aW := aw_t (ti_3 (List.mem_of_getElem? (i := 119) rfl)) rfl
theorem w_600 : Cond.selects RX5 yX5_matches yX5_matches ∈ aW := aw_t (ti_3 (List.mem_of_getElem? (i := 120) rfl)) rfl
theorem w_601 : Cond.code yX5_matches cX5_matches 1 (some .boolean) ∈ aW := aw_t (ti_3 (List.mem_of_getElem? (i := 121) rfl)) rfl
theorem w_602 : Cond.classLink RX5 87 "java/lang/IllegalStateException" ∈ aW := aw_t (ti_3 (List.mem_of_getElem? (i := 122) rfl)) rfl
theorem w_603 : Cond.instantiable "java/lang/IllegalStateException" 6 ∈ aW := aw_t (ti_3 (List.mem_of_getElem? (i := 123) rfl)) rfl
theorem w_605 : Cond.selects "java/lang/IllegalStateException" ⟨"java/lang/Throwable", "fillInStackTrace", "(I)Ljava/lang/Throwable;"⟩ ⟨"java/lang/Throwable", "fillInStackTrace", "(I)Ljava/lang/Throwable;"⟩ ∈ aW := aw_t (ti_3 (List.mem_of_getElem? (i := 125) rfl)) rfl
theorem w_606 : Cond.lays "java/lang/IllegalStateException" "java/lang/Throwable" "cause" "Ljava/lang/Throwable;" ∈ aW := aw_t (ti_3 (List.mem_of_getElem? (i := 126) rfl)) rfl
theorem w_607 : Cond.lays "java/lang/IllegalStateException" "java/lang/Throwable" "stackTrace" "[Ljava/lang/StackTraceElement;" ∈ aW := aw_t (ti_3 (List.mem_of_getElem? (i := 127) rfl)) rfl
theorem w_608 : Cond.lays "java/lang/IllegalStateException" "java/lang/Throwable" "suppressedExceptions" "Ljava/util/List;" ∈ aW := aw_t (ti_3 (List.mem_of_getElem? (i := 128) rfl)) rfl
theorem w_609 : Cond.lays "java/lang/IllegalStateException" "java/lang/Throwable" "detailMessage" "Ljava/lang/String;" ∈ aW := aw_t (ti_3 (List.mem_of_getElem? (i := 129) rfl)) rfl
theorem w_610 : Cond.lays "java/lang/IllegalStateException" "java/lang/Throwable" "backtrace" "Ljava/lang/Object;" ∈ aW := aw_t (ti_3 (List.mem_of_getElem? (i := 130) rfl)) rfl
theorem w_611 : Cond.methodLink RX5 89 ⟨"java/lang/IllegalStateException", "<init>", "()V"⟩ ∈ aW := aw_t (ti_3 (List.mem_of_getElem? (i := 131) rfl)) rfl
theorem w_612 : Cond.instanceMethod ⟨"java/lang/IllegalStateException", "<init>", "()V"⟩ ∈ aW := aw_t (ti_3 (List.mem_of_getElem? (i := 132) rfl)) rfl
theorem w_613 : Cond.code ⟨"java/lang/IllegalStateException", "<init>", "()V"⟩ prog_12_method_1_code 1 none ∈ aW := aw_t (ti_3 (List.mem_of_getElem? (i := 133) rfl)) rfl
theorem w_614 : Cond.methodLink "java/lang/IllegalStateException" 1 ⟨"java/lang/RuntimeException", "<init>", "()V"⟩ ∈ aW := aw_t (ti_3 (List.mem_of_getElem? (i := 134) rfl)) rfl
theorem w_615 : Cond.lays "java/lang/IllegalStateException" "java/lang/Throwable" "depth" "I" ∈ aW := aw_t (ti_3 (List.mem_of_getElem? (i := 135) rfl)) rfl
theorem w_617 : Cond.methodLink RX5 94 yX5_match ∈ aW := aw_t (ti_3 (List.mem_of_getElem? (i := 137) rfl)) rfl
theorem w_619 : Cond.instanceMethod yX5_match ∈ aW := aw_t (ti_3 (List.mem_of_getElem? (i := 139) rfl)) rfl
theorem w_620 : Cond.code yX5_match cX5_match 5 (some .boolean) ∈ aW := aw_t (ti_3 (List.mem_of_getElem? (i := 140) rfl)) rfl
theorem w_621 : Cond.methodLink RX5 143 yX4_openSearch ∈ aW := aw_t (ti_3 (List.mem_of_getElem? (i := 141) rfl)) rfl
theorem w_622 : Cond.instanceMethod yX4_openSearch ∈ aW := aw_t (ti_3 (List.mem_of_getElem? (i := 142) rfl)) rfl
theorem w_623 : Cond.selects RX4 yX4_openSearch yX4_openSearch ∈ aW := aw_t (ti_3 (List.mem_of_getElem? (i := 143) rfl)) rfl
theorem w_624 : Cond.code yX4_openSearch cX4_openSearch 2 none ∈ aW := aw_t (ti_3 (List.mem_of_getElem? (i := 144) rfl)) rfl
theorem w_625 : Cond.methodLink RX5 146 yX4_firstWay ∈ aW := aw_t (ti_3 (List.mem_of_getElem? (i := 145) rfl)) rfl
theorem w_626 : Cond.instanceMethod yX4_firstWay ∈ aW := aw_t (ti_3 (List.mem_of_getElem? (i := 146) rfl)) rfl
theorem w_627 : Cond.selects RX4 yX4_firstWay yX4_firstWay ∈ aW := aw_t (ti_3 (List.mem_of_getElem? (i := 147) rfl)) rfl
theorem w_628 : Cond.code yX4_firstWay cX4_firstWay 3 (some .boolean) ∈ aW := aw_t (ti_3 (List.mem_of_getElem? (i := 148) rfl)) rfl
theorem w_629 : Cond.constantLong RX4 54 17527745802495 ∈ aW := aw_t (ti_3 (List.mem_of_getElem? (i := 149) rfl)) rfl
theorem w_630 : Cond.methodLink RX4 63 yX4_run ∈ aW := aw_t (ti_3 (List.mem_of_getElem? (i := 150) rfl)) rfl
theorem w_632 : Cond.instanceMethod yX4_run ∈ aW := aw_t (ti_3 (List.mem_of_getElem? (i := 152) rfl)) rfl
theorem w_633 : Cond.code yX4_run cX4_run 8 (some .boolean) ∈ aW := aw_t (ti_3 (List.mem_of_getElem? (i := 153) rfl)) rfl
theorem w_634 : Cond.constant RX4 73 10000000 ∈ aW := aw_t (ti_3 (List.mem_of_getElem? (i := 154) rfl)) rfl
theorem w_635 : Cond.methodLink RX4 74 yX4_takeWaiting ∈ aW := aw_t (ti_3 (List.mem_of_getElem? (i := 155) rfl)) rfl
theorem w_637 : Cond.instanceMethod yX4_takeWaiting ∈ aW := aw_t (ti_3 (List.mem_of_getElem? (i := 157) rfl)) rfl
theorem w_638 : Cond.code yX4_takeWaiting cX4_takeWaiting 2 none ∈ aW := aw_t (ti_3 (List.mem_of_getElem? (i := 158) rfl)) rfl
theorem w_639 : Cond.constant RX4 190 1048575 ∈ aW := aw_t (ti_3 (List.mem_of_getElem? (i := 159) rfl)) rfl
theorem w_640 : Cond.methodLink RX4 77 yX1_node ∈ aW := aw_t (ti_3 (List.mem_of_getElem? (i := 160) rfl)) rfl
theorem w_641 : Cond.methodLink RX4 85 yX4_step ∈ aW := aw_t (ti_3 (List.mem_of_getElem? (i := 161) rfl)) rfl
theorem w_643 : Cond.instanceMethod yX4_step ∈ aW := aw_t (ti_3 (List.mem_of_getElem? (i := 163) rfl)) rfl
theorem w_644 : Cond.code yX4_step cX4_step 3 (some .boolean) ∈ aW := aw_t (ti_3 (List.mem_of_getElem? (i := 164) rfl)) rfl
theorem w_645 : Cond.methodLink RX4 92 yX4_takeCharacter ∈ aW := aw_t (ti_3 (List.mem_of_getElem? (i := 165) rfl)) rfl
theorem w_647 : Cond.instanceMethod yX4_takeCharacter ∈ aW := aw_t (ti_3 (List.mem_of_getElem? (i := 167) rfl)) rfl
theorem w_648 : Cond.code yX4_takeCharacter cX4_takeCharacter 2 (some .boolean) ∈ aW := aw_t (ti_3 (List.mem_of_getElem? (i := 168) rfl)) rfl
theorem w_649 : Cond.methodLink RX4 96 yX3_size ∈ aW := aw_t (ti_3 (List.mem_of_getElem? (i := 169) rfl)) rfl
theorem w_650 : Cond.methodLink RX4 144 yX3_at ∈ aW := aw_t (ti_3 (List.mem_of_getElem? (i := 170) rfl)) rfl
theorem w_651 : Cond.methodLinkNest RX4 154 yX5_isIn "PatternMatcher" ∈ nxW := List.mem_filter.mpr ⟨ti_3 (List.mem_of_getElem? (i := 171) rfl), rfl⟩
theorem w_652 : Cond.static yX5_isIn ∈ aW := aw_t (ti_3 (List.mem_of_getElem? (i := 172) rfl)) rfl
theorem w_653 : Cond.code yX5_isIn cX5_isIn 7 (some .boolean) ∈ aW := aw_t (ti_3 (List.mem_of_getElem? (i := 173) rfl)) rfl
theorem w_654 : Cond.methodLink RX4 158 yX4_moveTo ∈ aW := aw_t (ti_3 (List.mem_of_getElem? (i := 174) rfl)) rfl
theorem w_656 : Cond.instanceMethod yX4_moveTo ∈ aW := aw_t (ti_3 (List.mem_of_getElem? (i := 176) rfl)) rfl
theorem w_657 : Cond.code yX4_moveTo cX4_moveTo 2 none ∈ aW := aw_t (ti_3 (List.mem_of_getElem? (i := 177) rfl)) rfl
theorem w_658 : Cond.constant RX4 165 559240 ∈ aW := aw_t (ti_3 (List.mem_of_getElem? (i := 178) rfl)) rfl
theorem w_659 : Cond.methodLink RX4 100 yX4_isEdge ∈ aW := aw_t (ti_3 (List.mem_of_getElem? (i := 179) rfl)) rfl
theorem w_661 : Cond.instanceMethod yX4_isEdge ∈ aW := aw_t (ti_3 (List.mem_of_getElem? (i := 181) rfl)) rfl
theorem w_662 : Cond.code yX4_isEdge cX4_isEdge 1 (some .boolean) ∈ aW := aw_t (ti_3 (List.mem_of_getElem? (i := 182) rfl)) rfl
theorem w_663 : Cond.methodLink RX4 166 yX4_isWord ∈ aW := aw_t (ti_3 (List.mem_of_getElem? (i := 183) rfl)) rfl
theorem w_664 : Cond.static yX4_isWord ∈ aW := aw_t (ti_3 (List.mem_of_getElem? (i := 184) rfl)) rfl
theorem w_665 : Cond.code yX4_isWord cX4_isWord 1 (some .boolean) ∈ aW := aw_t (ti_3 (List.mem_of_getElem? (i := 185) rfl)) rfl
theorem w_666 : Cond.constantLong RX4 170 287948901175001088 ∈ aW := aw_t (ti_3 (List.mem_of_getElem? (i := 186) rfl)) rfl
theorem w_667 : Cond.constantLong RX4 172 576460745995190270 ∈ aW := aw_t (ti_3 (List.mem_of_getElem? (i := 187) rfl)) rfl
theorem w_668 : Cond.methodLink RX4 107 yX4_takeSpanAgain ∈ aW := aw_t (ti_3 (List.mem_of_getElem? (i := 188) rfl)) rfl
theorem w_670 : Cond.instanceMethod yX4_takeSpanAgain ∈ aW := aw_t (ti_3 (List.mem_of_getElem? (i := 190) rfl)) rfl
theorem w_671 : Cond.code yX4_takeSpanAgain cX4_takeSpanAgain 5 (some .boolean) ∈ aW := aw_t (ti_3 (List.mem_of_getElem? (i := 191) rfl)) rfl
theorem w_672 : Cond.methodLinkNest RX4 161 yX5_spanPlace "PatternMatcher" ∈ nxW := List.mem_filter.mpr ⟨ti_3 (List.mem_of_getElem? (i := 192) rfl), rfl⟩
theorem w_673 : Cond.static yX5_spanPlace ∈ aW := aw_t (ti_3 (List.mem_of_getElem? (i := 193) rfl)) rfl
theorem w_674 : Cond.code yX5_spanPlace cX5_spanPlace 5 (some .int) ∈ aW := aw_t (ti_3 (List.mem_of_getElem? (i := 194) rfl)) rfl
theorem w_675 : Cond.methodLinkNest RX4 111 yX5_spanOpened "PatternMatcher" ∈ nxW := List.mem_filter.mpr ⟨ti_3 (List.mem_of_getElem? (i := 195) rfl), rfl⟩
theorem w_676 : Cond.static yX5_spanOpened ∈ aW := aw_t (ti_3 (List.mem_of_getElem? (i := 196) rfl)) rfl
theorem w_677 : Cond.code yX5_spanOpened cX5_spanOpened 5 (some .long) ∈ aW := aw_t (ti_3 (List.mem_of_getElem? (i := 197) rfl)) rfl
theorem w_678 : Cond.constantLong RX5 167 15 ∈ aW := aw_t (ti_3 (List.mem_of_getElem? (i := 198) rfl)) rfl
theorem w_679 : Cond.constantLong RX5 169 (-1) ∈ aW := aw_t (ti_3 (List.mem_of_getElem? (i := 199) rfl)) rfl
theorem w_680 : Cond.methodLinkNest RX4 115 yX5_spanClosed "PatternMatcher" ∈ nxW := List.mem_filter.mpr ⟨ti_3 (List.mem_of_getElem? (i := 200) rfl), rfl⟩
theorem w_681 : Cond.static yX5_spanClosed ∈ aW := aw_t (ti_3 (List.mem_of_getElem? (i := 201) rfl)) rfl
theorem w_682 : Cond.code yX5_spanClosed cX5_spanClosed 7 (some .long) ∈ aW := aw_t (ti_3 (List.mem_of_getElem? (i := 202) rfl)) rfl
theorem w_683 : Cond.methodLink RX5 160 yX5_spanPlace ∈ aW := aw_t (ti_3 (List.mem_of_getElem? (i := 203) rfl)) rfl
theorem w_684 : Cond.constantLong RX5 171 4095 ∈ aW := aw_t (ti_3 (List.mem_of_getElem? (i := 204) rfl)) rfl
theorem w_685 : Cond.methodLink RX4 121 yX4_letWait ∈ aW := aw_t (ti_3 (List.mem_of_getElem? (i := 205) rfl)) rfl
theorem w_687 : Cond.instanceMethod yX4_letWait ∈ aW := aw_t (ti_3 (List.mem_of_getElem? (i := 207) rfl)) rfl
theorem w_688 : Cond.code yX4_letWait cX4_letWait 3 (some .boolean) ∈ aW := aw_t (ti_3 (List.mem_of_getElem? (i := 208) rfl)) rfl
theorem w_689 : Cond.methodLink RX4 187 yX4_packed ∈ aW := aw_t (ti_3 (List.mem_of_getElem? (i := 209) rfl)) rfl
theorem w_691 : Cond.instanceMethod yX4_packed ∈ aW := aw_t (ti_3 (List.mem_of_getElem? (i := 211) rfl)) rfl
theorem w_692 : Cond.code yX4_packed cX4_packed 3 (some .int) ∈ aW := aw_t (ti_3 (List.mem_of_getElem? (i := 212) rfl)) rfl
theorem w_693 : Cond.methodLink RX4 128 yX4_withLoop ∈ aW := aw_t (ti_3 (List.mem_of_getElem? (i := 213) rfl)) rfl
theorem w_695 : Cond.instanceMethod yX4_withLoop ∈ aW := aw_t (ti_3 (List.mem_of_getElem? (i := 215) rfl)) rfl
theorem w_696 : Cond.code yX4_withLoop cX4_withLoop 4 (some .int) ∈ aW := aw_t (ti_3 (List.mem_of_getElem? (i := 216) rfl)) rfl
theorem w_697 : Cond.methodLink RX4 132 yX4_wasHere ∈ aW := aw_t (ti_3 (List.mem_of_getElem? (i := 217) rfl)) rfl
theorem w_699 : Cond.instanceMethod yX4_wasHere ∈ aW := aw_t (ti_3 (List.mem_of_getElem? (i := 219) rfl)) rfl
theorem w_700 : Cond.code yX4_wasHere cX4_wasHere 12 (some .boolean) ∈ aW := aw_t (ti_3 (List.mem_of_getElem? (i := 220) rfl)) rfl
theorem w_701 : Cond.constantLong RX4 197 31 ∈ aW := aw_t (ti_3 (List.mem_of_getElem? (i := 221) rfl)) rfl
theorem w_702 : Cond.constantLong RX4 199 (-7046029254386353131) ∈ aW := aw_t (ti_3 (List.mem_of_getElem? (i := 222) rfl)) rfl
theorem w_703 : Cond.methodLink RX4 201 yX4_isOver ∈ aW := aw_t (ti_3 (List.mem_of_getElem? (i := 223) rfl)) rfl
theorem w_705 : Cond.instanceMethod yX4_isOver ∈ aW := aw_t (ti_3 (List.mem_of_getElem? (i := 225) rfl)) rfl
theorem w_706 : Cond.code yX4_isOver cX4_isOver 4 (some .boolean) ∈ aW := aw_t (ti_3 (List.mem_of_getElem? (i := 226) rfl)) rfl
theorem w_707 : Cond.methodLink RX4 135 yX4_loop ∈ aW := aw_t (ti_3 (List.mem_of_getElem? (i := 227) rfl)) rfl
theorem w_709 : Cond.instanceMethod yX4_loop ∈ aW := aw_t (ti_3 (List.mem_of_getElem? (i := 229) rfl)) rfl
theorem w_710 : Cond.code yX4_loop cX4_loop 7 (some .boolean) ∈ aW := aw_t (ti_3 (List.mem_of_getElem? (i := 230) rfl)) rfl
theorem w_711 : Cond.methodLink RX4 180 yX4_goTo ∈ aW := aw_t (ti_3 (List.mem_of_getElem? (i := 231) rfl)) rfl
theorem w_713 : Cond.instanceMethod yX4_goTo ∈ aW := aw_t (ti_3 (List.mem_of_getElem? (i := 233) rfl)) rfl
theorem w_714 : Cond.code yX4_goTo cX4_goTo 3 (some .boolean) ∈ aW := aw_t (ti_3 (List.mem_of_getElem? (i := 234) rfl)) rfl
theorem w_715 : Cond.methodLink RX4 138 yX4_look ∈ aW := aw_t (ti_3 (List.mem_of_getElem? (i := 235) rfl)) rfl
theorem w_717 : Cond.instanceMethod yX4_look ∈ aW := aw_t (ti_3 (List.mem_of_getElem? (i := 237) rfl)) rfl
theorem w_718 : Cond.code yX4_look cX4_look 8 (some .boolean) ∈ aW := aw_t (ti_3 (List.mem_of_getElem? (i := 238) rfl)) rfl
theorem w_719 : Cond.methodLink RX4 204 yX4_openSearch ∈ aW := aw_t (ti_3 (List.mem_of_getElem? (i := 239) rfl)) rfl
theorem w_720 : Cond.methodLink RX4 210 yX4_lookBehind ∈ aW := aw_t (ti_4 (List.mem_of_getElem? (i := 0) rfl)) rfl
theorem w_722 : Cond.instanceMethod yX4_lookBehind ∈ aW := aw_t (ti_4 (List.mem_of_getElem? (i := 2) rfl)) rfl
theorem w_723 : Cond.code yX4_lookBehind cX4_lookBehind 7 (some .boolean) ∈ aW := aw_t (ti_4 (List.mem_of_getElem? (i := 3) rfl)) rfl
theorem w_724 : Cond.methodLink RX4 141 yX4_atomic ∈ aW := aw_t (ti_4 (List.mem_of_getElem? (i := 4) rfl)) rfl
theorem w_726 : Cond.instanceMethod yX4_atomic ∈ aW := aw_t (ti_4 (List.mem_of_getElem? (i := 6) rfl)) rfl
theorem w_727 : Cond.code yX4_atomic cX4_atomic 7 (some .boolean) ∈ aW := aw_t (ti_4 (List.mem_of_getElem? (i := 7) rfl)) rfl
theorem w_728 : Cond.methodLink RL 76 yL_looking ∈ aW := aw_t (ti_4 (List.mem_of_getElem? (i := 8) rfl)) rfl
theorem w_729 : Cond.static yL_looking ∈ aW := aw_t (ti_4 (List.mem_of_getElem? (i := 9) rfl)) rfl
theorem w_730 : Cond.codeWith yL_looking cL_looking 3 (some .int) [(0, 15, 18, 19)] ∈ aW := aw_t (ti_4 (List.mem_of_getElem? (i := 10) rfl)) rfl
theorem w_731 : Cond.methodLink RL 21 yX5_looking ∈ aW := aw_t (ti_4 (List.mem_of_getElem? (i := 11) rfl)) rfl
theorem w_732 : Cond.instanceMethod yX5_looking ∈ aW := aw_t (ti_4 (List.mem_of_getElem? (i := 12) rfl)) rfl
theorem w_733 : Cond.selects RX5 yX5_looking yX5_looking ∈ aW := aw_t (ti_4 (List.mem_of_getElem? (i := 13) rfl)) rfl
theorem w_734 : Cond.code yX5_looking cX5_looking 1 (some .boolean) ∈ aW := aw_t (ti_4 (List.mem_of_getElem? (i := 14) rfl)) rfl
theorem w_735 : Cond.methodLink RL 79 yL_find ∈ aW := aw_t (ti_4 (List.mem_of_getElem? (i := 15) rfl)) rfl
theorem w_736 : Cond.static yL_find ∈ aW := aw_t (ti_4 (List.mem_of_getElem? (i := 16) rfl)) rfl
theorem w_737 : Cond.codeWith yL_find cL_find 4 (some .int) [(0, 9, 12, 28), (0, 9, 15, 19)] ∈ aW := aw_t (ti_4 (List.mem_of_getElem? (i := 17) rfl)) rfl
theorem w_738 : Cond.classLink RL 28 "java/lang/IndexOutOfBoundsException" ∈ aW := aw_t (ti_4 (List.mem_of_getElem? (i := 18) rfl)) rfl
theorem w_739 : Cond.methodLink RL 24 yX5_find ∈ aW := aw_t (ti_4 (List.mem_of_getElem? (i := 19) rfl)) rfl
theorem w_740 : Cond.instanceMethod yX5_find ∈ aW := aw_t (ti_4 (List.mem_of_getElem? (i := 20) rfl)) rfl
theorem w_741 : Cond.selects RX5 yX5_find yX5_find ∈ aW := aw_t (ti_4 (List.mem_of_getElem? (i := 21) rfl)) rfl
theorem w_742 : Cond.code yX5_find cX5_find 2 (some .int) ∈ aW := aw_t (ti_4 (List.mem_of_getElem? (i := 22) rfl)) rfl
theorem w_743 : Cond.classLink RX5 98 "java/lang/IndexOutOfBoundsException" ∈ aW := aw_t (ti_4 (List.mem_of_getElem? (i := 23) rfl)) rfl
theorem w_744 : Cond.instantiable "java/lang/IndexOutOfBoundsException" 6 ∈ aW := aw_t (ti_4 (List.mem_of_getElem? (i := 24) rfl)) rfl
theorem w_746 : Cond.selects "java/lang/IndexOutOfBoundsException" ⟨"java/lang/Throwable", "fillInStackTrace", "(I)Ljava/lang/Throwable;"⟩ ⟨"java/lang/Throwable", "fillInStackTrace", "(I)Ljava/lang/Throwable;"⟩ ∈ aW := aw_t (ti_4 (List.mem_of_getElem? (i := 26) rfl)) rfl
theorem w_747 : Cond.lays "java/lang/IndexOutOfBoundsException" "java/lang/Throwable" "cause" "Ljava/lang/Throwable;" ∈ aW := aw_t (ti_4 (List.mem_of_getElem? (i := 27) rfl)) rfl
theorem w_748 : Cond.lays "java/lang/IndexOutOfBoundsException" "java/lang/Throwable" "stackTrace" "[Ljava/lang/StackTraceElement;" ∈ aW := aw_t (ti_4 (List.mem_of_getElem? (i := 28) rfl)) rfl
theorem w_749 : Cond.lays "java/lang/IndexOutOfBoundsException" "java/lang/Throwable" "suppressedExceptions" "Ljava/util/List;" ∈ aW := aw_t (ti_4 (List.mem_of_getElem? (i := 29) rfl)) rfl
theorem w_750 : Cond.lays "java/lang/IndexOutOfBoundsException" "java/lang/Throwable" "detailMessage" "Ljava/lang/String;" ∈ aW := aw_t (ti_4 (List.mem_of_getElem? (i := 30) rfl)) rfl
theorem w_751 : Cond.lays "java/lang/IndexOutOfBoundsException" "java/lang/Throwable" "backtrace" "Ljava/lang/Object;" ∈ aW := aw_t (ti_4 (List.mem_of_getElem? (i := 31) rfl)) rfl
theorem w_752 : Cond.methodLink RX5 100 ⟨"java/lang/IndexOutOfBoundsException", "<init>", "()V"⟩ ∈ aW := aw_t (ti_4 (List.mem_of_getElem? (i := 32) rfl)) rfl
theorem w_753 : Cond.instanceMethod ⟨"java/lang/IndexOutOfBoundsException", "<init>", "()V"⟩ ∈ aW := aw_t (ti_4 (List.mem_of_getElem? (i := 33) rfl)) rfl
theorem w_754 : Cond.code ⟨"java/lang/IndexOutOfBoundsException", "<init>", "()V"⟩ prog_13_method_1_code 1 none ∈ aW := aw_t (ti_4 (List.mem_of_getElem? (i := 34) rfl)) rfl
theorem w_755 : Cond.methodLink "java/lang/IndexOutOfBoundsException" 1 ⟨"java/lang/RuntimeException", "<init>", "()V"⟩ ∈ aW := aw_t (ti_4 (List.mem_of_getElem? (i := 35) rfl)) rfl
theorem w_756 : Cond.lays "java/lang/IndexOutOfBoundsException" "java/lang/Throwable" "depth" "I" ∈ aW := aw_t (ti_4 (List.mem_of_getElem? (i := 36) rfl)) rfl
theorem w_758 : Cond.methodLink RL 83 yL_start ∈ aW := aw_t (ti_4 (List.mem_of_getElem? (i := 38) rfl)) rfl
theorem w_759 : Cond.static yL_start ∈ aW := aw_t (ti_4 (List.mem_of_getElem? (i := 39) rfl)) rfl
theorem w_760 : Cond.codeWith yL_start cL_start 4 (some .int) [(0, 9, 12, 19), (0, 9, 15, 28)] ∈ aW := aw_t (ti_4 (List.mem_of_getElem? (i := 40) rfl)) rfl
theorem w_761 : Cond.methodLink RL 30 yX5_start ∈ aW := aw_t (ti_4 (List.mem_of_getElem? (i := 41) rfl)) rfl
theorem w_762 : Cond.instanceMethod yX5_start ∈ aW := aw_t (ti_4 (List.mem_of_getElem? (i := 42) rfl)) rfl
theorem w_763 : Cond.selects RX5 yX5_start yX5_start ∈ aW := aw_t (ti_4 (List.mem_of_getElem? (i := 43) rfl)) rfl
theorem w_764 : Cond.code yX5_start cX5_start 2 (some .int) ∈ aW := aw_t (ti_4 (List.mem_of_getElem? (i := 44) rfl)) rfl
theorem w_765 : Cond.methodLink RX5 104 yX5_isGroup ∈ aW := aw_t (ti_4 (List.mem_of_getElem? (i := 45) rfl)) rfl
theorem w_767 : Cond.instanceMethod yX5_isGroup ∈ aW := aw_t (ti_4 (List.mem_of_getElem? (i := 47) rfl)) rfl
theorem w_768 : Cond.code yX5_isGroup cX5_isGroup 2 (some .boolean) ∈ aW := aw_t (ti_4 (List.mem_of_getElem? (i := 48) rfl)) rfl
theorem w_769 : Cond.methodLink RX5 107 yX5_groupFrom ∈ aW := aw_t (ti_4 (List.mem_of_getElem? (i := 49) rfl)) rfl
theorem w_771 : Cond.instanceMethod yX5_groupFrom ∈ aW := aw_t (ti_4 (List.mem_of_getElem? (i := 51) rfl)) rfl
theorem w_772 : Cond.code yX5_groupFrom cX5_groupFrom 2 (some .int) ∈ aW := aw_t (ti_4 (List.mem_of_getElem? (i := 52) rfl)) rfl
theorem w_773 : Cond.methodLink RL 86 yL_end ∈ aW := aw_t (ti_4 (List.mem_of_getElem? (i := 53) rfl)) rfl
theorem w_774 : Cond.static yL_end ∈ aW := aw_t (ti_4 (List.mem_of_getElem? (i := 54) rfl)) rfl
theorem w_775 : Cond.codeWith yL_end cL_end 4 (some .int) [(0, 9, 12, 19), (0, 9, 15, 28)] ∈ aW := aw_t (ti_4 (List.mem_of_getElem? (i := 55) rfl)) rfl
theorem w_776 : Cond.methodLink RL 33 yX5_end ∈ aW := aw_t (ti_4 (List.mem_of_getElem? (i := 56) rfl)) rfl
theorem w_777 : Cond.instanceMethod yX5_end ∈ aW := aw_t (ti_4 (List.mem_of_getElem? (i := 57) rfl)) rfl
theorem w_778 : Cond.selects RX5 yX5_end yX5_end ∈ aW := aw_t (ti_4 (List.mem_of_getElem? (i := 58) rfl)) rfl
theorem w_779 : Cond.code yX5_end cX5_end 2 (some .int) ∈ aW := aw_t (ti_4 (List.mem_of_getElem? (i := 59) rfl)) rfl
theorem w_780 : Cond.methodLink RX5 111 yX5_groupTo ∈ aW := aw_t (ti_4 (List.mem_of_getElem? (i := 60) rfl)) rfl
theorem w_782 : Cond.instanceMethod yX5_groupTo ∈ aW := aw_t (ti_4 (List.mem_of_getElem? (i := 62) rfl)) rfl
theorem w_783 : Cond.code yX5_groupTo cX5_groupTo 2 (some .int) ∈ aW := aw_t (ti_4 (List.mem_of_getElem? (i := 63) rfl)) rfl
theorem w_784 : Cond.methodLink RL 89 yL_replace ∈ aW := aw_t (ti_4 (List.mem_of_getElem? (i := 64) rfl)) rfl
theorem w_785 : Cond.static yL_replace ∈ aW := aw_t (ti_4 (List.mem_of_getElem? (i := 65) rfl)) rfl
theorem w_786 : Cond.codeWith yL_replace cL_replace 3 (some .int) [(0, 8, 11, 19), (0, 8, 14, 13), (0, 8, 17, 28)] ∈ aW := aw_t (ti_4 (List.mem_of_getElem? (i := 66) rfl)) rfl
theorem w_787 : Cond.methodLink RL 36 yX5_replace ∈ aW := aw_t (ti_4 (List.mem_of_getElem? (i := 67) rfl)) rfl
theorem w_788 : Cond.instanceMethod yX5_replace ∈ aW := aw_t (ti_4 (List.mem_of_getElem? (i := 68) rfl)) rfl
theorem w_789 : Cond.selects RX5 yX5_replace yX5_replace ∈ aW := aw_t (ti_4 (List.mem_of_getElem? (i := 69) rfl)) rfl
theorem w_790 : Cond.code yX5_replace cX5_replace 5 (some .int) ∈ aW := aw_t (ti_4 (List.mem_of_getElem? (i := 70) rfl)) rfl
theorem w_791 : Cond.methodLink RX5 114 yX5_templateFault ∈ aW := aw_t (ti_4 (List.mem_of_getElem? (i := 71) rfl)) rfl
theorem w_793 : Cond.instanceMethod yX5_templateFault ∈ aW := aw_t (ti_4 (List.mem_of_getElem? (i := 73) rfl)) rfl
theorem w_794 : Cond.code yX5_templateFault cX5_templateFault 6 (some .int) ∈ aW := aw_t (ti_4 (List.mem_of_getElem? (i := 74) rfl)) rfl
theorem w_795 : Cond.methodLink RX5 130 yX3_at ∈ aW := aw_t (ti_4 (List.mem_of_getElem? (i := 75) rfl)) rfl
theorem w_796 : Cond.methodLink RX5 164 yX5_isDigit ∈ aW := aw_t (ti_4 (List.mem_of_getElem? (i := 76) rfl)) rfl
theorem w_797 : Cond.static yX5_isDigit ∈ aW := aw_t (ti_4 (List.mem_of_getElem? (i := 77) rfl)) rfl
theorem w_798 : Cond.code yX5_isDigit cX5_isDigit 1 (some .boolean) ∈ aW := aw_t (ti_4 (List.mem_of_getElem? (i := 78) rfl)) rfl
theorem w_799 : Cond.methodLink RX5 117 yX5_makeFromText ∈ aW := aw_t (ti_4 (List.mem_of_getElem? (i := 79) rfl)) rfl
theorem w_801 : Cond.instanceMethod yX5_makeFromText ∈ aW := aw_t (ti_4 (List.mem_of_getElem? (i := 81) rfl)) rfl
theorem w_802 : Cond.code yX5_makeFromText cX5_makeFromText 4 none ∈ aW := aw_t (ti_4 (List.mem_of_getElem? (i := 82) rfl)) rfl
theorem w_803 : Cond.methodLink RX5 121 yX5_makeFromTemplate ∈ aW := aw_t (ti_4 (List.mem_of_getElem? (i := 83) rfl)) rfl
theorem w_805 : Cond.instanceMethod yX5_makeFromTemplate ∈ aW := aw_t (ti_4 (List.mem_of_getElem? (i := 85) rfl)) rfl
theorem w_806 : Cond.code yX5_makeFromTemplate cX5_makeFromTemplate 5 none ∈ aW := aw_t (ti_4 (List.mem_of_getElem? (i := 86) rfl)) rfl
theorem w_807 : Cond.methodLink RX5 127 yX5_placeAfterMatch ∈ aW := aw_t (ti_4 (List.mem_of_getElem? (i := 87) rfl)) rfl
theorem w_809 : Cond.instanceMethod yX5_placeAfterMatch ∈ aW := aw_t (ti_4 (List.mem_of_getElem? (i := 89) rfl)) rfl
theorem w_810 : Cond.code yX5_placeAfterMatch cX5_placeAfterMatch 1 (some .int) ∈ aW := aw_t (ti_4 (List.mem_of_getElem? (i := 90) rfl)) rfl
theorem w_811 : Cond.methodLink RL 92 yL_replaced ∈ aW := aw_t (ti_4 (List.mem_of_getElem? (i := 91) rfl)) rfl
theorem w_812 : Cond.static yL_replaced ∈ aW := aw_t (ti_4 (List.mem_of_getElem? (i := 92) rfl)) rfl
theorem w_813 : Cond.codeWith yL_replaced cL_replaced 4 (some .int) [(0, 9, 12, 28)] ∈ aW := aw_t (ti_4 (List.mem_of_getElem? (i := 93) rfl)) rfl
theorem w_814 : Cond.methodLink RL 39 yX5_replaced ∈ aW := aw_t (ti_4 (List.mem_of_getElem? (i := 94) rfl)) rfl
theorem w_815 : Cond.instanceMethod yX5_replaced ∈ aW := aw_t (ti_4 (List.mem_of_getElem? (i := 95) rfl)) rfl
theorem w_816 : Cond.selects RX5 yX5_replaced yX5_replaced ∈ aW := aw_t (ti_4 (List.mem_of_getElem? (i := 96) rfl)) rfl
theorem w_817 : Cond.code yX5_replaced cX5_replaced 2 (some .char) ∈ aW := aw_t (ti_4 (List.mem_of_getElem? (i := 97) rfl)) rfl
theorem w_818 : Cond.methodLink RL 95 yL_split ∈ aW := aw_t (ti_4 (List.mem_of_getElem? (i := 98) rfl)) rfl
theorem w_819 : Cond.static yL_split ∈ aW := aw_t (ti_4 (List.mem_of_getElem? (i := 99) rfl)) rfl
theorem w_820 : Cond.codeWith yL_split cL_split 3 (some .int) [(0, 8, 11, 19)] ∈ aW := aw_t (ti_4 (List.mem_of_getElem? (i := 100) rfl)) rfl
theorem w_821 : Cond.methodLink RL 43 yX5_split ∈ aW := aw_t (ti_4 (List.mem_of_getElem? (i := 101) rfl)) rfl
theorem w_822 : Cond.instanceMethod yX5_split ∈ aW := aw_t (ti_4 (List.mem_of_getElem? (i := 102) rfl)) rfl
theorem w_823 : Cond.selects RX5 yX5_split yX5_split ∈ aW := aw_t (ti_4 (List.mem_of_getElem? (i := 103) rfl)) rfl
theorem w_824 : Cond.code yX5_split cX5_split 4 (some .int) ∈ aW := aw_t (ti_4 (List.mem_of_getElem? (i := 104) rfl)) rfl
theorem w_825 : Cond.methodLink RX5 137 yX5_addPiece ∈ aW := aw_t (ti_4 (List.mem_of_getElem? (i := 105) rfl)) rfl
theorem w_827 : Cond.instanceMethod yX5_addPiece ∈ aW := aw_t (ti_4 (List.mem_of_getElem? (i := 107) rfl)) rfl
theorem w_828 : Cond.code yX5_addPiece cX5_addPiece 3 none ∈ aW := aw_t (ti_4 (List.mem_of_getElem? (i := 108) rfl)) rfl
theorem w_829 : Cond.methodLink RX5 140 yX5_dropEmptyPiecesAtEnd ∈ aW := aw_t (ti_4 (List.mem_of_getElem? (i := 109) rfl)) rfl
theorem w_831 : Cond.instanceMethod yX5_dropEmptyPiecesAtEnd ∈ aW := aw_t (ti_4 (List.mem_of_getElem? (i := 111) rfl)) rfl
theorem w_832 : Cond.code yX5_dropEmptyPiecesAtEnd cX5_dropEmptyPiecesAtEnd 1 none ∈ aW := aw_t (ti_4 (List.mem_of_getElem? (i := 112) rfl)) rfl
theorem w_833 : Cond.methodLink RL 98 yL_piece ∈ aW := aw_t (ti_4 (List.mem_of_getElem? (i := 113) rfl)) rfl
theorem w_834 : Cond.static yL_piece ∈ aW := aw_t (ti_4 (List.mem_of_getElem? (i := 114) rfl)) rfl
theorem w_835 : Cond.codeWith yL_piece cL_piece 5 (some .int) [(0, 10, 13, 28)] ∈ aW := aw_t (ti_4 (List.mem_of_getElem? (i := 115) rfl)) rfl
theorem w_836 : Cond.methodLink RL 46 yX5_piece ∈ aW := aw_t (ti_4 (List.mem_of_getElem? (i := 116) rfl)) rfl
theorem w_837 : Cond.instanceMethod yX5_piece ∈ aW := aw_t (ti_4 (List.mem_of_getElem? (i := 117) rfl)) rfl
theorem w_838 : Cond.selects RX5 yX5_piece yX5_piece ∈ aW := aw_t (ti_4 (List.mem_of_getElem? (i := 118) rfl)) rfl
theorem w_839 : Cond.code yX5_piece cX5_piece 3 (some .int) ∈ aW := aw_t (ti_4 (List.mem_of_getElem? (i := 119) rfl)) rfl
theorem w_840 : Cond.classLink RL 51 RX6 ∈ aW := aw_t (ti_4 (List.mem_of_getElem? (i := 120) rfl)) rfl
theorem w_841 : Cond.instantiable RX6 48 ∈ aW := aw_t (ti_4 (List.mem_of_getElem? (i := 121) rfl)) rfl
theorem w_842 : Cond.methodLink RL 53 yX6_init ∈ aW := aw_t (ti_4 (List.mem_of_getElem? (i := 122) rfl)) rfl
theorem w_843 : Cond.instanceMethod yX6_init ∈ aW := aw_t (ti_4 (List.mem_of_getElem? (i := 123) rfl)) rfl
theorem w_844 : Cond.code yX6_init cX6_init 1 none ∈ aW := aw_t (ti_4 (List.mem_of_getElem? (i := 124) rfl)) rfl
theorem w_845 : Cond.methodLink RX6 1 objectInit ∈ aW := aw_t (ti_4 (List.mem_of_getElem? (i := 125) rfl)) rfl
theorem w_846 : Cond.fieldLink RX6 102 "PatternMatcherModel" "code" "I" ∈ aW := aw_t (ti_4 (List.mem_of_getElem? (i := 126) rfl)) rfl
theorem w_847 : Cond.fieldLink RX6 7 "PatternMatcherModel" "row" "[I" ∈ aW := aw_t (ti_4 (List.mem_of_getElem? (i := 127) rfl)) rfl
theorem w_848 : Cond.fieldLink RX6 13 "PatternMatcherModel" "length" "[I" ∈ aW := aw_t (ti_4 (List.mem_of_getElem? (i := 128) rfl)) rfl
theorem w_849 : Cond.fieldLink RX6 117 "PatternMatcherModel" "base" "I" ∈ aW := aw_t (ti_4 (List.mem_of_getElem? (i := 129) rfl)) rfl
theorem w_850 : Cond.fieldLink RX6 120 "PatternMatcherModel" "used" "I" ∈ aW := aw_t (ti_4 (List.mem_of_getElem? (i := 130) rfl)) rfl
theorem w_851 : Cond.fieldLink RX6 202 "PatternMatcherModel" "groups" "I" ∈ aW := aw_t (ti_4 (List.mem_of_getElem? (i := 131) rfl)) rfl
theorem w_852 : Cond.fieldLink RX6 140 "PatternMatcherModel" "open" "I" ∈ aW := aw_t (ti_4 (List.mem_of_getElem? (i := 132) rfl)) rfl
theorem w_853 : Cond.fieldLink RX6 205 "PatternMatcherModel" "compiled" "Z" ∈ aW := aw_t (ti_4 (List.mem_of_getElem? (i := 133) rfl)) rfl
theorem w_854 : Cond.fieldLink RX6 16 "PatternMatcherModel" "type" "[I" ∈ aW := aw_t (ti_4 (List.mem_of_getElem? (i := 134) rfl)) rfl
theorem w_855 : Cond.fieldLink RX6 19 "PatternMatcherModel" "a" "[I" ∈ aW := aw_t (ti_4 (List.mem_of_getElem? (i := 135) rfl)) rfl
theorem w_856 : Cond.fieldLink RX6 22 "PatternMatcherModel" "b" "[I" ∈ aW := aw_t (ti_4 (List.mem_of_getElem? (i := 136) rfl)) rfl
theorem w_857 : Cond.fieldLink RX6 25 "PatternMatcherModel" "mode" "[I" ∈ aW := aw_t (ti_4 (List.mem_of_getElem? (i := 137) rfl)) rfl
theorem w_858 : Cond.fieldLink RX6 28 "PatternMatcherModel" "kid" "[I" ∈ aW := aw_t (ti_4 (List.mem_of_getElem? (i := 138) rfl)) rfl
theorem w_859 : Cond.fieldLink RX6 31 "PatternMatcherModel" "sibling" "[I" ∈ aW := aw_t (ti_4 (List.mem_of_getElem? (i := 139) rfl)) rfl
theorem w_860 : Cond.fieldLink RX6 34 "PatternMatcherModel" "low" "[J" ∈ aW := aw_t (ti_4 (List.mem_of_getElem? (i := 140) rfl)) rfl
theorem w_861 : Cond.fieldLink RX6 38 "PatternMatcherModel" "high" "[J" ∈ aW := aw_t (ti_4 (List.mem_of_getElem? (i := 141) rfl)) rfl
theorem w_862 : Cond.fieldLink RX6 126 "PatternMatcherModel" "depth" "I" ∈ aW := aw_t (ti_4 (List.mem_of_getElem? (i := 142) rfl)) rfl
theorem w_863 : Cond.fieldLink RX6 114 "PatternMatcherModel" "at" "I" ∈ aW := aw_t (ti_4 (List.mem_of_getElem? (i := 143) rfl)) rfl
theorem w_864 : Cond.fieldLink RX6 41 "PatternMatcherModel" "bracket" "[I" ∈ aW := aw_t (ti_4 (List.mem_of_getElem? (i := 144) rfl)) rfl
theorem w_865 : Cond.fieldLink RX6 44 "PatternMatcherModel" "choice" "[I" ∈ aW := aw_t (ti_4 (List.mem_of_getElem? (i := 145) rfl)) rfl
theorem w_866 : Cond.fieldLink RX6 47 "PatternMatcherModel" "sequence" "[I" ∈ aW := aw_t (ti_4 (List.mem_of_getElem? (i := 146) rfl)) rfl
theorem w_867 : Cond.fieldLink RX6 50 "PatternMatcherModel" "tail" "[I" ∈ aW := aw_t (ti_4 (List.mem_of_getElem? (i := 147) rfl)) rfl
theorem w_868 : Cond.fieldLink RX6 53 "PatternMatcherModel" "behind" "[Z" ∈ aW := aw_t (ti_4 (List.mem_of_getElem? (i := 148) rfl)) rfl
theorem w_869 : Cond.fieldLink RX6 217 "PatternMatcherModel" "place" "I" ∈ aW := aw_t (ti_4 (List.mem_of_getElem? (i := 149) rfl)) rfl
theorem w_870 : Cond.fieldLink RX6 230 "PatternMatcherModel" "node" "I" ∈ aW := aw_t (ti_4 (List.mem_of_getElem? (i := 150) rfl)) rfl
theorem w_871 : Cond.fieldLink RX6 227 "PatternMatcherModel" "next" "I" ∈ aW := aw_t (ti_4 (List.mem_of_getElem? (i := 151) rfl)) rfl
theorem w_872 : Cond.fieldLink RX6 208 "PatternMatcherModel" "linked" "I" ∈ aW := aw_t (ti_4 (List.mem_of_getElem? (i := 152) rfl)) rfl
theorem w_873 : Cond.fieldLink RX6 211 "PatternMatcherModel" "ways" "I" ∈ aW := aw_t (ti_4 (List.mem_of_getElem? (i := 153) rfl)) rfl
theorem w_874 : Cond.fieldLink RX6 220 "PatternMatcherModel" "whole" "I" ∈ aW := aw_t (ti_4 (List.mem_of_getElem? (i := 154) rfl)) rfl
theorem w_875 : Cond.fieldLink RX6 233 "PatternMatcherModel" "alive" "Z" ∈ aW := aw_t (ti_4 (List.mem_of_getElem? (i := 155) rfl)) rfl
theorem w_876 : Cond.fieldLink RX6 57 "PatternMatcherModel" "span" "[I" ∈ aW := aw_t (ti_4 (List.mem_of_getElem? (i := 156) rfl)) rfl
theorem w_877 : Cond.fieldLink RX6 60 "PatternMatcherModel" "linkKind" "[I" ∈ aW := aw_t (ti_4 (List.mem_of_getElem? (i := 157) rfl)) rfl
theorem w_878 : Cond.fieldLink RX6 63 "PatternMatcherModel" "linkA" "[I" ∈ aW := aw_t (ti_4 (List.mem_of_getElem? (i := 158) rfl)) rfl
theorem w_879 : Cond.fieldLink RX6 66 "PatternMatcherModel" "linkB" "[I" ∈ aW := aw_t (ti_4 (List.mem_of_getElem? (i := 159) rfl)) rfl
theorem w_880 : Cond.fieldLink RX6 69 "PatternMatcherModel" "linkTo" "[I" ∈ aW := aw_t (ti_4 (List.mem_of_getElem? (i := 160) rfl)) rfl
theorem w_881 : Cond.fieldLink RX6 72 "PatternMatcherModel" "wayNode" "[I" ∈ aW := aw_t (ti_4 (List.mem_of_getElem? (i := 161) rfl)) rfl
theorem w_882 : Cond.fieldLink RX6 75 "PatternMatcherModel" "wayCount" "[I" ∈ aW := aw_t (ti_4 (List.mem_of_getElem? (i := 162) rfl)) rfl
theorem w_883 : Cond.fieldLink RX6 78 "PatternMatcherModel" "wayPlace" "[I" ∈ aW := aw_t (ti_4 (List.mem_of_getElem? (i := 163) rfl)) rfl
theorem w_884 : Cond.fieldLink RX6 81 "PatternMatcherModel" "wayNext" "[I" ∈ aW := aw_t (ti_4 (List.mem_of_getElem? (i := 164) rfl)) rfl
theorem w_885 : Cond.fieldLink RX6 84 "PatternMatcherModel" "wayLinked" "[I" ∈ aW := aw_t (ti_4 (List.mem_of_getElem? (i := 165) rfl)) rfl
theorem w_886 : Cond.fieldLink RX6 87 "PatternMatcherModel" "waySpan" "[I" ∈ aW := aw_t (ti_4 (List.mem_of_getElem? (i := 166) rfl)) rfl
theorem w_887 : Cond.fieldLink RX6 110 "PatternMatcherModel" "matched" "Z" ∈ aW := aw_t (ti_4 (List.mem_of_getElem? (i := 167) rfl)) rfl
theorem w_888 : Cond.fieldLink RX6 90 "PatternMatcherModel" "match" "[I" ∈ aW := aw_t (ti_4 (List.mem_of_getElem? (i := 168) rfl)) rfl
theorem w_889 : Cond.fieldLink RX6 308 "PatternMatcherModel" "made" "I" ∈ aW := aw_t (ti_4 (List.mem_of_getElem? (i := 169) rfl)) rfl
theorem w_890 : Cond.fieldLink RX6 93 "PatternMatcherModel" "result" "[I" ∈ aW := aw_t (ti_4 (List.mem_of_getElem? (i := 170) rfl)) rfl
theorem w_891 : Cond.fieldLink RX6 326 "PatternMatcherModel" "pieces" "I" ∈ aW := aw_t (ti_4 (List.mem_of_getElem? (i := 171) rfl)) rfl
theorem w_892 : Cond.fieldLink RX6 96 "PatternMatcherModel" "pieceFrom" "[I" ∈ aW := aw_t (ti_4 (List.mem_of_getElem? (i := 172) rfl)) rfl
theorem w_893 : Cond.fieldLink RX6 99 "PatternMatcherModel" "pieceTo" "[I" ∈ aW := aw_t (ti_4 (List.mem_of_getElem? (i := 173) rfl)) rfl
theorem w_894 : Cond.lays RX6 "PatternMatcherModel" "code" "I" ∈ aW := aw_t (ti_4 (List.mem_of_getElem? (i := 174) rfl)) rfl
theorem w_896 : Cond.laysFinal RX6 "PatternMatcherModel" "row" "[I" ∈ aW := aw_t (ti_4 (List.mem_of_getElem? (i := 176) rfl)) rfl
theorem w_898 : Cond.laysFinal RX6 "PatternMatcherModel" "length" "[I" ∈ aW := aw_t (ti_4 (List.mem_of_getElem? (i := 178) rfl)) rfl
theorem w_900 : Cond.lays RX6 "PatternMatcherModel" "base" "I" ∈ aW := aw_t (ti_4 (List.mem_of_getElem? (i := 180) rfl)) rfl
theorem w_902 : Cond.lays RX6 "PatternMatcherModel" "used" "I" ∈ aW := aw_t (ti_4 (List.mem_of_getElem? (i := 182) rfl)) rfl
theorem w_904 : Cond.lays RX6 "PatternMatcherModel" "groups" "I" ∈ aW := aw_t (ti_4 (List.mem_of_getElem? (i := 184) rfl)) rfl
theorem w_906 : Cond.lays RX6 "PatternMatcherModel" "open" "I" ∈ aW := aw_t (ti_4 (List.mem_of_getElem? (i := 186) rfl)) rfl
theorem w_908 : Cond.lays RX6 "PatternMatcherModel" "compiled" "Z" ∈ aW := aw_t (ti_4 (List.mem_of_getElem? (i := 188) rfl)) rfl
theorem w_910 : Cond.laysFinal RX6 "PatternMatcherModel" "type" "[I" ∈ aW := aw_t (ti_4 (List.mem_of_getElem? (i := 190) rfl)) rfl
theorem w_912 : Cond.laysFinal RX6 "PatternMatcherModel" "a" "[I" ∈ aW := aw_t (ti_4 (List.mem_of_getElem? (i := 192) rfl)) rfl
theorem w_914 : Cond.laysFinal RX6 "PatternMatcherModel" "b" "[I" ∈ aW := aw_t (ti_4 (List.mem_of_getElem? (i := 194) rfl)) rfl
theorem w_916 : Cond.laysFinal RX6 "PatternMatcherModel" "mode" "[I" ∈ aW := aw_t (ti_4 (List.mem_of_getElem? (i := 196) rfl)) rfl
theorem w_918 : Cond.laysFinal RX6 "PatternMatcherModel" "kid" "[I" ∈ aW := aw_t (ti_4 (List.mem_of_getElem? (i := 198) rfl)) rfl
theorem w_920 : Cond.laysFinal RX6 "PatternMatcherModel" "sibling" "[I" ∈ aW := aw_t (ti_4 (List.mem_of_getElem? (i := 200) rfl)) rfl
theorem w_922 : Cond.laysFinal RX6 "PatternMatcherModel" "low" "[J" ∈ aW := aw_t (ti_4 (List.mem_of_getElem? (i := 202) rfl)) rfl
theorem w_924 : Cond.laysFinal RX6 "PatternMatcherModel" "high" "[J" ∈ aW := aw_t (ti_4 (List.mem_of_getElem? (i := 204) rfl)) rfl
theorem w_926 : Cond.lays RX6 "PatternMatcherModel" "depth" "I" ∈ aW := aw_t (ti_4 (List.mem_of_getElem? (i := 206) rfl)) rfl
theorem w_928 : Cond.lays RX6 "PatternMatcherModel" "at" "I" ∈ aW := aw_t (ti_4 (List.mem_of_getElem? (i := 208) rfl)) rfl
theorem w_930 : Cond.laysFinal RX6 "PatternMatcherModel" "bracket" "[I" ∈ aW := aw_t (ti_4 (List.mem_of_getElem? (i := 210) rfl)) rfl
theorem w_932 : Cond.laysFinal RX6 "PatternMatcherModel" "choice" "[I" ∈ aW := aw_t (ti_4 (List.mem_of_getElem? (i := 212) rfl)) rfl
theorem w_934 : Cond.laysFinal RX6 "PatternMatcherModel" "sequence" "[I" ∈ aW := aw_t (ti_4 (List.mem_of_getElem? (i := 214) rfl)) rfl
theorem w_936 : Cond.laysFinal RX6 "PatternMatcherModel" "tail" "[I" ∈ aW := aw_t (ti_4 (List.mem_of_getElem? (i := 216) rfl)) rfl
theorem w_938 : Cond.laysFinal RX6 "PatternMatcherModel" "behind" "[Z" ∈ aW := aw_t (ti_4 (List.mem_of_getElem? (i := 218) rfl)) rfl
theorem w_940 : Cond.lays RX6 "PatternMatcherModel" "place" "I" ∈ aW := aw_t (ti_4 (List.mem_of_getElem? (i := 220) rfl)) rfl
theorem w_942 : Cond.lays RX6 "PatternMatcherModel" "node" "I" ∈ aW := aw_t (ti_4 (List.mem_of_getElem? (i := 222) rfl)) rfl
theorem w_944 : Cond.lays RX6 "PatternMatcherModel" "next" "I" ∈ aW := aw_t (ti_4 (List.mem_of_getElem? (i := 224) rfl)) rfl
theorem w_946 : Cond.lays RX6 "PatternMatcherModel" "linked" "I" ∈ aW := aw_t (ti_4 (List.mem_of_getElem? (i := 226) rfl)) rfl
theorem w_948 : Cond.lays RX6 "PatternMatcherModel" "ways" "I" ∈ aW := aw_t (ti_4 (List.mem_of_getElem? (i := 228) rfl)) rfl
theorem w_950 : Cond.lays RX6 "PatternMatcherModel" "whole" "I" ∈ aW := aw_t (ti_4 (List.mem_of_getElem? (i := 230) rfl)) rfl
theorem w_952 : Cond.lays RX6 "PatternMatcherModel" "alive" "Z" ∈ aW := aw_t (ti_4 (List.mem_of_getElem? (i := 232) rfl)) rfl
theorem w_954 : Cond.laysFinal RX6 "PatternMatcherModel" "span" "[I" ∈ aW := aw_t (ti_4 (List.mem_of_getElem? (i := 234) rfl)) rfl
theorem w_956 : Cond.laysFinal RX6 "PatternMatcherModel" "linkKind" "[I" ∈ aW := aw_t (ti_4 (List.mem_of_getElem? (i := 236) rfl)) rfl
theorem w_958 : Cond.laysFinal RX6 "PatternMatcherModel" "linkA" "[I" ∈ aW := aw_t (ti_4 (List.mem_of_getElem? (i := 238) rfl)) rfl
theorem w_960 : Cond.laysFinal RX6 "PatternMatcherModel" "linkB" "[I" ∈ aW := aw_t (ti_5 (List.mem_of_getElem? (i := 0) rfl)) rfl
theorem w_962 : Cond.laysFinal RX6 "PatternMatcherModel" "linkTo" "[I" ∈ aW := aw_t (ti_5 (List.mem_of_getElem? (i := 2) rfl)) rfl
theorem w_964 : Cond.laysFinal RX6 "PatternMatcherModel" "wayNode" "[I" ∈ aW := aw_t (ti_5 (List.mem_of_getElem? (i := 4) rfl)) rfl
theorem w_966 : Cond.laysFinal RX6 "PatternMatcherModel" "wayCount" "[I" ∈ aW := aw_t (ti_5 (List.mem_of_getElem? (i := 6) rfl)) rfl
theorem w_968 : Cond.laysFinal RX6 "PatternMatcherModel" "wayPlace" "[I" ∈ aW := aw_t (ti_5 (List.mem_of_getElem? (i := 8) rfl)) rfl
theorem w_970 : Cond.laysFinal RX6 "PatternMatcherModel" "wayNext" "[I" ∈ aW := aw_t (ti_5 (List.mem_of_getElem? (i := 10) rfl)) rfl
theorem w_972 : Cond.laysFinal RX6 "PatternMatcherModel" "wayLinked" "[I" ∈ aW := aw_t (ti_5 (List.mem_of_getElem? (i := 12) rfl)) rfl
theorem w_974 : Cond.laysFinal RX6 "PatternMatcherModel" "waySpan" "[I" ∈ aW := aw_t (ti_5 (List.mem_of_getElem? (i := 14) rfl)) rfl
theorem w_976 : Cond.lays RX6 "PatternMatcherModel" "matched" "Z" ∈ aW := aw_t (ti_5 (List.mem_of_getElem? (i := 16) rfl)) rfl
theorem w_978 : Cond.laysFinal RX6 "PatternMatcherModel" "match" "[I" ∈ aW := aw_t (ti_5 (List.mem_of_getElem? (i := 18) rfl)) rfl
theorem w_980 : Cond.lays RX6 "PatternMatcherModel" "made" "I" ∈ aW := aw_t (ti_5 (List.mem_of_getElem? (i := 20) rfl)) rfl
theorem w_982 : Cond.laysFinal RX6 "PatternMatcherModel" "result" "[I" ∈ aW := aw_t (ti_5 (List.mem_of_getElem? (i := 22) rfl)) rfl
theorem w_984 : Cond.lays RX6 "PatternMatcherModel" "pieces" "I" ∈ aW := aw_t (ti_5 (List.mem_of_getElem? (i := 24) rfl)) rfl
theorem w_986 : Cond.laysFinal RX6 "PatternMatcherModel" "pieceFrom" "[I" ∈ aW := aw_t (ti_5 (List.mem_of_getElem? (i := 26) rfl)) rfl
theorem w_988 : Cond.laysFinal RX6 "PatternMatcherModel" "pieceTo" "[I" ∈ aW := aw_t (ti_5 (List.mem_of_getElem? (i := 28) rfl)) rfl
theorem w_991 : Cond.arrayClass .boolean ∈ aW := aw_t (ti_5 (List.mem_of_getElem? (i := 31) rfl)) rfl
theorem w_992 : Cond.methodLink RL 70 yX6_thrown ∈ aW := aw_t (ti_5 (List.mem_of_getElem? (i := 32) rfl)) rfl
theorem w_993 : Cond.instanceMethod yX6_thrown ∈ aW := aw_t (ti_5 (List.mem_of_getElem? (i := 33) rfl)) rfl
theorem w_994 : Cond.selects RX6 yX6_thrown yX6_thrown ∈ aW := aw_t (ti_5 (List.mem_of_getElem? (i := 34) rfl)) rfl
theorem w_995 : Cond.code yX6_thrown cX6_thrown 1 (some .int) ∈ aW := aw_t (ti_5 (List.mem_of_getElem? (i := 35) rfl)) rfl
theorem w_996 : Cond.methodLink RL 58 yX6_type ∈ aW := aw_t (ti_5 (List.mem_of_getElem? (i := 36) rfl)) rfl
theorem w_997 : Cond.instanceMethod yX6_type ∈ aW := aw_t (ti_5 (List.mem_of_getElem? (i := 37) rfl)) rfl
theorem w_998 : Cond.selects RX6 yX6_type yX6_type ∈ aW := aw_t (ti_5 (List.mem_of_getElem? (i := 38) rfl)) rfl
theorem w_999 : Cond.code yX6_type cX6_type 3 (some .boolean) ∈ aW := aw_t (ti_5 (List.mem_of_getElem? (i := 39) rfl)) rfl
theorem w_1000 : Cond.methodLink RX6 106 yX6_room ∈ aW := aw_t (ti_5 (List.mem_of_getElem? (i := 40) rfl)) rfl
theorem w_1001 : Cond.static yX6_room ∈ aW := aw_t (ti_5 (List.mem_of_getElem? (i := 41) rfl)) rfl
theorem w_1002 : Cond.code yX6_room cX6_room 1 (some .int) ∈ aW := aw_t (ti_5 (List.mem_of_getElem? (i := 42) rfl)) rfl
theorem w_1003 : Cond.methodLink RL 63 yX6_clear ∈ aW := aw_t (ti_5 (List.mem_of_getElem? (i := 43) rfl)) rfl
theorem w_1004 : Cond.instanceMethod yX6_clear ∈ aW := aw_t (ti_5 (List.mem_of_getElem? (i := 44) rfl)) rfl
theorem w_1005 : Cond.selects RX6 yX6_clear yX6_clear ∈ aW := aw_t (ti_5 (List.mem_of_getElem? (i := 45) rfl)) rfl
theorem w_1006 : Cond.code yX6_clear cX6_clear 2 (some .boolean) ∈ aW := aw_t (ti_5 (List.mem_of_getElem? (i := 46) rfl)) rfl
theorem w_1007 : Cond.methodLink RL 105 yX6_length ∈ aW := aw_t (ti_5 (List.mem_of_getElem? (i := 47) rfl)) rfl
theorem w_1008 : Cond.instanceMethod yX6_length ∈ aW := aw_t (ti_5 (List.mem_of_getElem? (i := 48) rfl)) rfl
theorem w_1009 : Cond.selects RX6 yX6_length yX6_length ∈ aW := aw_t (ti_5 (List.mem_of_getElem? (i := 49) rfl)) rfl
theorem w_1010 : Cond.code yX6_length cX6_length 2 (some .int) ∈ aW := aw_t (ti_5 (List.mem_of_getElem? (i := 50) rfl)) rfl
theorem w_1011 : Cond.methodLink RL 69 yX6_compile ∈ aW := aw_t (ti_5 (List.mem_of_getElem? (i := 51) rfl)) rfl
theorem w_1012 : Cond.instanceMethod yX6_compile ∈ aW := aw_t (ti_5 (List.mem_of_getElem? (i := 52) rfl)) rfl
theorem w_1013 : Cond.selects RX6 yX6_compile yX6_compile ∈ aW := aw_t (ti_5 (List.mem_of_getElem? (i := 53) rfl)) rfl
theorem w_1014 : Cond.code yX6_compile cX6_compile 1 (some .int) ∈ aW := aw_t (ti_5 (List.mem_of_getElem? (i := 54) rfl)) rfl
theorem w_1015 : Cond.methodLink RX6 196 yX6_read ∈ aW := aw_t (ti_5 (List.mem_of_getElem? (i := 55) rfl)) rfl
theorem w_1017 : Cond.instanceMethod yX6_read ∈ aW := aw_t (ti_5 (List.mem_of_getElem? (i := 57) rfl)) rfl
theorem w_1018 : Cond.code yX6_read cX6_read 3 (some .boolean) ∈ aW := aw_t (ti_5 (List.mem_of_getElem? (i := 58) rfl)) rfl
theorem w_1019 : Cond.methodLink RX6 143 yX6_newChoice ∈ aW := aw_t (ti_5 (List.mem_of_getElem? (i := 59) rfl)) rfl
theorem w_1021 : Cond.instanceMethod yX6_newChoice ∈ aW := aw_t (ti_5 (List.mem_of_getElem? (i := 61) rfl)) rfl
theorem w_1022 : Cond.code yX6_newChoice cX6_newChoice 3 none ∈ aW := aw_t (ti_5 (List.mem_of_getElem? (i := 62) rfl)) rfl
theorem w_1023 : Cond.methodLink RX6 123 yX6_create ∈ aW := aw_t (ti_5 (List.mem_of_getElem? (i := 63) rfl)) rfl
theorem w_1025 : Cond.instanceMethod yX6_create ∈ aW := aw_t (ti_5 (List.mem_of_getElem? (i := 65) rfl)) rfl
theorem w_1026 : Cond.code yX6_create cX6_create 3 (some .int) ∈ aW := aw_t (ti_5 (List.mem_of_getElem? (i := 66) rfl)) rfl
theorem w_1027 : Cond.methodLink RX6 129 yX6_newSequence ∈ aW := aw_t (ti_5 (List.mem_of_getElem? (i := 67) rfl)) rfl
theorem w_1029 : Cond.instanceMethod yX6_newSequence ∈ aW := aw_t (ti_5 (List.mem_of_getElem? (i := 69) rfl)) rfl
theorem w_1030 : Cond.code yX6_newSequence cX6_newSequence 2 none ∈ aW := aw_t (ti_5 (List.mem_of_getElem? (i := 70) rfl)) rfl
theorem w_1031 : Cond.methodLink RX6 147 yX6_peek ∈ aW := aw_t (ti_5 (List.mem_of_getElem? (i := 71) rfl)) rfl
theorem w_1033 : Cond.instanceMethod yX6_peek ∈ aW := aw_t (ti_5 (List.mem_of_getElem? (i := 73) rfl)) rfl
theorem w_1034 : Cond.code yX6_peek cX6_peek 2 (some .int) ∈ aW := aw_t (ti_5 (List.mem_of_getElem? (i := 74) rfl)) rfl
theorem w_1035 : Cond.methodLink RX6 150 yX6_bar ∈ aW := aw_t (ti_5 (List.mem_of_getElem? (i := 75) rfl)) rfl
theorem w_1037 : Cond.instanceMethod yX6_bar ∈ aW := aw_t (ti_5 (List.mem_of_getElem? (i := 77) rfl)) rfl
theorem w_1038 : Cond.code yX6_bar cX6_bar 1 (some .boolean) ∈ aW := aw_t (ti_5 (List.mem_of_getElem? (i := 78) rfl)) rfl
theorem w_1039 : Cond.methodLink RX6 154 yX6_bracket ∈ aW := aw_t (ti_5 (List.mem_of_getElem? (i := 79) rfl)) rfl
theorem w_1041 : Cond.instanceMethod yX6_bracket ∈ aW := aw_t (ti_5 (List.mem_of_getElem? (i := 81) rfl)) rfl
theorem w_1042 : Cond.code yX6_bracket cX6_bracket 6 (some .boolean) ∈ aW := aw_t (ti_5 (List.mem_of_getElem? (i := 82) rfl)) rfl
theorem w_1043 : Cond.methodLink RX6 156 yX6_close ∈ aW := aw_t (ti_5 (List.mem_of_getElem? (i := 83) rfl)) rfl
theorem w_1045 : Cond.instanceMethod yX6_close ∈ aW := aw_t (ti_5 (List.mem_of_getElem? (i := 85) rfl)) rfl
theorem w_1046 : Cond.code yX6_close cX6_close 1 (some .boolean) ∈ aW := aw_t (ti_5 (List.mem_of_getElem? (i := 86) rfl)) rfl
theorem w_1047 : Cond.methodLink RX6 162 yX6_loop ∈ aW := aw_t (ti_5 (List.mem_of_getElem? (i := 87) rfl)) rfl
theorem w_1049 : Cond.instanceMethod yX6_loop ∈ aW := aw_t (ti_5 (List.mem_of_getElem? (i := 89) rfl)) rfl
theorem w_1050 : Cond.code yX6_loop cX6_loop 5 (some .boolean) ∈ aW := aw_t (ti_5 (List.mem_of_getElem? (i := 90) rfl)) rfl
theorem w_1051 : Cond.methodLink RX6 186 yX6_append ∈ aW := aw_t (ti_5 (List.mem_of_getElem? (i := 91) rfl)) rfl
theorem w_1053 : Cond.instanceMethod yX6_append ∈ aW := aw_t (ti_5 (List.mem_of_getElem? (i := 93) rfl)) rfl
theorem w_1054 : Cond.code yX6_append cX6_append 2 none ∈ aW := aw_t (ti_5 (List.mem_of_getElem? (i := 94) rfl)) rfl
theorem w_1055 : Cond.methodLink RX6 190 yX6_bounds ∈ aW := aw_t (ti_5 (List.mem_of_getElem? (i := 95) rfl)) rfl
theorem w_1057 : Cond.instanceMethod yX6_bounds ∈ aW := aw_t (ti_5 (List.mem_of_getElem? (i := 97) rfl)) rfl
theorem w_1058 : Cond.code yX6_bounds cX6_bounds 2 (some .boolean) ∈ aW := aw_t (ti_5 (List.mem_of_getElem? (i := 98) rfl)) rfl
theorem w_1059 : Cond.methodLink RX6 193 yX6_isFour ∈ aW := aw_t (ti_5 (List.mem_of_getElem? (i := 99) rfl)) rfl
theorem w_1060 : Cond.static yX6_isFour ∈ aW := aw_t (ti_5 (List.mem_of_getElem? (i := 100) rfl)) rfl
theorem w_1061 : Cond.code yX6_isFour cX6_isFour 1 (some .boolean) ∈ aW := aw_t (ti_5 (List.mem_of_getElem? (i := 101) rfl)) rfl
theorem w_1062 : Cond.methodLink RX6 159 yX6_atom ∈ aW := aw_t (ti_5 (List.mem_of_getElem? (i := 102) rfl)) rfl
theorem w_1064 : Cond.instanceMethod yX6_atom ∈ aW := aw_t (ti_5 (List.mem_of_getElem? (i := 104) rfl)) rfl
theorem w_1065 : Cond.code yX6_atom cX6_atom 3 (some .int) ∈ aW := aw_t (ti_5 (List.mem_of_getElem? (i := 105) rfl)) rfl
theorem w_1066 : Cond.methodLink RX6 165 yX6_escape ∈ aW := aw_t (ti_5 (List.mem_of_getElem? (i := 106) rfl)) rfl
theorem w_1068 : Cond.instanceMethod yX6_escape ∈ aW := aw_t (ti_5 (List.mem_of_getElem? (i := 108) rfl)) rfl
theorem w_1069 : Cond.code yX6_escape cX6_escape 3 (some .int) ∈ aW := aw_t (ti_5 (List.mem_of_getElem? (i := 109) rfl)) rfl
theorem w_1070 : Cond.methodLink RX6 172 yX6_isSpecial ∈ aW := aw_t (ti_5 (List.mem_of_getElem? (i := 110) rfl)) rfl
theorem w_1071 : Cond.static yX6_isSpecial ∈ aW := aw_t (ti_5 (List.mem_of_getElem? (i := 111) rfl)) rfl
theorem w_1072 : Cond.code yX6_isSpecial cX6_isSpecial 1 (some .boolean) ∈ aW := aw_t (ti_5 (List.mem_of_getElem? (i := 112) rfl)) rfl
theorem w_1073 : Cond.methodLink RX6 175 yX6_includeKind ∈ aW := aw_t (ti_5 (List.mem_of_getElem? (i := 113) rfl)) rfl
theorem w_1075 : Cond.instanceMethod yX6_includeKind ∈ aW := aw_t (ti_5 (List.mem_of_getElem? (i := 115) rfl)) rfl
theorem w_1076 : Cond.code yX6_includeKind cX6_includeKind 4 none ∈ aW := aw_t (ti_5 (List.mem_of_getElem? (i := 116) rfl)) rfl
theorem w_1077 : Cond.methodLink RX6 132 yX6_isWord ∈ aW := aw_t (ti_5 (List.mem_of_getElem? (i := 117) rfl)) rfl
theorem w_1078 : Cond.static yX6_isWord ∈ aW := aw_t (ti_5 (List.mem_of_getElem? (i := 118) rfl)) rfl
theorem w_1079 : Cond.code yX6_isWord cX6_isWord 1 (some .boolean) ∈ aW := aw_t (ti_5 (List.mem_of_getElem? (i := 119) rfl)) rfl
theorem w_1080 : Cond.methodLink RX6 136 yX6_include ∈ aW := aw_t (ti_5 (List.mem_of_getElem? (i := 120) rfl)) rfl
theorem w_1082 : Cond.instanceMethod yX6_include ∈ aW := aw_t (ti_5 (List.mem_of_getElem? (i := 122) rfl)) rfl
theorem w_1083 : Cond.code yX6_include cX6_include 3 none ∈ aW := aw_t (ti_5 (List.mem_of_getElem? (i := 123) rfl)) rfl
theorem w_1084 : Cond.methodLink RX6 169 yX6_items ∈ aW := aw_t (ti_5 (List.mem_of_getElem? (i := 124) rfl)) rfl
theorem w_1086 : Cond.instanceMethod yX6_items ∈ aW := aw_t (ti_5 (List.mem_of_getElem? (i := 126) rfl)) rfl
theorem w_1087 : Cond.code yX6_items cX6_items 4 (some .int) ∈ aW := aw_t (ti_5 (List.mem_of_getElem? (i := 127) rfl)) rfl
theorem w_1088 : Cond.methodLink RX6 178 yX6_item ∈ aW := aw_t (ti_5 (List.mem_of_getElem? (i := 128) rfl)) rfl
theorem w_1090 : Cond.instanceMethod yX6_item ∈ aW := aw_t (ti_5 (List.mem_of_getElem? (i := 130) rfl)) rfl
theorem w_1091 : Cond.code yX6_item cX6_item 5 (some .boolean) ∈ aW := aw_t (ti_5 (List.mem_of_getElem? (i := 131) rfl)) rfl
theorem w_1092 : Cond.methodLink RX6 183 yX6_isBarred ∈ aW := aw_t (ti_5 (List.mem_of_getElem? (i := 132) rfl)) rfl
theorem w_1093 : Cond.static yX6_isBarred ∈ aW := aw_t (ti_5 (List.mem_of_getElem? (i := 133) rfl)) rfl
theorem w_1094 : Cond.code yX6_isBarred cX6_isBarred 1 (some .boolean) ∈ aW := aw_t (ti_5 (List.mem_of_getElem? (i := 134) rfl)) rfl
theorem w_1095 : Cond.constantLong RX6 181 (-1) ∈ aW := aw_t (ti_5 (List.mem_of_getElem? (i := 135) rfl)) rfl
theorem w_1096 : Cond.methodLink RX6 199 yX6_fail ∈ aW := aw_t (ti_5 (List.mem_of_getElem? (i := 136) rfl)) rfl
theorem w_1098 : Cond.instanceMethod yX6_fail ∈ aW := aw_t (ti_5 (List.mem_of_getElem? (i := 138) rfl)) rfl
theorem w_1099 : Cond.code yX6_fail cX6_fail 2 (some .int) ∈ aW := aw_t (ti_5 (List.mem_of_getElem? (i := 139) rfl)) rfl
theorem w_1100 : Cond.methodLink RL 75 yX6_matches ∈ aW := aw_t (ti_5 (List.mem_of_getElem? (i := 140) rfl)) rfl
theorem w_1101 : Cond.instanceMethod yX6_matches ∈ aW := aw_t (ti_5 (List.mem_of_getElem? (i := 141) rfl)) rfl
theorem w_1102 : Cond.selects RX6 yX6_matches yX6_matches ∈ aW := aw_t (ti_5 (List.mem_of_getElem? (i := 142) rfl)) rfl
theorem w_1103 : Cond.code yX6_matches cX6_matches 1 (some .boolean) ∈ aW := aw_t (ti_5 (List.mem_of_getElem? (i := 143) rfl)) rfl
theorem w_1104 : Cond.methodLink RX6 293 yX6_run ∈ aW := aw_t (ti_5 (List.mem_of_getElem? (i := 144) rfl)) rfl
theorem w_1106 : Cond.instanceMethod yX6_run ∈ aW := aw_t (ti_5 (List.mem_of_getElem? (i := 146) rfl)) rfl
theorem w_1107 : Cond.code yX6_run cX6_run 4 (some .boolean) ∈ aW := aw_t (ti_5 (List.mem_of_getElem? (i := 147) rfl)) rfl
theorem w_1108 : Cond.methodLink RX6 223 yX6_link ∈ aW := aw_t (ti_5 (List.mem_of_getElem? (i := 148) rfl)) rfl
theorem w_1110 : Cond.instanceMethod yX6_link ∈ aW := aw_t (ti_5 (List.mem_of_getElem? (i := 150) rfl)) rfl
theorem w_1111 : Cond.code yX6_link cX6_link 5 (some .int) ∈ aW := aw_t (ti_5 (List.mem_of_getElem? (i := 151) rfl)) rfl
theorem w_1112 : Cond.methodLink RX6 236 yX6_goOn ∈ aW := aw_t (ti_5 (List.mem_of_getElem? (i := 152) rfl)) rfl
theorem w_1114 : Cond.instanceMethod yX6_goOn ∈ aW := aw_t (ti_5 (List.mem_of_getElem? (i := 154) rfl)) rfl
theorem w_1115 : Cond.code yX6_goOn cX6_goOn 2 (some .boolean) ∈ aW := aw_t (ti_5 (List.mem_of_getElem? (i := 155) rfl)) rfl
theorem w_1116 : Cond.methodLink RX6 290 yX6_keep ∈ aW := aw_t (ti_5 (List.mem_of_getElem? (i := 156) rfl)) rfl
theorem w_1118 : Cond.instanceMethod yX6_keep ∈ aW := aw_t (ti_5 (List.mem_of_getElem? (i := 158) rfl)) rfl
theorem w_1119 : Cond.code yX6_keep cX6_keep 2 (some .boolean) ∈ aW := aw_t (ti_5 (List.mem_of_getElem? (i := 159) rfl)) rfl
theorem w_1120 : Cond.methodLink RX6 280 yX6_pieces ∈ aW := aw_t (ti_5 (List.mem_of_getElem? (i := 160) rfl)) rfl
theorem w_1122 : Cond.instanceMethod yX6_pieces ∈ aW := aw_t (ti_5 (List.mem_of_getElem? (i := 162) rfl)) rfl
theorem w_1123 : Cond.code yX6_pieces cX6_pieces 2 (some .boolean) ∈ aW := aw_t (ti_5 (List.mem_of_getElem? (i := 163) rfl)) rfl
theorem w_1124 : Cond.methodLink RX6 286 yX6_turn ∈ aW := aw_t (ti_5 (List.mem_of_getElem? (i := 164) rfl)) rfl
theorem w_1126 : Cond.instanceMethod yX6_turn ∈ aW := aw_t (ti_5 (List.mem_of_getElem? (i := 166) rfl)) rfl
theorem w_1127 : Cond.code yX6_turn cX6_turn 5 (some .boolean) ∈ aW := aw_t (ti_5 (List.mem_of_getElem? (i := 167) rfl)) rfl
theorem w_1128 : Cond.methodLink RX6 245 yX6_goThrough ∈ aW := aw_t (ti_5 (List.mem_of_getElem? (i := 168) rfl)) rfl
theorem w_1130 : Cond.instanceMethod yX6_goThrough ∈ aW := aw_t (ti_5 (List.mem_of_getElem? (i := 170) rfl)) rfl
theorem w_1131 : Cond.code yX6_goThrough cX6_goThrough 3 none ∈ aW := aw_t (ti_5 (List.mem_of_getElem? (i := 171) rfl)) rfl
theorem w_1132 : Cond.methodLink RX6 276 yX6_otherWay ∈ aW := aw_t (ti_5 (List.mem_of_getElem? (i := 172) rfl)) rfl
theorem w_1134 : Cond.instanceMethod yX6_otherWay ∈ aW := aw_t (ti_5 (List.mem_of_getElem? (i := 174) rfl)) rfl
theorem w_1135 : Cond.code yX6_otherWay cX6_otherWay 6 none ∈ aW := aw_t (ti_5 (List.mem_of_getElem? (i := 175) rfl)) rfl
theorem w_1136 : Cond.methodLink RX6 239 yX6_enter ∈ aW := aw_t (ti_5 (List.mem_of_getElem? (i := 176) rfl)) rfl
theorem w_1138 : Cond.instanceMethod yX6_enter ∈ aW := aw_t (ti_5 (List.mem_of_getElem? (i := 178) rfl)) rfl
theorem w_1139 : Cond.code yX6_enter cX6_enter 2 (some .boolean) ∈ aW := aw_t (ti_5 (List.mem_of_getElem? (i := 179) rfl)) rfl
theorem w_1140 : Cond.methodLink RX6 251 yX6_into ∈ aW := aw_t (ti_5 (List.mem_of_getElem? (i := 180) rfl)) rfl
theorem w_1142 : Cond.instanceMethod yX6_into ∈ aW := aw_t (ti_5 (List.mem_of_getElem? (i := 182) rfl)) rfl
theorem w_1143 : Cond.code yX6_into cX6_into 3 (some .boolean) ∈ aW := aw_t (ti_5 (List.mem_of_getElem? (i := 183) rfl)) rfl
theorem w_1144 : Cond.methodLink RX6 255 yX6_begin ∈ aW := aw_t (ti_5 (List.mem_of_getElem? (i := 184) rfl)) rfl
theorem w_1146 : Cond.instanceMethod yX6_begin ∈ aW := aw_t (ti_5 (List.mem_of_getElem? (i := 186) rfl)) rfl
theorem w_1147 : Cond.code yX6_begin cX6_begin 2 (some .boolean) ∈ aW := aw_t (ti_5 (List.mem_of_getElem? (i := 187) rfl)) rfl
theorem w_1148 : Cond.methodLink RX6 258 yX6_one ∈ aW := aw_t (ti_5 (List.mem_of_getElem? (i := 188) rfl)) rfl
theorem w_1150 : Cond.instanceMethod yX6_one ∈ aW := aw_t (ti_5 (List.mem_of_getElem? (i := 190) rfl)) rfl
theorem w_1151 : Cond.code yX6_one cX6_one 3 (some .boolean) ∈ aW := aw_t (ti_5 (List.mem_of_getElem? (i := 191) rfl)) rfl
theorem w_1152 : Cond.methodLink RX6 214 yX6_character ∈ aW := aw_t (ti_5 (List.mem_of_getElem? (i := 192) rfl)) rfl
theorem w_1154 : Cond.instanceMethod yX6_character ∈ aW := aw_t (ti_5 (List.mem_of_getElem? (i := 194) rfl)) rfl
theorem w_1155 : Cond.code yX6_character cX6_character 2 (some .int) ∈ aW := aw_t (ti_5 (List.mem_of_getElem? (i := 195) rfl)) rfl
theorem w_1156 : Cond.methodLink RX6 283 yX6_includes ∈ aW := aw_t (ti_5 (List.mem_of_getElem? (i := 196) rfl)) rfl
theorem w_1158 : Cond.instanceMethod yX6_includes ∈ aW := aw_t (ti_5 (List.mem_of_getElem? (i := 198) rfl)) rfl
theorem w_1159 : Cond.code yX6_includes cX6_includes 3 (some .boolean) ∈ aW := aw_t (ti_5 (List.mem_of_getElem? (i := 199) rfl)) rfl
theorem w_1160 : Cond.methodLink RX6 261 yX6_isWordAt ∈ aW := aw_t (ti_5 (List.mem_of_getElem? (i := 200) rfl)) rfl
theorem w_1162 : Cond.instanceMethod yX6_isWordAt ∈ aW := aw_t (ti_5 (List.mem_of_getElem? (i := 202) rfl)) rfl
theorem w_1163 : Cond.code yX6_isWordAt cX6_isWordAt 2 (some .boolean) ∈ aW := aw_t (ti_5 (List.mem_of_getElem? (i := 203) rfl)) rfl
theorem w_1164 : Cond.methodLink RX6 264 yX6_again ∈ aW := aw_t (ti_5 (List.mem_of_getElem? (i := 204) rfl)) rfl
theorem w_1166 : Cond.instanceMethod yX6_again ∈ aW := aw_t (ti_5 (List.mem_of_getElem? (i := 206) rfl)) rfl
theorem w_1167 : Cond.code yX6_again cX6_again 5 (some .boolean) ∈ aW := aw_t (ti_5 (List.mem_of_getElem? (i := 207) rfl)) rfl
theorem w_1168 : Cond.methodLink RX6 267 yX6_beginLoop ∈ aW := aw_t (ti_5 (List.mem_of_getElem? (i := 208) rfl)) rfl
theorem w_1170 : Cond.instanceMethod yX6_beginLoop ∈ aW := aw_t (ti_5 (List.mem_of_getElem? (i := 210) rfl)) rfl
theorem w_1171 : Cond.code yX6_beginLoop cX6_beginLoop 2 (some .boolean) ∈ aW := aw_t (ti_5 (List.mem_of_getElem? (i := 211) rfl)) rfl
theorem w_1172 : Cond.methodLink RX6 270 yX6_notAhead ∈ aW := aw_t (ti_5 (List.mem_of_getElem? (i := 212) rfl)) rfl
theorem w_1174 : Cond.instanceMethod yX6_notAhead ∈ aW := aw_t (ti_5 (List.mem_of_getElem? (i := 214) rfl)) rfl
theorem w_1175 : Cond.code yX6_notAhead cX6_notAhead 3 (some .boolean) ∈ aW := aw_t (ti_5 (List.mem_of_getElem? (i := 215) rfl)) rfl
theorem w_1176 : Cond.methodLink RX6 273 yX6_look ∈ aW := aw_t (ti_5 (List.mem_of_getElem? (i := 216) rfl)) rfl
theorem w_1178 : Cond.instanceMethod yX6_look ∈ aW := aw_t (ti_5 (List.mem_of_getElem? (i := 218) rfl)) rfl
theorem w_1179 : Cond.code yX6_look cX6_look 3 (some .boolean) ∈ aW := aw_t (ti_5 (List.mem_of_getElem? (i := 219) rfl)) rfl
theorem w_1180 : Cond.methodLink RX6 248 yX6_before ∈ aW := aw_t (ti_5 (List.mem_of_getElem? (i := 220) rfl)) rfl
theorem w_1182 : Cond.instanceMethod yX6_before ∈ aW := aw_t (ti_5 (List.mem_of_getElem? (i := 222) rfl)) rfl
theorem w_1183 : Cond.code yX6_before cX6_before 3 none ∈ aW := aw_t (ti_5 (List.mem_of_getElem? (i := 223) rfl)) rfl
theorem w_1184 : Cond.methodLink RX6 242 yX6_back ∈ aW := aw_t (ti_5 (List.mem_of_getElem? (i := 224) rfl)) rfl
theorem w_1186 : Cond.instanceMethod yX6_back ∈ aW := aw_t (ti_5 (List.mem_of_getElem? (i := 226) rfl)) rfl
theorem w_1187 : Cond.code yX6_back cX6_back 2 none ∈ aW := aw_t (ti_5 (List.mem_of_getElem? (i := 227) rfl)) rfl
theorem w_1188 : Cond.methodLink RX6 297 yX6_note ∈ aW := aw_t (ti_5 (List.mem_of_getElem? (i := 228) rfl)) rfl
theorem w_1190 : Cond.instanceMethod yX6_note ∈ aW := aw_t (ti_5 (List.mem_of_getElem? (i := 230) rfl)) rfl
theorem w_1191 : Cond.code yX6_note cX6_note 3 none ∈ aW := aw_t (ti_5 (List.mem_of_getElem? (i := 231) rfl)) rfl
theorem w_1192 : Cond.methodLink RL 78 yX6_looking ∈ aW := aw_t (ti_5 (List.mem_of_getElem? (i := 232) rfl)) rfl
theorem w_1193 : Cond.instanceMethod yX6_looking ∈ aW := aw_t (ti_5 (List.mem_of_getElem? (i := 233) rfl)) rfl
theorem w_1194 : Cond.selects RX6 yX6_looking yX6_looking ∈ aW := aw_t (ti_5 (List.mem_of_getElem? (i := 234) rfl)) rfl
theorem w_1195 : Cond.code yX6_looking cX6_looking 1 (some .boolean) ∈ aW := aw_t (ti_5 (List.mem_of_getElem? (i := 235) rfl)) rfl
theorem w_1196 : Cond.methodLink RL 82 yX6_find ∈ aW := aw_t (ti_5 (List.mem_of_getElem? (i := 236) rfl)) rfl
theorem w_1197 : Cond.instanceMethod yX6_find ∈ aW := aw_t (ti_5 (List.mem_of_getElem? (i := 237) rfl)) rfl
theorem w_1198 : Cond.selects RX6 yX6_find yX6_find ∈ aW := aw_t (ti_5 (List.mem_of_getElem? (i := 238) rfl)) rfl
theorem w_1199 : Cond.code yX6_find cX6_find 2 (some .int) ∈ aW := aw_t (ti_5 (List.mem_of_getElem? (i := 239) rfl)) rfl
theorem w_1200 : Cond.methodLink RX6 301 yX6_search ∈ aW := aw_t (ti_6 (List.mem_of_getElem? (i := 0) rfl)) rfl
theorem w_1202 : Cond.instanceMethod yX6_search ∈ aW := aw_t (ti_6 (List.mem_of_getElem? (i := 2) rfl)) rfl
theorem w_1203 : Cond.code yX6_search cX6_search 3 (some .boolean) ∈ aW := aw_t (ti_6 (List.mem_of_getElem? (i := 3) rfl)) rfl
theorem w_1204 : Cond.methodLink RL 85 yX6_start ∈ aW := aw_t (ti_6 (List.mem_of_getElem? (i := 4) rfl)) rfl
theorem w_1205 : Cond.instanceMethod yX6_start ∈ aW := aw_t (ti_6 (List.mem_of_getElem? (i := 5) rfl)) rfl
theorem w_1206 : Cond.selects RX6 yX6_start yX6_start ∈ aW := aw_t (ti_6 (List.mem_of_getElem? (i := 6) rfl)) rfl
theorem w_1207 : Cond.code yX6_start cX6_start 2 (some .int) ∈ aW := aw_t (ti_6 (List.mem_of_getElem? (i := 7) rfl)) rfl
theorem w_1208 : Cond.methodLink RX6 304 yX6_spanOf ∈ aW := aw_t (ti_6 (List.mem_of_getElem? (i := 8) rfl)) rfl
theorem w_1210 : Cond.instanceMethod yX6_spanOf ∈ aW := aw_t (ti_6 (List.mem_of_getElem? (i := 10) rfl)) rfl
theorem w_1211 : Cond.code yX6_spanOf cX6_spanOf 3 (some .int) ∈ aW := aw_t (ti_6 (List.mem_of_getElem? (i := 11) rfl)) rfl
theorem w_1212 : Cond.methodLink RL 88 yX6_end ∈ aW := aw_t (ti_6 (List.mem_of_getElem? (i := 12) rfl)) rfl
theorem w_1213 : Cond.instanceMethod yX6_end ∈ aW := aw_t (ti_6 (List.mem_of_getElem? (i := 13) rfl)) rfl
theorem w_1214 : Cond.selects RX6 yX6_end yX6_end ∈ aW := aw_t (ti_6 (List.mem_of_getElem? (i := 14) rfl)) rfl
theorem w_1215 : Cond.code yX6_end cX6_end 2 (some .int) ∈ aW := aw_t (ti_6 (List.mem_of_getElem? (i := 15) rfl)) rfl
theorem w_1216 : Cond.methodLink RL 91 yX6_replace ∈ aW := aw_t (ti_6 (List.mem_of_getElem? (i := 16) rfl)) rfl
theorem w_1217 : Cond.instanceMethod yX6_replace ∈ aW := aw_t (ti_6 (List.mem_of_getElem? (i := 17) rfl)) rfl
theorem w_1218 : Cond.selects RX6 yX6_replace yX6_replace ∈ aW := aw_t (ti_6 (List.mem_of_getElem? (i := 18) rfl)) rfl
theorem w_1219 : Cond.code yX6_replace cX6_replace 3 (some .int) ∈ aW := aw_t (ti_6 (List.mem_of_getElem? (i := 19) rfl)) rfl
theorem w_1220 : Cond.methodLink RX6 317 yX6_faultOfTemplate ∈ aW := aw_t (ti_6 (List.mem_of_getElem? (i := 20) rfl)) rfl
theorem w_1222 : Cond.instanceMethod yX6_faultOfTemplate ∈ aW := aw_t (ti_6 (List.mem_of_getElem? (i := 22) rfl)) rfl
theorem w_1223 : Cond.code yX6_faultOfTemplate cX6_faultOfTemplate 5 (some .int) ∈ aW := aw_t (ti_6 (List.mem_of_getElem? (i := 23) rfl)) rfl
theorem w_1224 : Cond.methodLink RX6 314 yX6_putText ∈ aW := aw_t (ti_6 (List.mem_of_getElem? (i := 24) rfl)) rfl
theorem w_1226 : Cond.instanceMethod yX6_putText ∈ aW := aw_t (ti_6 (List.mem_of_getElem? (i := 26) rfl)) rfl
theorem w_1227 : Cond.code yX6_putText cX6_putText 4 none ∈ aW := aw_t (ti_6 (List.mem_of_getElem? (i := 27) rfl)) rfl
theorem w_1228 : Cond.methodLink RX6 311 yX6_put ∈ aW := aw_t (ti_6 (List.mem_of_getElem? (i := 28) rfl)) rfl
theorem w_1230 : Cond.instanceMethod yX6_put ∈ aW := aw_t (ti_6 (List.mem_of_getElem? (i := 30) rfl)) rfl
theorem w_1231 : Cond.code yX6_put cX6_put 2 none ∈ aW := aw_t (ti_6 (List.mem_of_getElem? (i := 31) rfl)) rfl
theorem w_1232 : Cond.methodLink RX6 320 yX6_putTemplate ∈ aW := aw_t (ti_6 (List.mem_of_getElem? (i := 32) rfl)) rfl
theorem w_1234 : Cond.instanceMethod yX6_putTemplate ∈ aW := aw_t (ti_6 (List.mem_of_getElem? (i := 34) rfl)) rfl
theorem w_1235 : Cond.code yX6_putTemplate cX6_putTemplate 4 none ∈ aW := aw_t (ti_6 (List.mem_of_getElem? (i := 35) rfl)) rfl
theorem w_1236 : Cond.methodLink RX6 323 yX6_behindMatch ∈ aW := aw_t (ti_6 (List.mem_of_getElem? (i := 36) rfl)) rfl
theorem w_1238 : Cond.instanceMethod yX6_behindMatch ∈ aW := aw_t (ti_6 (List.mem_of_getElem? (i := 38) rfl)) rfl
theorem w_1239 : Cond.code yX6_behindMatch cX6_behindMatch 1 (some .int) ∈ aW := aw_t (ti_6 (List.mem_of_getElem? (i := 39) rfl)) rfl
theorem w_1240 : Cond.methodLink RL 94 yX6_replaced ∈ aW := aw_t (ti_6 (List.mem_of_getElem? (i := 40) rfl)) rfl
theorem w_1241 : Cond.instanceMethod yX6_replaced ∈ aW := aw_t (ti_6 (List.mem_of_getElem? (i := 41) rfl)) rfl
theorem w_1242 : Cond.selects RX6 yX6_replaced yX6_replaced ∈ aW := aw_t (ti_6 (List.mem_of_getElem? (i := 42) rfl)) rfl
theorem w_1243 : Cond.code yX6_replaced cX6_replaced 2 (some .char) ∈ aW := aw_t (ti_6 (List.mem_of_getElem? (i := 43) rfl)) rfl
theorem w_1244 : Cond.methodLink RL 97 yX6_split ∈ aW := aw_t (ti_6 (List.mem_of_getElem? (i := 44) rfl)) rfl
theorem w_1245 : Cond.instanceMethod yX6_split ∈ aW := aw_t (ti_6 (List.mem_of_getElem? (i := 45) rfl)) rfl
theorem w_1246 : Cond.selects RX6 yX6_split yX6_split ∈ aW := aw_t (ti_6 (List.mem_of_getElem? (i := 46) rfl)) rfl
theorem w_1247 : Cond.code yX6_split cX6_split 4 (some .int) ∈ aW := aw_t (ti_6 (List.mem_of_getElem? (i := 47) rfl)) rfl
theorem w_1248 : Cond.methodLink RL 101 yX6_piece ∈ aW := aw_t (ti_6 (List.mem_of_getElem? (i := 48) rfl)) rfl
theorem w_1249 : Cond.instanceMethod yX6_piece ∈ aW := aw_t (ti_6 (List.mem_of_getElem? (i := 49) rfl)) rfl
theorem w_1250 : Cond.selects RX6 yX6_piece yX6_piece ∈ aW := aw_t (ti_6 (List.mem_of_getElem? (i := 50) rfl)) rfl
theorem w_1251 : Cond.code yX6_piece cX6_piece 3 (some .int) ∈ aW := aw_t (ti_6 (List.mem_of_getElem? (i := 51) rfl)) rfl
theorem w_1253 : Cond.fieldLink "java/lang/String" 15 "java/lang/String" "coder" "B" ∈ aW := aw_t (ti_6 (List.mem_of_getElem? (i := 53) rfl)) rfl
theorem w_1254 : Cond.fieldLink "java/lang/String" 9 "java/lang/String" "value" "[B" ∈ aW := aw_t (ti_6 (List.mem_of_getElem? (i := 54) rfl)) rfl
theorem pi_1 {q : MethodName × Nat} (h : q ∈ lw_privs_1) : q ∈ lw_privs := List.mem_append_left _ h
theorem pi_2 {q : MethodName × Nat} (h : q ∈ lw_privs_2) : q ∈ lw_privs := List.mem_append_right _ (List.mem_append_left _ h)
theorem pi_3 {q : MethodName × Nat} (h : q ∈ lw_privs_3) : q ∈ lw_privs := List.mem_append_right _ (List.mem_append_right _ (List.mem_append_left _ h))
theorem pi_4 {q : MethodName × Nat} (h : q ∈ lw_privs_4) : q ∈ lw_privs := List.mem_append_right _ (List.mem_append_right _ (List.mem_append_right _ (List.mem_append_left _ h)))
theorem pi_5 {q : MethodName × Nat} (h : q ∈ lw_privs_5) : q ∈ lw_privs := List.mem_append_right _ (List.mem_append_right _ (List.mem_append_right _ (List.mem_append_right _ (List.mem_append_left _ h))))
theorem pi_6 {q : MethodName × Nat} (h : q ∈ lw_privs_6) : q ∈ lw_privs := List.mem_append_right _ (List.mem_append_right _ (List.mem_append_right _ (List.mem_append_right _ (List.mem_append_right _ (List.mem_append_left _ h)))))
theorem pi_7 {q : MethodName × Nat} (h : q ∈ lw_privs_7) : q ∈ lw_privs := List.mem_append_right _ (List.mem_append_right _ (List.mem_append_right _ (List.mem_append_right _ (List.mem_append_right _ (List.mem_append_right _ (h))))))
theorem ws_X5_forgetMatchIfText : Cond.selects RX5 yX5_forgetMatchIfText yX5_forgetMatchIfText ∈ aW := aw_s (n := 13) (pi_1 (List.mem_of_getElem? (i := 0) rfl))
theorem ws_X2_add : Cond.selects RX2 yX2_add yX2_add ∈ aW := aw_s (n := 10) (pi_1 (List.mem_of_getElem? (i := 1) rfl))
theorem ws_X2_choice : Cond.selects RX2 yX2_choice yX2_choice ∈ aW := aw_s (n := 10) (pi_1 (List.mem_of_getElem? (i := 2) rfl))
theorem ws_X2_sequence : Cond.selects RX2 yX2_sequence yX2_sequence ∈ aW := aw_s (n := 10) (pi_1 (List.mem_of_getElem? (i := 3) rfl))
theorem ws_X2_isSequenceOver : Cond.selects RX2 yX2_isSequenceOver yX2_isSequenceOver ∈ aW := aw_s (n := 10) (pi_1 (List.mem_of_getElem? (i := 4) rfl))
theorem ws_X2_onePiece : Cond.selects RX2 yX2_onePiece yX2_onePiece ∈ aW := aw_s (n := 10) (pi_1 (List.mem_of_getElem? (i := 5) rfl))
theorem ws_X2_atom : Cond.selects RX2 yX2_atom yX2_atom ∈ aW := aw_s (n := 10) (pi_1 (List.mem_of_getElem? (i := 6) rfl))
theorem ws_X2_bracket : Cond.selects RX2 yX2_bracket yX2_bracket ∈ aW := aw_s (n := 10) (pi_1 (List.mem_of_getElem? (i := 7) rfl))
theorem ws_X2_refuse : Cond.selects RX2 yX2_refuse yX2_refuse ∈ aW := aw_s (n := 10) (pi_1 (List.mem_of_getElem? (i := 8) rfl))
theorem ws_X2_take : Cond.selects RX2 yX2_take yX2_take ∈ aW := aw_s (n := 10) (pi_1 (List.mem_of_getElem? (i := 9) rfl))
theorem ws_X2_group : Cond.selects RX2 yX2_group yX2_group ∈ aW := aw_s (n := 10) (pi_1 (List.mem_of_getElem? (i := 10) rfl))
theorem ws_X2_closedChoice : Cond.selects RX2 yX2_closedChoice yX2_closedChoice ∈ aW := aw_s (n := 10) (pi_1 (List.mem_of_getElem? (i := 11) rfl))
theorem ws_X2_expect : Cond.selects RX2 yX2_expect yX2_expect ∈ aW := aw_s (n := 10) (pi_1 (List.mem_of_getElem? (i := 12) rfl))
theorem ws_X2_together : Cond.selects RX2 yX2_together yX2_together ∈ aW := aw_s (n := 10) (pi_1 (List.mem_of_getElem? (i := 13) rfl))
theorem ws_X2_withBody : Cond.selects RX2 yX2_withBody yX2_withBody ∈ aW := aw_s (n := 10) (pi_1 (List.mem_of_getElem? (i := 14) rfl))
theorem ws_X2_single : Cond.selects RX2 yX2_single yX2_single ∈ aW := aw_s (n := 10) (pi_1 (List.mem_of_getElem? (i := 15) rfl))
theorem ws_X2_look : Cond.selects RX2 yX2_look yX2_look ∈ aW := aw_s (n := 10) (pi_2 (List.mem_of_getElem? (i := 0) rfl))
theorem ws_X2_items : Cond.selects RX2 yX2_items yX2_items ∈ aW := aw_s (n := 10) (pi_2 (List.mem_of_getElem? (i := 1) rfl))
theorem ws_X2_item : Cond.selects RX2 yX2_item yX2_item ∈ aW := aw_s (n := 10) (pi_2 (List.mem_of_getElem? (i := 2) rfl))
theorem ws_X2_escapedItem : Cond.selects RX2 yX2_escapedItem yX2_escapedItem ∈ aW := aw_s (n := 10) (pi_2 (List.mem_of_getElem? (i := 3) rfl))
theorem ws_X2_addItem : Cond.selects RX2 yX2_addItem yX2_addItem ∈ aW := aw_s (n := 10) (pi_2 (List.mem_of_getElem? (i := 4) rfl))
theorem ws_X2_set : Cond.selects RX2 yX2_set yX2_set ∈ aW := aw_s (n := 10) (pi_2 (List.mem_of_getElem? (i := 5) rfl))
theorem ws_X2_escaped : Cond.selects RX2 yX2_escaped yX2_escaped ∈ aW := aw_s (n := 10) (pi_2 (List.mem_of_getElem? (i := 6) rfl))
theorem ws_X2_backReference : Cond.selects RX2 yX2_backReference yX2_backReference ∈ aW := aw_s (n := 10) (pi_2 (List.mem_of_getElem? (i := 7) rfl))
theorem ws_X2_character : Cond.selects RX2 yX2_character yX2_character ∈ aW := aw_s (n := 10) (pi_2 (List.mem_of_getElem? (i := 8) rfl))
theorem ws_X2_readLoop : Cond.selects RX2 yX2_readLoop yX2_readLoop ∈ aW := aw_s (n := 10) (pi_2 (List.mem_of_getElem? (i := 9) rfl))
theorem ws_X2_readCounts : Cond.selects RX2 yX2_readCounts yX2_readCounts ∈ aW := aw_s (n := 10) (pi_2 (List.mem_of_getElem? (i := 10) rfl))
theorem ws_X2_count : Cond.selects RX2 yX2_count yX2_count ∈ aW := aw_s (n := 10) (pi_2 (List.mem_of_getElem? (i := 11) rfl))
theorem ws_X5_match : Cond.selects RX5 yX5_match yX5_match ∈ aW := aw_s (n := 13) (pi_2 (List.mem_of_getElem? (i := 13) rfl))
theorem ws_X4_run : Cond.selects RX4 yX4_run yX4_run ∈ aW := aw_s (n := 13) (pi_2 (List.mem_of_getElem? (i := 14) rfl))
theorem ws_X4_takeWaiting : Cond.selects RX4 yX4_takeWaiting yX4_takeWaiting ∈ aW := aw_s (n := 13) (pi_2 (List.mem_of_getElem? (i := 15) rfl))
theorem ws_X4_step : Cond.selects RX4 yX4_step yX4_step ∈ aW := aw_s (n := 13) (pi_3 (List.mem_of_getElem? (i := 0) rfl))
theorem ws_X4_takeCharacter : Cond.selects RX4 yX4_takeCharacter yX4_takeCharacter ∈ aW := aw_s (n := 13) (pi_3 (List.mem_of_getElem? (i := 1) rfl))
theorem ws_X4_moveTo : Cond.selects RX4 yX4_moveTo yX4_moveTo ∈ aW := aw_s (n := 13) (pi_3 (List.mem_of_getElem? (i := 2) rfl))
theorem ws_X4_isEdge : Cond.selects RX4 yX4_isEdge yX4_isEdge ∈ aW := aw_s (n := 13) (pi_3 (List.mem_of_getElem? (i := 3) rfl))
theorem ws_X4_takeSpanAgain : Cond.selects RX4 yX4_takeSpanAgain yX4_takeSpanAgain ∈ aW := aw_s (n := 13) (pi_3 (List.mem_of_getElem? (i := 4) rfl))
theorem ws_X4_letWait : Cond.selects RX4 yX4_letWait yX4_letWait ∈ aW := aw_s (n := 13) (pi_3 (List.mem_of_getElem? (i := 5) rfl))
theorem ws_X4_packed : Cond.selects RX4 yX4_packed yX4_packed ∈ aW := aw_s (n := 13) (pi_3 (List.mem_of_getElem? (i := 6) rfl))
theorem ws_X4_withLoop : Cond.selects RX4 yX4_withLoop yX4_withLoop ∈ aW := aw_s (n := 13) (pi_3 (List.mem_of_getElem? (i := 7) rfl))
theorem ws_X4_wasHere : Cond.selects RX4 yX4_wasHere yX4_wasHere ∈ aW := aw_s (n := 13) (pi_3 (List.mem_of_getElem? (i := 8) rfl))
theorem ws_X4_isOver : Cond.selects RX4 yX4_isOver yX4_isOver ∈ aW := aw_s (n := 13) (pi_3 (List.mem_of_getElem? (i := 9) rfl))
theorem ws_X4_loop : Cond.selects RX4 yX4_loop yX4_loop ∈ aW := aw_s (n := 13) (pi_3 (List.mem_of_getElem? (i := 10) rfl))
theorem ws_X4_goTo : Cond.selects RX4 yX4_goTo yX4_goTo ∈ aW := aw_s (n := 13) (pi_3 (List.mem_of_getElem? (i := 11) rfl))
theorem ws_X4_look : Cond.selects RX4 yX4_look yX4_look ∈ aW := aw_s (n := 13) (pi_3 (List.mem_of_getElem? (i := 12) rfl))
theorem ws_X4_lookBehind : Cond.selects RX4 yX4_lookBehind yX4_lookBehind ∈ aW := aw_s (n := 13) (pi_3 (List.mem_of_getElem? (i := 13) rfl))
theorem ws_X4_atomic : Cond.selects RX4 yX4_atomic yX4_atomic ∈ aW := aw_s (n := 13) (pi_3 (List.mem_of_getElem? (i := 14) rfl))
theorem ws_X5_isGroup : Cond.selects RX5 yX5_isGroup yX5_isGroup ∈ aW := aw_s (n := 13) (pi_3 (List.mem_of_getElem? (i := 15) rfl))
theorem ws_X5_groupFrom : Cond.selects RX5 yX5_groupFrom yX5_groupFrom ∈ aW := aw_s (n := 13) (pi_4 (List.mem_of_getElem? (i := 0) rfl))
theorem ws_X5_groupTo : Cond.selects RX5 yX5_groupTo yX5_groupTo ∈ aW := aw_s (n := 13) (pi_4 (List.mem_of_getElem? (i := 1) rfl))
theorem ws_X5_templateFault : Cond.selects RX5 yX5_templateFault yX5_templateFault ∈ aW := aw_s (n := 13) (pi_4 (List.mem_of_getElem? (i := 2) rfl))
theorem ws_X5_makeFromText : Cond.selects RX5 yX5_makeFromText yX5_makeFromText ∈ aW := aw_s (n := 13) (pi_4 (List.mem_of_getElem? (i := 3) rfl))
theorem ws_X5_makeFromTemplate : Cond.selects RX5 yX5_makeFromTemplate yX5_makeFromTemplate ∈ aW := aw_s (n := 13) (pi_4 (List.mem_of_getElem? (i := 4) rfl))
theorem ws_X5_placeAfterMatch : Cond.selects RX5 yX5_placeAfterMatch yX5_placeAfterMatch ∈ aW := aw_s (n := 13) (pi_4 (List.mem_of_getElem? (i := 5) rfl))
theorem ws_X5_addPiece : Cond.selects RX5 yX5_addPiece yX5_addPiece ∈ aW := aw_s (n := 13) (pi_4 (List.mem_of_getElem? (i := 6) rfl))
theorem ws_X5_dropEmptyPiecesAtEnd : Cond.selects RX5 yX5_dropEmptyPiecesAtEnd yX5_dropEmptyPiecesAtEnd ∈ aW := aw_s (n := 13) (pi_4 (List.mem_of_getElem? (i := 7) rfl))
theorem ws_X6_read : Cond.selects RX6 yX6_read yX6_read ∈ aW := aw_s (n := 48) (pi_4 (List.mem_of_getElem? (i := 8) rfl))
theorem ws_X6_newChoice : Cond.selects RX6 yX6_newChoice yX6_newChoice ∈ aW := aw_s (n := 48) (pi_4 (List.mem_of_getElem? (i := 9) rfl))
theorem ws_X6_create : Cond.selects RX6 yX6_create yX6_create ∈ aW := aw_s (n := 48) (pi_4 (List.mem_of_getElem? (i := 10) rfl))
theorem ws_X6_newSequence : Cond.selects RX6 yX6_newSequence yX6_newSequence ∈ aW := aw_s (n := 48) (pi_4 (List.mem_of_getElem? (i := 11) rfl))
theorem ws_X6_peek : Cond.selects RX6 yX6_peek yX6_peek ∈ aW := aw_s (n := 48) (pi_4 (List.mem_of_getElem? (i := 12) rfl))
theorem ws_X6_bar : Cond.selects RX6 yX6_bar yX6_bar ∈ aW := aw_s (n := 48) (pi_4 (List.mem_of_getElem? (i := 13) rfl))
theorem ws_X6_bracket : Cond.selects RX6 yX6_bracket yX6_bracket ∈ aW := aw_s (n := 48) (pi_4 (List.mem_of_getElem? (i := 14) rfl))
theorem ws_X6_close : Cond.selects RX6 yX6_close yX6_close ∈ aW := aw_s (n := 48) (pi_4 (List.mem_of_getElem? (i := 15) rfl))
theorem ws_X6_loop : Cond.selects RX6 yX6_loop yX6_loop ∈ aW := aw_s (n := 48) (pi_5 (List.mem_of_getElem? (i := 0) rfl))
theorem ws_X6_append : Cond.selects RX6 yX6_append yX6_append ∈ aW := aw_s (n := 48) (pi_5 (List.mem_of_getElem? (i := 1) rfl))
theorem ws_X6_bounds : Cond.selects RX6 yX6_bounds yX6_bounds ∈ aW := aw_s (n := 48) (pi_5 (List.mem_of_getElem? (i := 2) rfl))
theorem ws_X6_atom : Cond.selects RX6 yX6_atom yX6_atom ∈ aW := aw_s (n := 48) (pi_5 (List.mem_of_getElem? (i := 3) rfl))
theorem ws_X6_escape : Cond.selects RX6 yX6_escape yX6_escape ∈ aW := aw_s (n := 48) (pi_5 (List.mem_of_getElem? (i := 4) rfl))
theorem ws_X6_includeKind : Cond.selects RX6 yX6_includeKind yX6_includeKind ∈ aW := aw_s (n := 48) (pi_5 (List.mem_of_getElem? (i := 5) rfl))
theorem ws_X6_include : Cond.selects RX6 yX6_include yX6_include ∈ aW := aw_s (n := 48) (pi_5 (List.mem_of_getElem? (i := 6) rfl))
theorem ws_X6_items : Cond.selects RX6 yX6_items yX6_items ∈ aW := aw_s (n := 48) (pi_5 (List.mem_of_getElem? (i := 7) rfl))
theorem ws_X6_item : Cond.selects RX6 yX6_item yX6_item ∈ aW := aw_s (n := 48) (pi_5 (List.mem_of_getElem? (i := 8) rfl))
theorem ws_X6_fail : Cond.selects RX6 yX6_fail yX6_fail ∈ aW := aw_s (n := 48) (pi_5 (List.mem_of_getElem? (i := 9) rfl))
theorem ws_X6_run : Cond.selects RX6 yX6_run yX6_run ∈ aW := aw_s (n := 48) (pi_5 (List.mem_of_getElem? (i := 10) rfl))
theorem ws_X6_link : Cond.selects RX6 yX6_link yX6_link ∈ aW := aw_s (n := 48) (pi_5 (List.mem_of_getElem? (i := 11) rfl))
theorem ws_X6_goOn : Cond.selects RX6 yX6_goOn yX6_goOn ∈ aW := aw_s (n := 48) (pi_5 (List.mem_of_getElem? (i := 12) rfl))
theorem ws_X6_keep : Cond.selects RX6 yX6_keep yX6_keep ∈ aW := aw_s (n := 48) (pi_5 (List.mem_of_getElem? (i := 13) rfl))
theorem ws_X6_pieces : Cond.selects RX6 yX6_pieces yX6_pieces ∈ aW := aw_s (n := 48) (pi_5 (List.mem_of_getElem? (i := 14) rfl))
theorem ws_X6_turn : Cond.selects RX6 yX6_turn yX6_turn ∈ aW := aw_s (n := 48) (pi_5 (List.mem_of_getElem? (i := 15) rfl))
theorem ws_X6_goThrough : Cond.selects RX6 yX6_goThrough yX6_goThrough ∈ aW := aw_s (n := 48) (pi_6 (List.mem_of_getElem? (i := 0) rfl))
theorem ws_X6_otherWay : Cond.selects RX6 yX6_otherWay yX6_otherWay ∈ aW := aw_s (n := 48) (pi_6 (List.mem_of_getElem? (i := 1) rfl))
theorem ws_X6_enter : Cond.selects RX6 yX6_enter yX6_enter ∈ aW := aw_s (n := 48) (pi_6 (List.mem_of_getElem? (i := 2) rfl))
theorem ws_X6_into : Cond.selects RX6 yX6_into yX6_into ∈ aW := aw_s (n := 48) (pi_6 (List.mem_of_getElem? (i := 3) rfl))
theorem ws_X6_begin : Cond.selects RX6 yX6_begin yX6_begin ∈ aW := aw_s (n := 48) (pi_6 (List.mem_of_getElem? (i := 4) rfl))
theorem ws_X6_one : Cond.selects RX6 yX6_one yX6_one ∈ aW := aw_s (n := 48) (pi_6 (List.mem_of_getElem? (i := 5) rfl))
theorem ws_X6_character : Cond.selects RX6 yX6_character yX6_character ∈ aW := aw_s (n := 48) (pi_6 (List.mem_of_getElem? (i := 6) rfl))
theorem ws_X6_includes : Cond.selects RX6 yX6_includes yX6_includes ∈ aW := aw_s (n := 48) (pi_6 (List.mem_of_getElem? (i := 7) rfl))
theorem ws_X6_isWordAt : Cond.selects RX6 yX6_isWordAt yX6_isWordAt ∈ aW := aw_s (n := 48) (pi_6 (List.mem_of_getElem? (i := 8) rfl))
theorem ws_X6_again : Cond.selects RX6 yX6_again yX6_again ∈ aW := aw_s (n := 48) (pi_6 (List.mem_of_getElem? (i := 9) rfl))
theorem ws_X6_beginLoop : Cond.selects RX6 yX6_beginLoop yX6_beginLoop ∈ aW := aw_s (n := 48) (pi_6 (List.mem_of_getElem? (i := 10) rfl))
theorem ws_X6_notAhead : Cond.selects RX6 yX6_notAhead yX6_notAhead ∈ aW := aw_s (n := 48) (pi_6 (List.mem_of_getElem? (i := 11) rfl))
theorem ws_X6_look : Cond.selects RX6 yX6_look yX6_look ∈ aW := aw_s (n := 48) (pi_6 (List.mem_of_getElem? (i := 12) rfl))
theorem ws_X6_before : Cond.selects RX6 yX6_before yX6_before ∈ aW := aw_s (n := 48) (pi_6 (List.mem_of_getElem? (i := 13) rfl))
theorem ws_X6_back : Cond.selects RX6 yX6_back yX6_back ∈ aW := aw_s (n := 48) (pi_6 (List.mem_of_getElem? (i := 14) rfl))
theorem ws_X6_note : Cond.selects RX6 yX6_note yX6_note ∈ aW := aw_s (n := 48) (pi_6 (List.mem_of_getElem? (i := 15) rfl))
theorem ws_X6_search : Cond.selects RX6 yX6_search yX6_search ∈ aW := aw_s (n := 48) (pi_7 (List.mem_of_getElem? (i := 0) rfl))
theorem ws_X6_spanOf : Cond.selects RX6 yX6_spanOf yX6_spanOf ∈ aW := aw_s (n := 48) (pi_7 (List.mem_of_getElem? (i := 1) rfl))
theorem ws_X6_faultOfTemplate : Cond.selects RX6 yX6_faultOfTemplate yX6_faultOfTemplate ∈ aW := aw_s (n := 48) (pi_7 (List.mem_of_getElem? (i := 2) rfl))
theorem ws_X6_putText : Cond.selects RX6 yX6_putText yX6_putText ∈ aW := aw_s (n := 48) (pi_7 (List.mem_of_getElem? (i := 3) rfl))
theorem ws_X6_put : Cond.selects RX6 yX6_put yX6_put ∈ aW := aw_s (n := 48) (pi_7 (List.mem_of_getElem? (i := 4) rfl))
theorem ws_X6_putTemplate : Cond.selects RX6 yX6_putTemplate yX6_putTemplate ∈ aW := aw_s (n := 48) (pi_7 (List.mem_of_getElem? (i := 5) rfl))
theorem ws_X6_behindMatch : Cond.selects RX6 yX6_behindMatch yX6_behindMatch ∈ aW := aw_s (n := 48) (pi_7 (List.mem_of_getElem? (i := 6) rfl))
theorem inX0 : ∀ w ∈ u_ws RX0 TX0 13, w ∈ aW := by
  show ∀ w ∈ [u_lay RX0 TX0 0, u_lay RX0 TX0 1, u_lay RX0 TX0 2, u_lay RX0 TX0 3, u_lay RX0 TX0 4, u_lay RX0 TX0 5, u_lay RX0 TX0 6, u_lay RX0 TX0 7, u_lay RX0 TX0 8, u_lay RX0 TX0 9, u_lay RX0 TX0 10, u_lay RX0 TX0 11, u_lay RX0 TX0 12], w ∈ aW
  exact List.forall_mem_cons.mpr ⟨w_90, List.forall_mem_cons.mpr ⟨w_92, List.forall_mem_cons.mpr ⟨w_94, List.forall_mem_cons.mpr ⟨w_96, List.forall_mem_cons.mpr ⟨w_98, List.forall_mem_cons.mpr ⟨w_100, List.forall_mem_cons.mpr ⟨w_102, List.forall_mem_cons.mpr ⟨w_104, List.forall_mem_cons.mpr ⟨w_106, List.forall_mem_cons.mpr ⟨w_108, List.forall_mem_cons.mpr ⟨w_110, List.forall_mem_cons.mpr ⟨w_112, List.forall_mem_cons.mpr ⟨w_114, fun _ h => absurd h List.not_mem_nil⟩⟩⟩⟩⟩⟩⟩⟩⟩⟩⟩⟩⟩
theorem inX1 : ∀ w ∈ u_ws RX1 TX1 5, w ∈ aW := by
  show ∀ w ∈ [u_lay RX1 TX1 0, u_lay RX1 TX1 1, u_lay RX1 TX1 2, u_lay RX1 TX1 3, u_lay RX1 TX1 4], w ∈ aW
  exact List.forall_mem_cons.mpr ⟨w_128, List.forall_mem_cons.mpr ⟨w_130, List.forall_mem_cons.mpr ⟨w_132, List.forall_mem_cons.mpr ⟨w_134, List.forall_mem_cons.mpr ⟨w_136, fun _ h => absurd h List.not_mem_nil⟩⟩⟩⟩⟩
theorem inX2 : ∀ w ∈ u_ws RX2 TX2 10, w ∈ aW := by
  show ∀ w ∈ [u_lay RX2 TX2 0, u_lay RX2 TX2 1, u_lay RX2 TX2 2, u_lay RX2 TX2 3, u_lay RX2 TX2 4, u_lay RX2 TX2 5, u_lay RX2 TX2 6, u_lay RX2 TX2 7, u_lay RX2 TX2 8, u_lay RX2 TX2 9], w ∈ aW
  exact List.forall_mem_cons.mpr ⟨w_285, List.forall_mem_cons.mpr ⟨w_287, List.forall_mem_cons.mpr ⟨w_289, List.forall_mem_cons.mpr ⟨w_291, List.forall_mem_cons.mpr ⟨w_293, List.forall_mem_cons.mpr ⟨w_295, List.forall_mem_cons.mpr ⟨w_297, List.forall_mem_cons.mpr ⟨w_299, List.forall_mem_cons.mpr ⟨w_301, List.forall_mem_cons.mpr ⟨w_303, fun _ h => absurd h List.not_mem_nil⟩⟩⟩⟩⟩⟩⟩⟩⟩⟩
theorem inX3 : ∀ w ∈ u_ws RX3 TX3 2, w ∈ aW := by
  show ∀ w ∈ [u_lay RX3 TX3 0, u_lay RX3 TX3 1], w ∈ aW
  exact List.forall_mem_cons.mpr ⟨w_42, List.forall_mem_cons.mpr ⟨w_44, fun _ h => absurd h List.not_mem_nil⟩⟩
theorem inX4 : ∀ w ∈ u_ws RX4 TX4 13, w ∈ aW := by
  show ∀ w ∈ [u_lay RX4 TX4 0, u_lay RX4 TX4 1, u_lay RX4 TX4 2, u_lay RX4 TX4 3, u_lay RX4 TX4 4, u_lay RX4 TX4 5, u_lay RX4 TX4 6, u_lay RX4 TX4 7, u_lay RX4 TX4 8, u_lay RX4 TX4 9, u_lay RX4 TX4 10, u_lay RX4 TX4 11, u_lay RX4 TX4 12], w ∈ aW
  exact List.forall_mem_cons.mpr ⟨w_156, List.forall_mem_cons.mpr ⟨w_158, List.forall_mem_cons.mpr ⟨w_160, List.forall_mem_cons.mpr ⟨w_162, List.forall_mem_cons.mpr ⟨w_164, List.forall_mem_cons.mpr ⟨w_166, List.forall_mem_cons.mpr ⟨w_168, List.forall_mem_cons.mpr ⟨w_170, List.forall_mem_cons.mpr ⟨w_172, List.forall_mem_cons.mpr ⟨w_174, List.forall_mem_cons.mpr ⟨w_176, List.forall_mem_cons.mpr ⟨w_178, List.forall_mem_cons.mpr ⟨w_180, fun _ h => absurd h List.not_mem_nil⟩⟩⟩⟩⟩⟩⟩⟩⟩⟩⟩⟩⟩
theorem inX5 : ∀ w ∈ u_ws RX5 TX5 13, w ∈ aW := by
  show ∀ w ∈ [u_lay RX5 TX5 0, u_lay RX5 TX5 1, u_lay RX5 TX5 2, u_lay RX5 TX5 3, u_lay RX5 TX5 4, u_lay RX5 TX5 5, u_lay RX5 TX5 6, u_lay RX5 TX5 7, u_lay RX5 TX5 8, u_lay RX5 TX5 9, u_lay RX5 TX5 10, u_lay RX5 TX5 11, u_lay RX5 TX5 12], w ∈ aW
  exact List.forall_mem_cons.mpr ⟨w_203, List.forall_mem_cons.mpr ⟨w_205, List.forall_mem_cons.mpr ⟨w_207, List.forall_mem_cons.mpr ⟨w_209, List.forall_mem_cons.mpr ⟨w_211, List.forall_mem_cons.mpr ⟨w_213, List.forall_mem_cons.mpr ⟨w_215, List.forall_mem_cons.mpr ⟨w_217, List.forall_mem_cons.mpr ⟨w_219, List.forall_mem_cons.mpr ⟨w_221, List.forall_mem_cons.mpr ⟨w_223, List.forall_mem_cons.mpr ⟨w_225, List.forall_mem_cons.mpr ⟨w_227, fun _ h => absurd h List.not_mem_nil⟩⟩⟩⟩⟩⟩⟩⟩⟩⟩⟩⟩⟩
theorem inX6 : ∀ w ∈ u_ws RX6 TX6 48, w ∈ aW := by
  show ∀ w ∈ [u_lay RX6 TX6 0, u_lay RX6 TX6 1, u_lay RX6 TX6 2, u_lay RX6 TX6 3, u_lay RX6 TX6 4, u_lay RX6 TX6 5, u_lay RX6 TX6 6, u_lay RX6 TX6 7, u_lay RX6 TX6 8, u_lay RX6 TX6 9, u_lay RX6 TX6 10, u_lay RX6 TX6 11, u_lay RX6 TX6 12, u_lay RX6 TX6 13, u_lay RX6 TX6 14, u_lay RX6 TX6 15, u_lay RX6 TX6 16, u_lay RX6 TX6 17, u_lay RX6 TX6 18, u_lay RX6 TX6 19, u_lay RX6 TX6 20, u_lay RX6 TX6 21, u_lay RX6 TX6 22, u_lay RX6 TX6 23, u_lay RX6 TX6 24, u_lay RX6 TX6 25, u_lay RX6 TX6 26, u_lay RX6 TX6 27, u_lay RX6 TX6 28, u_lay RX6 TX6 29, u_lay RX6 TX6 30, u_lay RX6 TX6 31, u_lay RX6 TX6 32, u_lay RX6 TX6 33, u_lay RX6 TX6 34, u_lay RX6 TX6 35, u_lay RX6 TX6 36, u_lay RX6 TX6 37, u_lay RX6 TX6 38, u_lay RX6 TX6 39, u_lay RX6 TX6 40, u_lay RX6 TX6 41, u_lay RX6 TX6 42, u_lay RX6 TX6 43, u_lay RX6 TX6 44, u_lay RX6 TX6 45, u_lay RX6 TX6 46, u_lay RX6 TX6 47], w ∈ aW
  exact List.forall_mem_cons.mpr ⟨w_894, List.forall_mem_cons.mpr ⟨w_896, List.forall_mem_cons.mpr ⟨w_898, List.forall_mem_cons.mpr ⟨w_900, List.forall_mem_cons.mpr ⟨w_902, List.forall_mem_cons.mpr ⟨w_904, List.forall_mem_cons.mpr ⟨w_906, List.forall_mem_cons.mpr ⟨w_908, List.forall_mem_cons.mpr ⟨w_910, List.forall_mem_cons.mpr ⟨w_912, List.forall_mem_cons.mpr ⟨w_914, List.forall_mem_cons.mpr ⟨w_916, List.forall_mem_cons.mpr ⟨w_918, List.forall_mem_cons.mpr ⟨w_920, List.forall_mem_cons.mpr ⟨w_922, List.forall_mem_cons.mpr ⟨w_924, List.forall_mem_cons.mpr ⟨w_926, List.forall_mem_cons.mpr ⟨w_928, List.forall_mem_cons.mpr ⟨w_930, List.forall_mem_cons.mpr ⟨w_932, List.forall_mem_cons.mpr ⟨w_934, List.forall_mem_cons.mpr ⟨w_936, List.forall_mem_cons.mpr ⟨w_938, List.forall_mem_cons.mpr ⟨w_940, List.forall_mem_cons.mpr ⟨w_942, List.forall_mem_cons.mpr ⟨w_944, List.forall_mem_cons.mpr ⟨w_946, List.forall_mem_cons.mpr ⟨w_948, List.forall_mem_cons.mpr ⟨w_950, List.forall_mem_cons.mpr ⟨w_952, List.forall_mem_cons.mpr ⟨w_954, List.forall_mem_cons.mpr ⟨w_956, List.forall_mem_cons.mpr ⟨w_958, List.forall_mem_cons.mpr ⟨w_960, List.forall_mem_cons.mpr ⟨w_962, List.forall_mem_cons.mpr ⟨w_964, List.forall_mem_cons.mpr ⟨w_966, List.forall_mem_cons.mpr ⟨w_968, List.forall_mem_cons.mpr ⟨w_970, List.forall_mem_cons.mpr ⟨w_972, List.forall_mem_cons.mpr ⟨w_974, List.forall_mem_cons.mpr ⟨w_976, List.forall_mem_cons.mpr ⟨w_978, List.forall_mem_cons.mpr ⟨w_980, List.forall_mem_cons.mpr ⟨w_982, List.forall_mem_cons.mpr ⟨w_984, List.forall_mem_cons.mpr ⟨w_986, List.forall_mem_cons.mpr ⟨w_988, fun _ h => absurd h List.not_mem_nil⟩⟩⟩⟩⟩⟩⟩⟩⟩⟩⟩⟩⟩⟩⟩⟩⟩⟩⟩⟩⟩⟩⟩⟩⟩⟩⟩⟩⟩⟩⟩⟩⟩⟩⟩⟩⟩⟩⟩⟩⟩⟩⟩⟩⟩⟩⟩⟩
end
section
/-! what is constant through a run: the classes' numbers, the array classes' numbers, the words of nest mates -/
abbrev PG : Type := va_G × (Nat → ClassId)
def pg_tys (G : PG) : List (ClassId × FieldType) := [(G.2 0, .int), (G.2 1, .long), (G.2 2, .char), (G.2 3, .boolean), (G.2 4, .object "PatternMatcher$Node"), (G.2 5, .object "PatternMatcher$Row")]
def pg_N (U : State) : Prop := ∀ w ∈ nxW, va_Nw w U
theorem nw_tab {w : Cond} (h : nwK w = true) : w.onTables = true := by
  cases w <;> first | rfl | exact absurd h (by simp [nwK])
theorem nw_warm {w : Cond} (hk : nwK w = true) {s U : State} (hW : s.WarmedH U.vm) (h : va_Nw w s) : va_Nw w U := by
  cases w <;> first | exact va_Nw.warmF hW h | exact va_Nw.warmM hW h | exact absurd hk (by simp [nwK])
theorem pg_N.warm {s U : State} (hW : s.WarmedH U.vm) (h : pg_N s) : pg_N U := fun w hw => nw_warm (List.mem_filter.mp hw).2 hW (h w hw)
theorem pg_N.same {u U : State} (e : u.vm = U.vm) (h : pg_N u) : pg_N U := fun w hw => va_Nw.same (nw_tab (List.mem_filter.mp hw).2) e (h w hw)
theorem pg_N.use {s : State} (h : pg_N s) {w : Cond} (hw : w ∈ nxW) {args : Array Value} : w.before args s = true := va_Nw.use (nw_tab (List.mem_filter.mp hw).2) (h w hw)
def pg_K (G : PG) (U : State) : Prop := va_K G.1 vwCl (pg_tys G) U ∧ pg_N U ∧ va_AO "PatternMatcher$Node" U ∧ va_AO "PatternMatcher$Row" U
theorem pg_K.warm {G : PG} {s U : State} (h : pg_K G s) (hW : s.WarmedH U.vm) : pg_K G U := ⟨va_K.moved hW.alike h.1, h.2.1.warm hW, h.2.2.1.moved hW.alike, h.2.2.2.moved hW.alike⟩
theorem pg_K.same {G : PG} {u U : State} (e : u.vm = U.vm) (h : pg_K G u) : pg_K G U := by
  have ha : u.vm.Alike U.vm := by rw [e]; exact Vm.Alike.refl _
  exact ⟨va_K.moved ha h.1, h.2.1.same e, h.2.2.1.moved ha, h.2.2.2.moved ha⟩
theorem ra_one {U : State} {a b : ClassId} {ty : FieldType} (h1 : va_RA U a ty) (h2 : va_RA U b ty) : a = b := by
  cases ty with
  | object C =>
    obtain ⟨_, _, _, _, _, h⟩ := h1
    obtain ⟨_, _, _, _, _, h'⟩ := h2
    exact Option.some.inj (h.symm.trans h')
  | _ => exact Option.some.inj (h1.symm.trans h2)
theorem pg_one {G : PG} {s : State} (hK : pg_K G s) {i : Nat} {ty : FieldType} (hi : (pg_tys G)[i]? = some (G.2 i, ty)) {cA : ClassId} {tys : List (ClassId × FieldType)} (h : va_K G.1 vwCl (tys ++ [(cA, ty)]) s) : cA = G.2 i := by
  have h1 := (h.2 tys.length (cA, ty) (by simp)).2
  exact ra_one h1 (hK.1.2 i _ hi).2
theorem aw_G {z : Cond} (hz : z ∈ aW) : GoodIn aW (z :: aW) := fun w h => by
  have hw : w ∈ aW := (List.mem_cons.mp h).elim (fun e => e ▸ hz) id
  exact ⟨hw, good_of_word (aw_good hw)⟩
theorem aw_GL {l : List Cond} (hl : ∀ w ∈ l, w ∈ aW) {z : Cond} (hz : z ∈ aW) : GoodIn aW (l ++ (z :: aW)) := fun w h => by
  have hw : w ∈ aW := (List.mem_append.mp h).elim (hl w) (fun h => (List.mem_cons.mp h).elim (fun e => e ▸ hz) id)
  exact ⟨hw, good_of_word (aw_good hw)⟩
theorem aw_V {own : String} {idx : Nat} {C : String} {y : MethodName} {z : Cond} (h1 : Cond.methodLink own idx y ∈ aW) (h2 : Cond.instanceMethod y ∈ aW) (h3 : Cond.selects C y y ∈ aW) (h4 : Cond.initialized C ∈ aW) (hz : z ∈ aW) : GoodIn aW (wsV own idx C y (z :: aW)) :=
  aw_GL (fun w h => by simp only [List.mem_cons, List.not_mem_nil, or_false] at h; rcases h with rfl | rfl | rfl | rfl <;> assumption) hz
theorem aw_S {own : String} {idx : Nat} {y : MethodName} {z : Cond} (h1 : Cond.methodLink own idx y ∈ aW) (h2 : Cond.static y ∈ aW) (h3 : Cond.initialized y.cls ∈ aW) (hz : z ∈ aW) : GoodIn aW (va_wsS own idx y (z :: aW)) :=
  aw_GL (fun w h => by simp only [List.mem_cons, List.not_mem_nil, or_false] at h; rcases h with rfl | rfl | rfl <;> assumption) hz
section PG1
variable {p : Program} {l : Launch} {e : Env} {R : Room} {s : State} {m : MethodId} {args : Array Value} {below : List Frame} {meth : Method} {c : Code} {H : Heap} {locs : List Loc} {cells slots : Nat} {Q : State → Prop} {G : PG} {A : Nat → Prop} {H0 : Heap} {ws : va_W} {cc : ByteArray} {pc : Nat} {ls : Array Slot} {rest : List Value}
theorem pg_newa (hexec : p.tables.exec = Jvm.exec) (hb : c.code = cc) {atype : ArrayType} (harr : (Cond.arrayClass (newarray.typeOf atype)).before args s = true) {ty : FieldType} (hty : newarray.typeOf atype = ty) (hK : pg_K G s) {i : Nat} (hi : (pg_tys G)[i]? = some (G.2 i, ty)) (hP : va_P G.1 vwCl ws H) (hD : va_D A ws) (hS : va_S A H0 H locs) (hA : ∀ q, H0.size ≤ q → A q)
    {n : Int32} {N' : Nat} {a0 : vp_A} (ha : ∀ cA : ClassId, vp_cell cA a0 = arrV cA N' (fun _ => defaultValue ty)) (hn : ¬ n < 0) (hN : n.toNatClampNeg = N') (hbytes : N' * componentBytes ty ≤ 536870912) (hcells : cells + 1 ≤ R.cells) (hslots : slots + N' ≤ R.slots) (hdg : decode cc pc = .ok (.newarray atype, 2))
    (kk : ∀ (q : Nat) (H1 : Heap), va_P G.1 vwCl (ws ++ [(q, .inl (G.2 i, a0))]) H1 → va_D A (ws ++ [(q, .inl (G.2 i, a0))]) → va_S A H0 H1 locs →
      W p l e R s m args below meth c H1 locs (cells + 1) (slots + N') Q (F0 m (pc + 2) ls (.ref q :: rest))) : W p l e R s m args below meth c H locs cells slots Q (F0 m pc ls (.int n :: rest)) := by
  refine va_newa (tys := pg_tys G) hexec hb harr hty hK.1 hP hD hS hA ha hn hN hbytes hcells hslots hdg (fun q cA H1 hK1 hP1 hD1 hS1 => ?_)
  obtain rfl := pg_one hK hi hK1
  exact kk q H1 hP1 hD1 hS1
theorem pg_newq (hexec : p.tables.exec = Jvm.exec) (hb : c.code = cc) {own C : String} {index : Nat} (hown : s.vm.findClass own = some m.cls) (hclink : (Cond.classLink own index C).before args s = true) (hover : va_AO C s) (hK : pg_K G s) {i : Nat} (hi : (pg_tys G)[i]? = some (G.2 i, .object C)) (hP : va_P G.1 vwCl ws H) (hD : va_D A ws) (hS : va_S A H0 H locs) (hA : ∀ q, H0.size ≤ q → A q)
    {n : Int32} {N' : Nat} (hn : ¬ n < 0) (hN : n.toNatClampNeg = N') (hbytes : N' * 4 ≤ 536870912) (hcells : cells + 1 ≤ R.cells) (hslots : slots + N' ≤ R.slots) (hdg : decode cc pc = .ok (.anewarray index, 3))
    (kk : ∀ (q : Nat) (H1 : Heap), va_P G.1 vwCl (ws ++ [(q, .inl (G.2 i, N', .inr (.inr (.inr (.inr (fun _ => none))))))]) H1 → va_D A (ws ++ [(q, .inl (G.2 i, N', .inr (.inr (.inr (.inr (fun _ => none))))))]) → va_S A H0 H1 locs →
      W p l e R s m args below meth c H1 locs (cells + 1) (slots + N') Q (F0 m (pc + 3) ls (.ref q :: rest))) : W p l e R s m args below meth c H locs cells slots Q (F0 m pc ls (.int n :: rest)) := by
  refine va_newq (tys := pg_tys G) hexec hb hown hclink hover hK.1 hP hD hS hA hn hN hbytes hcells hslots hdg (fun q cA H1 hK1 hP1 hD1 hS1 => ?_)
  obtain rfl := pg_one hK hi hK1
  exact kk q H1 hP1 hD1 hS1
end PG1
end
section
/-! my own layer: one form of contract, one row a call, one row an end -/
section LAY1
variable {p : Program} {l : Launch} {e : Env} {R : Room} {s : State} {m : MethodId} {args : Array Value} {below : List Frame} {meth : Method} {c : Code} {H : Heap} {locs : List Loc} {cells slots : Nat} {Q : State → Prop}
theorem tp_i {pc : Nat} {ls : Array Slot} {rest : List Value} {x : Int32} (y : Int32) (h : x = y) (k : W p l e R s m args below meth c H locs cells slots Q (F0 m pc ls (.int y :: rest))) : W p l e R s m args below meth c H locs cells slots Q (F0 m pc ls (.int x :: rest)) := by
  rw [h]; exact k
theorem tp_l {pc : Nat} {ls : Array Slot} {rest : List Value} {x : Int64} (y : Int64) (h : x = y) (k : W p l e R s m args below meth c H locs cells slots Q (F0 m pc ls (.long y :: rest))) : W p l e R s m args below meth c H locs cells slots Q (F0 m pc ls (.long x :: rest)) := by
  rw [h]; exact k
theorem tp_v {pc : Nat} {ls : Array Slot} {rest : List Value} {x : Value} (y : Value) (h : x = y) (k : W p l e R s m args below meth c H locs cells slots Q (F0 m pc ls (y :: rest))) : W p l e R s m args below meth c H locs cells slots Q (F0 m pc ls (x :: rest)) := by
  rw [h]; exact k
end LAY1
/-- a contract's start: the world wc, the tables -/
def cS (G : PG) (wc : va_W) (sz : Nat) (av : List Value) : Array Value → State → Prop := va_Pc av (fun U => U.heap.size = sz ∧ va_P G.1 vwCl wc U.heap ∧ va_D (fun _ => True) wc ∧ pg_K G U)
theorem cS_blind {G : PG} {wc : va_W} {sz : Nat} {av : List Value} : FrameBlind (cS G wc sz av) := fun _ U g mk h => ⟨h.1, h.2.1, h.2.2.1, h.2.2.2.1, pg_K.same (u := U) (U := U.calling g mk _) rfl h.2.2.2.2⟩
theorem cS_pre {G : PG} {wc : va_W} {av : List Value} {s : State} {H : Heap} {A : Nat → Prop} (hP : va_P G.1 vwCl wc H) (hD : va_D A wc) (hK : pg_K G s) : ∀ U : State, U.heap = H → s.WarmedH U.vm → cS G wc H.size av av.toArray U := fun U hU hW => ⟨rfl, by rw [hU], by rw [hU]; exact hP, hD.weaken (fun _ _ _ _ => trivial), hK.warm hW⟩
/-- .. and its end -/
def oB (G : PG) (A : Nat → Prop) {S : Type} (w1 : S → va_W) (u : S) (t : State) : Prop := va_P G.1 vwCl (w1 u) t.heap ∧ va_D A (w1 u)
def oR (G : PG) (A : Nat → Prop) {S : Type} (w1 : S → va_W) (pa : S → Nat → Prop) (u : S) (a : Nat) (t : State) : Prop := pa u a ∧ va_P G.1 vwCl (w1 u) t.heap ∧ va_D A (w1 u)
def Ci (l : Launch) (y : MethodName) (ws : List Cond) (rm : Room) (G : PG) (wc : va_W) (av : List Value) {S : Type} (post : Int32 → S → Prop) (w1 : S → va_W) (mc ms : Nat) : Prop := ∀ sz, Met l y ws rm (cS G wc sz av) (va_Qi post (oB G (va_A wc sz) w1) (va_A wc sz)) mc ms (va_A wc sz)
def Cl (l : Launch) (y : MethodName) (ws : List Cond) (rm : Room) (G : PG) (wc : va_W) (av : List Value) {S : Type} (post : Int64 → S → Prop) (w1 : S → va_W) (mc ms : Nat) : Prop := ∀ sz, Met l y ws rm (cS G wc sz av) (va_Ql post (oB G (va_A wc sz) w1) (va_A wc sz)) mc ms (va_A wc sz)
def Cv (l : Launch) (y : MethodName) (ws : List Cond) (rm : Room) (G : PG) (wc : va_W) (av : List Value) {S : Type} (post : S → Prop) (w1 : S → va_W) (mc ms : Nat) : Prop := ∀ sz, Met l y ws rm (cS G wc sz av) (va_Qv post (oB G (va_A wc sz) w1) (va_A wc sz)) mc ms (va_A wc sz)
def Cr (l : Launch) (y : MethodName) (ws : List Cond) (rm : Room) (G : PG) (wc : va_W) (av : List Value) {S : Type} (post : S → Prop) (pa : S → Nat → Prop) (w1 : S → va_W) (mc ms : Nat) : Prop := ∀ sz, Met l y ws rm (cS G wc sz av) (va_Qr post (oR G (va_A wc sz) w1 pa) (va_A wc sz)) mc ms (va_A wc sz)
/-- what a body may use -/
def bF (p : Program) (s : State) (m : MethodId) (meth : Method) (c : Code) (cc : ByteArray) (maxL : Nat) (ret : Option FieldType) (args : Array Value) (y : MethodName) : Prop :=
  CallFix p m c cc maxL s args aW y.cls ∧ meth.sig.returnType = ret ∧ meth.locks = false ∧ meth.name = y.name
section LAY2
variable {l : Launch} {y : MethodName} {ws : List Cond} {rm : Room} {G : PG} {wc : va_W} {av : List Value} {cc : ByteArray} {maxL mc ms : Nat} {ret : Option FieldType}
theorem bF_of {x : Cond} (hw : ws = x :: aW) {p : Program} {e : Env} {s : State} {m : MethodId} {args : Array Value} {below : List Frame} {meth : Method} {c : Code} {s₁ : State} (B : BodyLoose p l y (headSpec ws rm) cc maxL ret e s m args below meth c s₁) (hml : c.maxLocals = maxL) : bF p s m meth c cc maxL ret args y :=
  ⟨⟨B.exec, B.bytes, hml, findClass_of_methodNamed B.named, fun w h => atoms_spec (ws := ws) B.pre w (by rw [hw]; exact List.mem_cons_of_mem _ h)⟩, B.returns, B.notSynchronized, (name_of_methodNamed B.named B.method).1⟩
/-- any body: a world, its cells apart and in A, whatever is new in A -/
theorem ofB {Qc : (Nat → Prop) → Array Value → State → Outcome → State → Prop} (hy : plainName y.cls = true) (hw : ws = Cond.code y cc maxL ret :: aW)
    (body : ∀ (p : Program) (e : Env) (s : State) (m : MethodId) (below : List Frame) (meth : Method) (c : Code) (A : Nat → Prop), bF p s m meth c cc maxL ret av.toArray y → pg_K G s → (∀ q, s.heap.size ≤ q → A q) → va_P G.1 vwCl wc s.heap → va_D A wc →
      W p l e rm s m av.toArray below meth c s.heap [] 0 0 (MQ below (Qc A) av.toArray s mc ms A) (entryFrame m av.toArray maxL)) : ∀ sz, Met l y ws rm (cS G wc sz av) (Qc (va_A wc sz)) mc ms (va_A wc sz) := by
  intro sz
  refine Met.ofW (cc := cc) (maxL := maxL) (ret := ret) hy hw ?_
  intro p e s m args below meth c s₁ B hml hv
  obtain ⟨rfl, hsz, hP, hD0, hK⟩ := hv
  subst hsz
  exact body p e s m below meth c _ (bF_of hw B hml) hK (fun q h => Or.inr h) hP hD0.self
end LAY2
section LAY3
variable {p : Program} {l : Launch} {e : Env} {R : Room} {s : State} {m : MethodId} {args : Array Value} {below : List Frame} {meth : Method} {c : Code} {H : Heap} {locs : List Loc} {cells slots : Nat} {Q : State → Prop}
variable {G : PG} {A : Nat → Prop} {mc ms pc maxL : Nat} {cc : ByteArray} {y : MethodName} {ls : Array Slot} {w : va_W}
/-- the ends -/
theorem en_i {S : Type} {post : Int32 → S → Prop} {w1 : S → va_W} {ty : FieldType} (F : bF p s m meth c cc maxL (some ty) args y) (hS : va_S A s.heap H locs) (r : Int32) (u : S) (hn : narrow ty (.int r) = .int r) (hp : post r u) (hP : va_P G.1 vwCl (w1 u) H) (hD : va_D A (w1 u)) (hc : cells ≤ mc) (hs : slots ≤ ms) (hdg : decode cc pc = .ok (.ireturn, 1)) :
    W p l e R s m args below meth c H locs cells slots (MQ below (va_Qi post (oB G A w1) A) args s mc ms A) (F0 m pc ls [.int r]) := by
  obtain ⟨⟨hx, hb, -⟩, hr, hk, -⟩ := F
  refine W.widen (k := mc) (n := ms) hc hs ?_
  exact W.zret (v := r) (ty := ty) hx hb hr hn (fun t ht hW => ⟨⟨r, u, rfl, hp, by rw [ht]; exact hP, hD⟩, hS.F ht⟩) hS.2.2 hdg (hlocks := hk)
theorem en_v {S : Type} {post : S → Prop} {w1 : S → va_W} (F : bF p s m meth c cc maxL none args y) (hS : va_S A s.heap H locs) (u : S) (hp : post u) (hP : va_P G.1 vwCl (w1 u) H) (hD : va_D A (w1 u)) (hc : cells ≤ mc) (hs : slots ≤ ms) (hdg : decode cc pc = .ok (.return_, 1)) :
    W p l e R s m args below meth c H locs cells slots (MQ below (va_Qv post (oB G A w1) A) args s mc ms A) (F0 m pc ls []) := by
  obtain ⟨⟨hx, hb, -⟩, hr, hk, -⟩ := F
  refine W.widen (k := mc) (n := ms) hc hs ?_
  exact W.vret hx hb hr (fun t ht hW => ⟨⟨u, rfl, hp, by rw [ht]; exact hP, hD⟩, hS.F ht⟩) hS.2.2 hdg (hlocks := hk)
theorem en_l {S : Type} {post : Int64 → S → Prop} {w1 : S → va_W} (F : bF p s m meth c cc maxL (some .long) args y) (hS : va_S A s.heap H locs) (r : Int64) (u : S) (hp : post r u) (hP : va_P G.1 vwCl (w1 u) H) (hD : va_D A (w1 u)) (hc : cells ≤ mc) (hs : slots ≤ ms) (hdg : decode cc pc = .ok (.lreturn, 1)) :
    W p l e R s m args below meth c H locs cells slots (MQ below (va_Ql post (oB G A w1) A) args s mc ms A) (F0 m pc ls [.long r]) := by
  obtain ⟨⟨hx, hb, -⟩, hr, hk, -⟩ := F
  refine W.widen (k := mc) (n := ms) hc hs ?_
  exact W.lret (v := r) hx hb hr (fun t ht hW => ⟨⟨r, u, rfl, hp, by rw [ht]; exact hP, hD⟩, hS.F ht⟩) hS.2.2 hdg (hlocks := hk)
theorem en_r {S : Type} {post : S → Prop} {pa : S → Nat → Prop} {w1 : S → va_W} {cn : String} (F : bF p s m meth c cc maxL (some (.object cn)) args y) (hS : va_S A s.heap H locs) (a : Nat) (u : S) (hp : post u) (ha : pa u a) (hP : va_P G.1 vwCl (w1 u) H) (hD : va_D A (w1 u)) (hc : cells ≤ mc) (hs : slots ≤ ms) (hdg : decode cc pc = .ok (.areturn, 1)) :
    W p l e R s m args below meth c H locs cells slots (MQ below (va_Qr post (oR G A w1 pa) A) args s mc ms A) (F0 m pc ls [.ref a]) := by
  obtain ⟨⟨hx, hb, -⟩, hr, hk, -⟩ := F
  refine W.widen (k := mc) (n := ms) hc hs ?_
  exact W.aret (v := .ref a) hx hb hr (Or.inl ⟨_, rfl⟩) (Or.inr ⟨_, rfl⟩) (fun t ht hW => ⟨⟨u, a, rfl, hp, ha, by rw [ht]; exact hP, hD⟩, hS.F ht⟩) hS.2.2 hdg (hlocks := hk)
/-- behind a call: the rest's cells, then the callee's world -/
theorem kl_i {S : Type} {post : Int32 → S → Prop} {w1 : S → va_W} {wc wr : va_W} {H0 : Heap} {st0 rest : List Value} {a : Array Value}
    (hr : va_Run p l e R s m args below meth c H locs cells slots mc ms (F0 m pc ls st0) rest (va_Qi post (oB G (va_A wc H.size) w1) (va_A wc H.size) a) (va_A wc H.size))
    (hP : va_P G.1 vwCl w H) (hD : va_D A w) (hS : va_S A H0 H locs) (hA : ∀ q, H0.size ≤ q → A q) (isC isR : List Nat) (hC : isC.map (fun i => w[i]?) = wc.map some) (hR : isR.map (fun i => w[i]?) = wr.map some) (hn : va_nd isR = true) (hdis : ∀ i ∈ isR, i ∉ isC)
    (kk : ∀ (r : Int32) (u : S) (H1 : Heap) (locs1 : List Loc), post r u → va_P G.1 vwCl (wr ++ w1 u) H1 → va_D A (wr ++ w1 u) → va_S A H0 H1 locs1 → W p l e R s m args below meth c H1 locs1 (cells + mc) (slots + ms) Q (F0 m (pc + 3) ls (.int r :: rest))) :
    W p l e R s m args below meth c H locs cells slots Q (F0 m pc ls st0) := by
  have hF := va_free (wc := wc) hD hS hA isC hC
  refine va_calli hr hS (fun q _ h => hF q h) hF (fun r u t H1 locs1 ht hvm hp hB hz hk hS1 => ?_)
  obtain ⟨hP1, hD1⟩ := hB
  rw [ht] at hP1
  obtain ⟨hP2, hD2⟩ := va_join (wr := wr) hP hD isC isR hC hR hn hdis hk hF hP1 hD1
  exact kk r u H1 locs1 hp hP2 hD2 hS1
theorem kl_l {S : Type} {post : Int64 → S → Prop} {w1 : S → va_W} {wc wr : va_W} {H0 : Heap} {st0 rest : List Value} {a : Array Value}
    (hr : va_Run p l e R s m args below meth c H locs cells slots mc ms (F0 m pc ls st0) rest (va_Ql post (oB G (va_A wc H.size) w1) (va_A wc H.size) a) (va_A wc H.size))
    (hP : va_P G.1 vwCl w H) (hD : va_D A w) (hS : va_S A H0 H locs) (hA : ∀ q, H0.size ≤ q → A q) (isC isR : List Nat) (hC : isC.map (fun i => w[i]?) = wc.map some) (hR : isR.map (fun i => w[i]?) = wr.map some) (hn : va_nd isR = true) (hdis : ∀ i ∈ isR, i ∉ isC)
    (kk : ∀ (r : Int64) (u : S) (H1 : Heap) (locs1 : List Loc), post r u → va_P G.1 vwCl (wr ++ w1 u) H1 → va_D A (wr ++ w1 u) → va_S A H0 H1 locs1 → W p l e R s m args below meth c H1 locs1 (cells + mc) (slots + ms) Q (F0 m (pc + 3) ls (.long r :: rest))) :
    W p l e R s m args below meth c H locs cells slots Q (F0 m pc ls st0) := by
  have hF := va_free (wc := wc) hD hS hA isC hC
  refine va_calll hr hS (fun q _ h => hF q h) hF (fun r u t H1 locs1 ht hvm hp hB hz hk hS1 => ?_)
  obtain ⟨hP1, hD1⟩ := hB
  rw [ht] at hP1
  obtain ⟨hP2, hD2⟩ := va_join (wr := wr) hP hD isC isR hC hR hn hdis hk hF hP1 hD1
  exact kk r u H1 locs1 hp hP2 hD2 hS1
theorem kl_v {S : Type} {post : S → Prop} {w1 : S → va_W} {wc wr : va_W} {H0 : Heap} {st0 rest : List Value} {a : Array Value}
    (hr : va_Run p l e R s m args below meth c H locs cells slots mc ms (F0 m pc ls st0) rest (va_Qv post (oB G (va_A wc H.size) w1) (va_A wc H.size) a) (va_A wc H.size))
    (hP : va_P G.1 vwCl w H) (hD : va_D A w) (hS : va_S A H0 H locs) (hA : ∀ q, H0.size ≤ q → A q) (isC isR : List Nat) (hC : isC.map (fun i => w[i]?) = wc.map some) (hR : isR.map (fun i => w[i]?) = wr.map some) (hn : va_nd isR = true) (hdis : ∀ i ∈ isR, i ∉ isC)
    (kk : ∀ (u : S) (H1 : Heap) (locs1 : List Loc), post u → va_P G.1 vwCl (wr ++ w1 u) H1 → va_D A (wr ++ w1 u) → va_S A H0 H1 locs1 → W p l e R s m args below meth c H1 locs1 (cells + mc) (slots + ms) Q (F0 m (pc + 3) ls rest)) :
    W p l e R s m args below meth c H locs cells slots Q (F0 m pc ls st0) := by
  have hF := va_free (wc := wc) hD hS hA isC hC
  refine va_callv hr hS (fun q _ h => hF q h) hF (fun u t H1 locs1 ht hvm hp hB hz hk hS1 => ?_)
  obtain ⟨hP1, hD1⟩ := hB
  rw [ht] at hP1
  obtain ⟨hP2, hD2⟩ := va_join (wr := wr) hP hD isC isR hC hR hn hdis hk hF hP1 hD1
  exact kk u H1 locs1 hp hP2 hD2 hS1
theorem kl_r {S : Type} {post : S → Prop} {pa : S → Nat → Prop} {w1 : S → va_W} {wc wr : va_W} {H0 : Heap} {st0 rest : List Value} {a : Array Value}
    (hr : va_Run p l e R s m args below meth c H locs cells slots mc ms (F0 m pc ls st0) rest (va_Qr post (oR G (va_A wc H.size) w1 pa) (va_A wc H.size) a) (va_A wc H.size))
    (hP : va_P G.1 vwCl w H) (hD : va_D A w) (hS : va_S A H0 H locs) (hA : ∀ q, H0.size ≤ q → A q) (isC isR : List Nat) (hC : isC.map (fun i => w[i]?) = wc.map some) (hR : isR.map (fun i => w[i]?) = wr.map some) (hn : va_nd isR = true) (hdis : ∀ i ∈ isR, i ∉ isC)
    (kk : ∀ (u : S) (ra : Nat) (H1 : Heap) (locs1 : List Loc), post u → pa u ra → va_P G.1 vwCl (wr ++ w1 u) H1 → va_D A (wr ++ w1 u) → va_S A H0 H1 locs1 → W p l e R s m args below meth c H1 locs1 (cells + mc) (slots + ms) Q (F0 m (pc + 3) ls (.ref ra :: rest))) :
    W p l e R s m args below meth c H locs cells slots Q (F0 m pc ls st0) := by
  have hF := va_free (wc := wc) hD hS hA isC hC
  refine va_callr hr hS (fun q _ h => hF q h) hF (fun u ra t H1 locs1 ht hvm hp hB hz hk hS1 => ?_)
  obtain ⟨ha, hP1, hD1⟩ := hB
  rw [ht] at hP1
  obtain ⟨hP2, hD2⟩ := va_join (wr := wr) hP hD isC isR hC hR hn hdis hk hF hP1 hD1
  exact kk u ra H1 locs1 hp ha hP2 hD2 hS1
end LAY3
end
section
/-! numbers -/
theorem i_nle {a b : Int32} (h : a < b) (z : b ≤ a) : False := by
  rw [Int32.lt_iff_toInt_lt] at h
  rw [Int32.le_iff_toInt_le] at z
  omega
theorem pk_nle {a b : Int32} (h : a < b) (z : b ≤ a) : False := i_nle h z
theorem pk_le_of {a b : Int32} (h : ¬ a < b) : b ≤ a := by
  rw [Int32.lt_iff_toInt_lt] at h
  rw [Int32.le_iff_toInt_le]
  omega
theorem pk_lt_of {a b : Int32} (h : ¬ a ≤ b) : b < a := by
  rw [Int32.le_iff_toInt_le] at h
  rw [Int32.lt_iff_toInt_lt]
  omega
theorem pk_at_in {i : Int32} {j n : Nat} (h1 : ¬ i < 0) (h2 : i < nI j) (hj : j ≤ n) (hn : n < 2147483648) : vp_in i n := by
  rw [vp_in_iff]
  rw [Int32.lt_iff_toInt_lt, nI_toInt (by omega)] at h2
  rw [Int32.lt_iff_toInt_lt] at h1
  have h0 : (0 : Int32).toInt = 0 := by decide
  omega
end
section
/-! PatternMatcher.Row and Node: contracts -/
theorem dX3_init_0 : decode cX3_init 0 = .ok (.aload_n 0, 1) := by decide +kernel
theorem dX3_init_1 : decode cX3_init 1 = .ok (.invokespecial 3, 3) := by decide +kernel
theorem dX3_init_4 : decode cX3_init 4 = .ok (.aload_n 0, 1) := by decide +kernel
theorem dX3_init_5 : decode cX3_init 5 = .ok (.iload_n 1, 1) := by decide +kernel
theorem dX3_init_6 : decode cX3_init 6 = .ok (.newarray .char, 2) := by decide +kernel
theorem dX3_init_8 : decode cX3_init 8 = .ok (.putfield 9, 3) := by decide +kernel
theorem dX3_init_11 : decode cX3_init 11 = .ok (.return_, 1) := by decide +kernel
set_option maxHeartbeats 4000000 in
set_option maxRecDepth 100000 in
theorem c_row_init (l : Launch) (G : PG) (h n : Nat) (hn : n ≤ 100000) : Cv l yX3_init (Cond.code yX3_init cX3_init 2 none :: aW) { frames := 1, cells := 1, slots := n, locals := 40 } G [(h, .inr (3, [.null, .int 0]))] [.ref h, .int (nI n)] (S := Nat) (fun (_ : Nat) => True) (fun (a : Nat) => [(h, .inr (3, [.ref a, .int 0])), (a, .inl (G.2 2, n, .inl (fun _ => 0)))]) 1 n := by
  refine ofB (y := yX3_init) (G := G) (cc := cX3_init) (maxL := 2) (ret := none) (Qc := fun A => va_Qv (fun (_ : Nat) => True) (oB G A (fun (a : Nat) => [(h, .inr (3, [.ref a, .int 0])), (a, .inl (G.2 2, n, .inl (fun _ => 0)))])) A) (by decide) rfl ?_
  intro p e s m below meth c A F hK hA hP hD
  have hx := F.1.1; have hb := F.1.2.1; have hml := F.1.2.2.1; have hts := F.1.2.2.2.2
  have hown : s.vm.findClass RX3 = some m.cls := F.1.2.2.2.1
  have hin : meth.name = "<init>" := F.2.2.2
  have hS : va_S A s.heap s.heap [] := va_S.rf
  have hl := lv_entry ([.ref h, .int (nI n)]) (n := 2) (Nat.le_of_ble_eq_true rfl)
  rw [lg_entry_eq]
  generalize (lg_sl ([.ref h, .int (nI n)]) ++ List.replicate (2 - (lg_sl ([.ref h, .int (nI n)])).length) Slot.unset).toArray = ls at hl ⊢
  have hl : lv_has ls 2 [(0, .ref h), (1, .int (nI n))] := hl
  refine lv_aload_n hx hb dX3_init_0 rfl (lv_at hl 0 rfl) ?_
  refine W.objInit hx hb hown (hts _ w_39) (hts _ w_26) (hts _ w_27) rfl (by rw [hml]; exact hl.1) rfl dX3_init_1 (Nat.le_of_ble_eq_true rfl) (Nat.le_of_ble_eq_true rfl) ?_
  refine W.eq (g2 := F0 m 4 ls []) rfl ?_
  refine lv_aload_n hx hb dX3_init_4 rfl (lv_at hl 0 rfl) ?_
  refine lv_iload_n hx hb dX3_init_5 rfl (lv_at hl 1 rfl) ?_
  have hqc : 0 + 1 ≤ 1 := by omega
  have hqs : 0 + n ≤ n := by omega
  refine pg_newa (atype := .char) (i := 2) (ty := .char) (N' := n) (a0 := (n, .inl (fun _ => 0))) hx hb (hts _ w_47) rfl hK rfl hP hD hS hA (fun _ => rfl) (nI_pos (by omega)) (nI_clamp (by omega)) (by show n * 2 ≤ _; omega) hqc hqs dX3_init_6 (fun q6 H hP hD hS => ?_)
  have hP : va_P G.1 vwCl [(h, .inr (3, [.null, .int 0])), (q6, .inl (G.2 2, n, .inl (fun _ => 0)))] H := hP
  have hD : va_D A [(h, .inr (3, [.null, .int 0])), (q6, .inl (G.2 2, n, .inl (fun _ => 0)))] := hD
  refine W.widen (k := 1) (n := n) (by omega) (by omega) ?_
  refine va_putF (D := G.1) (ci := 3) (v := .ref q6) (ty := .array .char) (C := RX3) (T := TX3) (N := 2) hx hb hts inX3 tyX3 tyX3_ok nmX3 hown hK.1 hP hD hS 0 rfl rfl 0 (by decide) (hts _ w_40) (fun _ h9 => h9) rfl hin rfl (by decide +kernel) rfl rfl (Nat.le_of_ble_eq_true rfl) dX3_init_8 (fun H locs hP hD hS => ?_)
  have hP : va_P G.1 vwCl [(h, .inr (3, [.ref q6, .int 0])), (q6, .inl (G.2 2, n, .inl (fun _ => 0)))] H := hP
  have hD : va_D A [(h, .inr (3, [.ref q6, .int 0])), (q6, .inl (G.2 2, n, .inl (fun _ => 0)))] := hD
  exact en_v F hS q6 trivial hP hD (by omega) (by omega) dX3_init_11

theorem dX3_add_0 : decode cX3_add 0 = .ok (.aload_n 0, 1) := by decide +kernel
theorem dX3_add_1 : decode cX3_add 1 = .ok (.getfield 15, 3) := by decide +kernel
theorem dX3_add_4 : decode cX3_add 4 = .ok (.aload_n 0, 1) := by decide +kernel
theorem dX3_add_5 : decode cX3_add 5 = .ok (.getfield 9, 3) := by decide +kernel
theorem dX3_add_8 : decode cX3_add 8 = .ok (.arraylength, 1) := by decide +kernel
theorem dX3_add_9 : decode cX3_add 9 = .ok (.if_icmp .lt 5, 3) := by decide +kernel
theorem dX3_add_14 : decode cX3_add 14 = .ok (.aload_n 0, 1) := by decide +kernel
theorem dX3_add_15 : decode cX3_add 15 = .ok (.getfield 9, 3) := by decide +kernel
theorem dX3_add_18 : decode cX3_add 18 = .ok (.aload_n 0, 1) := by decide +kernel
theorem dX3_add_19 : decode cX3_add 19 = .ok (.getfield 15, 3) := by decide +kernel
theorem dX3_add_22 : decode cX3_add 22 = .ok (.iload_n 1, 1) := by decide +kernel
theorem dX3_add_23 : decode cX3_add 23 = .ok (.castore, 1) := by decide +kernel
theorem dX3_add_24 : decode cX3_add 24 = .ok (.aload_n 0, 1) := by decide +kernel
theorem dX3_add_25 : decode cX3_add 25 = .ok (.dup, 1) := by decide +kernel
theorem dX3_add_26 : decode cX3_add 26 = .ok (.getfield 15, 3) := by decide +kernel
theorem dX3_add_29 : decode cX3_add 29 = .ok (.iconst 1, 1) := by decide +kernel
theorem dX3_add_30 : decode cX3_add 30 = .ok (.iadd, 1) := by decide +kernel
theorem dX3_add_31 : decode cX3_add 31 = .ok (.putfield 15, 3) := by decide +kernel
theorem dX3_add_34 : decode cX3_add 34 = .ok (.iconst 1, 1) := by decide +kernel
theorem dX3_add_35 : decode cX3_add 35 = .ok (.ireturn, 1) := by decide +kernel
set_option maxHeartbeats 4000000 in
set_option maxRecDepth 100000 in
theorem c_row_add (l : Launch) (G : PG) (h a n j : Nat) (f : Nat → Int32) (ch : Int32) (hj : j < n) (hn : n < 2147483648) : Ci l yX3_add (Cond.code yX3_add cX3_add 2 (some .boolean) :: aW) { frames := 0, cells := 0, slots := 0, locals := 0 } G [(h, .inr (3, [.ref a, .int (nI j)])), (a, .inl (G.2 2, n, .inl f))] [.ref h, .int ch] (S := Unit) (fun (r : Int32) (_ : Unit) => r = 1) (fun (_ : Unit) => [(h, .inr (3, [.ref a, .int (nI (j + 1))])), (a, .inl (G.2 2, n, .inl (upd f j (vp_nar .char ch))))]) 0 0 := by
  refine ofB (y := yX3_add) (G := G) (cc := cX3_add) (maxL := 2) (ret := (some .boolean)) (Qc := fun A => va_Qi (fun (r : Int32) (_ : Unit) => r = 1) (oB G A (fun (_ : Unit) => [(h, .inr (3, [.ref a, .int (nI (j + 1))])), (a, .inl (G.2 2, n, .inl (upd f j (vp_nar .char ch))))])) A) (by decide) rfl ?_
  intro p e s m below meth c A F hK hA hP hD
  have hx := F.1.1; have hb := F.1.2.1; have hml := F.1.2.2.1; have hts := F.1.2.2.2.2
  have hown : s.vm.findClass RX3 = some m.cls := F.1.2.2.2.1
  have hS : va_S A s.heap s.heap [] := va_S.rf
  have hl := lv_entry ([.ref h, .int ch]) (n := 2) (Nat.le_of_ble_eq_true rfl)
  rw [lg_entry_eq]
  generalize (lg_sl ([.ref h, .int ch]) ++ List.replicate (2 - (lg_sl ([.ref h, .int ch])).length) Slot.unset).toArray = ls at hl ⊢
  have hl : lv_has ls 2 [(0, .ref h), (1, .int ch)] := hl
  refine lv_aload_n hx hb dX3_add_0 rfl (lv_at hl 0 rfl) ?_
  refine va_get (D := G.1) (ci := 3) (v := .int (nI j)) (C := RX3) (T := TX3) (N := 2) hx hb hts inX3 hown hK.1 hP 0 rfl rfl 1 (by decide) (hts _ w_41) (fun _ h9 => h9) rfl dX3_add_1 ?_
  refine lv_aload_n hx hb dX3_add_4 rfl (lv_at hl 0 rfl) ?_
  refine va_get (D := G.1) (ci := 3) (v := .ref a) (C := RX3) (T := TX3) (N := 2) hx hb hts inX3 hown hK.1 hP 0 rfl rfl 0 (by decide) (hts _ w_40) (fun _ h9 => h9) rfl dX3_add_5 ?_
  refine va_alen (D := G.1) (v := (nI n)) hx hb hK.1 hP 1 2 rfl rfl rfl dX3_add_8 ?_
  refine lv_icmp_lt (tgt := 14) hx hb dX3_add_9 (by decide) (fun _ => ?_) (fun h => absurd (nI_lt hj hn) h)
  refine lv_aload_n hx hb dX3_add_14 rfl (lv_at hl 0 rfl) ?_
  refine va_get (D := G.1) (ci := 3) (v := .ref a) (C := RX3) (T := TX3) (N := 2) hx hb hts inX3 hown hK.1 hP 0 rfl rfl 0 (by decide) (hts _ w_40) (fun _ h9 => h9) rfl dX3_add_15 ?_
  refine lv_aload_n hx hb dX3_add_18 rfl (lv_at hl 0 rfl) ?_
  refine va_get (D := G.1) (ci := 3) (v := .int (nI j)) (C := RX3) (T := TX3) (N := 2) hx hb hts inX3 hown hK.1 hP 0 rfl rfl 1 (by decide) (hts _ w_41) (fun _ h9 => h9) rfl dX3_add_19 ?_
  refine lv_iload_n hx hb dX3_add_22 rfl (lv_at hl 1 rfl) ?_
  refine va_cast (D := G.1) hx hb hK.1 hP hD hS 1 2 rfl rfl (vp_in_nI hj hn) dX3_add_23 (fun H locs hP hD hS => ?_)
  rw [nI_clamp (by omega)] at hP hD
  have hP : va_P G.1 vwCl [(h, .inr (3, [.ref a, .int (nI j)])), (a, .inl (G.2 2, n, .inl (upd f j (vp_nar .char ch))))] H := hP
  have hD : va_D A [(h, .inr (3, [.ref a, .int (nI j)])), (a, .inl (G.2 2, n, .inl (upd f j (vp_nar .char ch))))] := hD
  refine lv_aload_n hx hb dX3_add_24 rfl (lv_at hl 0 rfl) ?_
  refine lv_dup hx hb dX3_add_25 rfl ?_
  refine va_get (D := G.1) (ci := 3) (v := .int (nI j)) (C := RX3) (T := TX3) (N := 2) hx hb hts inX3 hown hK.1 hP 0 rfl rfl 1 (by decide) (hts _ w_41) (fun _ h9 => h9) rfl dX3_add_26 ?_
  refine lv_iconst (v := 1) hx hb dX3_add_29 (by decide) ?_
  refine lv_iadd hx hb dX3_add_30 ?_
  refine tp_i (nI (j + 1)) (nI_1 j) ?_
  refine va_put (D := G.1) (ci := 3) (v := .int (nI (j + 1))) (ty := .int) (C := RX3) (T := TX3) (N := 2) hx hb hts inX3 tyX3 tyX3_ok nmX3 hown hK.1 hP hD hS 0 rfl rfl 1 (by decide) (hts _ w_41) (fun _ h9 => h9) rfl (by decide +kernel) rfl rfl (Nat.le_of_ble_eq_true rfl) dX3_add_31 (fun H locs hP hD hS => ?_)
  have hP : va_P G.1 vwCl [(h, .inr (3, [.ref a, .int (nI (j + 1))])), (a, .inl (G.2 2, n, .inl (upd f j (vp_nar .char ch))))] H := hP
  have hD : va_D A [(h, .inr (3, [.ref a, .int (nI (j + 1))])), (a, .inl (G.2 2, n, .inl (upd f j (vp_nar .char ch))))] := hD
  refine lv_iconst (v := 1) hx hb dX3_add_34 (by decide) ?_
  exact en_i F hS 1 () (by rfl) rfl hP hD (by omega) (by omega) dX3_add_35

theorem dX3_add_12 : decode cX3_add 12 = .ok (.iconst 0, 1) := by decide +kernel
theorem dX3_add_13 : decode cX3_add 13 = .ok (.ireturn, 1) := by decide +kernel
set_option maxHeartbeats 4000000 in
set_option maxRecDepth 100000 in
theorem c_row_addF (l : Launch) (G : PG) (h a n : Nat) (f : Nat → Int32) (ch : Int32) (hn : n < 2147483648) : Ci l yX3_add (Cond.code yX3_add cX3_add 2 (some .boolean) :: aW) { frames := 0, cells := 0, slots := 0, locals := 0 } G [(h, .inr (3, [.ref a, .int (nI n)])), (a, .inl (G.2 2, n, .inl f))] [.ref h, .int ch] (S := Unit) (fun (r : Int32) (_ : Unit) => r = 0) (fun (_ : Unit) => [(h, .inr (3, [.ref a, .int (nI n)])), (a, .inl (G.2 2, n, .inl f))]) 0 0 := by
  refine ofB (y := yX3_add) (G := G) (cc := cX3_add) (maxL := 2) (ret := (some .boolean)) (Qc := fun A => va_Qi (fun (r : Int32) (_ : Unit) => r = 0) (oB G A (fun (_ : Unit) => [(h, .inr (3, [.ref a, .int (nI n)])), (a, .inl (G.2 2, n, .inl f))])) A) (by decide) rfl ?_
  intro p e s m below meth c A F hK hA hP hD
  have hx := F.1.1; have hb := F.1.2.1; have hml := F.1.2.2.1; have hts := F.1.2.2.2.2
  have hown : s.vm.findClass RX3 = some m.cls := F.1.2.2.2.1
  have hS : va_S A s.heap s.heap [] := va_S.rf
  have hl := lv_entry ([.ref h, .int ch]) (n := 2) (Nat.le_of_ble_eq_true rfl)
  rw [lg_entry_eq]
  generalize (lg_sl ([.ref h, .int ch]) ++ List.replicate (2 - (lg_sl ([.ref h, .int ch])).length) Slot.unset).toArray = ls at hl ⊢
  have hl : lv_has ls 2 [(0, .ref h), (1, .int ch)] := hl
  refine lv_aload_n hx hb dX3_add_0 rfl (lv_at hl 0 rfl) ?_
  refine va_get (D := G.1) (ci := 3) (v := .int (nI n)) (C := RX3) (T := TX3) (N := 2) hx hb hts inX3 hown hK.1 hP 0 rfl rfl 1 (by decide) (hts _ w_41) (fun _ h9 => h9) rfl dX3_add_1 ?_
  refine lv_aload_n hx hb dX3_add_4 rfl (lv_at hl 0 rfl) ?_
  refine va_get (D := G.1) (ci := 3) (v := .ref a) (C := RX3) (T := TX3) (N := 2) hx hb hts inX3 hown hK.1 hP 0 rfl rfl 0 (by decide) (hts _ w_40) (fun _ h9 => h9) rfl dX3_add_5 ?_
  refine va_alen (D := G.1) (v := (nI n)) hx hb hK.1 hP 1 2 rfl rfl rfl dX3_add_8 ?_
  refine lv_icmp_lt (tgt := 14) hx hb dX3_add_9 (by decide) (fun h => absurd h (nI_nlt (Nat.le_refl n) hn)) (fun _ => ?_)
  refine lv_iconst (v := 0) hx hb dX3_add_12 (by decide) ?_
  exact en_i F hS 0 () (by rfl) rfl hP hD (by omega) (by omega) dX3_add_13

theorem dX3_empty_0 : decode cX3_empty 0 = .ok (.aload_n 0, 1) := by decide +kernel
theorem dX3_empty_1 : decode cX3_empty 1 = .ok (.iconst 0, 1) := by decide +kernel
theorem dX3_empty_2 : decode cX3_empty 2 = .ok (.putfield 15, 3) := by decide +kernel
theorem dX3_empty_5 : decode cX3_empty 5 = .ok (.return_, 1) := by decide +kernel
set_option maxHeartbeats 4000000 in
set_option maxRecDepth 100000 in
theorem c_row_empty (l : Launch) (G : PG) (h a n : Nat) (k : Int32) (f : Nat → Int32) : Cv l yX3_empty (Cond.code yX3_empty cX3_empty 1 none :: aW) { frames := 0, cells := 0, slots := 0, locals := 0 } G [(h, .inr (3, [.ref a, .int k])), (a, .inl (G.2 2, n, .inl f))] [.ref h] (S := Unit) (fun (_ : Unit) => True) (fun (_ : Unit) => [(h, .inr (3, [.ref a, .int 0])), (a, .inl (G.2 2, n, .inl f))]) 0 0 := by
  refine ofB (y := yX3_empty) (G := G) (cc := cX3_empty) (maxL := 1) (ret := none) (Qc := fun A => va_Qv (fun (_ : Unit) => True) (oB G A (fun (_ : Unit) => [(h, .inr (3, [.ref a, .int 0])), (a, .inl (G.2 2, n, .inl f))])) A) (by decide) rfl ?_
  intro p e s m below meth c A F hK hA hP hD
  have hx := F.1.1; have hb := F.1.2.1; have hml := F.1.2.2.1; have hts := F.1.2.2.2.2
  have hown : s.vm.findClass RX3 = some m.cls := F.1.2.2.2.1
  have hS : va_S A s.heap s.heap [] := va_S.rf
  have hl := lv_entry ([.ref h]) (n := 1) (Nat.le_of_ble_eq_true rfl)
  rw [lg_entry_eq]
  generalize (lg_sl ([.ref h]) ++ List.replicate (1 - (lg_sl ([.ref h])).length) Slot.unset).toArray = ls at hl ⊢
  have hl : lv_has ls 1 [(0, .ref h)] := hl
  refine lv_aload_n hx hb dX3_empty_0 rfl (lv_at hl 0 rfl) ?_
  refine lv_iconst (v := 0) hx hb dX3_empty_1 (by decide) ?_
  refine va_put (D := G.1) (ci := 3) (v := .int 0) (ty := .int) (C := RX3) (T := TX3) (N := 2) hx hb hts inX3 tyX3 tyX3_ok nmX3 hown hK.1 hP hD hS 0 rfl rfl 1 (by decide) (hts _ w_41) (fun _ h9 => h9) rfl (by decide +kernel) rfl rfl (Nat.le_of_ble_eq_true rfl) dX3_empty_2 (fun H locs hP hD hS => ?_)
  have hP : va_P G.1 vwCl [(h, .inr (3, [.ref a, .int 0])), (a, .inl (G.2 2, n, .inl f))] H := hP
  have hD : va_D A [(h, .inr (3, [.ref a, .int 0])), (a, .inl (G.2 2, n, .inl f))] := hD
  exact en_v F hS () trivial hP hD (by omega) (by omega) dX3_empty_5

theorem dX3_size_0 : decode cX3_size 0 = .ok (.aload_n 0, 1) := by decide +kernel
theorem dX3_size_1 : decode cX3_size 1 = .ok (.getfield 15, 3) := by decide +kernel
theorem dX3_size_4 : decode cX3_size 4 = .ok (.ireturn, 1) := by decide +kernel
set_option maxHeartbeats 4000000 in
set_option maxRecDepth 100000 in
theorem c_row_size (l : Launch) (G : PG) (h a n : Nat) (k : Int32) (f : Nat → Int32) : Ci l yX3_size (Cond.code yX3_size cX3_size 1 (some .int) :: aW) { frames := 0, cells := 0, slots := 0, locals := 0 } G [(h, .inr (3, [.ref a, .int k])), (a, .inl (G.2 2, n, .inl f))] [.ref h] (S := Unit) (fun (r : Int32) (_ : Unit) => r = k) (fun (_ : Unit) => [(h, .inr (3, [.ref a, .int k])), (a, .inl (G.2 2, n, .inl f))]) 0 0 := by
  refine ofB (y := yX3_size) (G := G) (cc := cX3_size) (maxL := 1) (ret := (some .int)) (Qc := fun A => va_Qi (fun (r : Int32) (_ : Unit) => r = k) (oB G A (fun (_ : Unit) => [(h, .inr (3, [.ref a, .int k])), (a, .inl (G.2 2, n, .inl f))])) A) (by decide) rfl ?_
  intro p e s m below meth c A F hK hA hP hD
  have hx := F.1.1; have hb := F.1.2.1; have hml := F.1.2.2.1; have hts := F.1.2.2.2.2
  have hown : s.vm.findClass RX3 = some m.cls := F.1.2.2.2.1
  have hS : va_S A s.heap s.heap [] := va_S.rf
  have hl := lv_entry ([.ref h]) (n := 1) (Nat.le_of_ble_eq_true rfl)
  rw [lg_entry_eq]
  generalize (lg_sl ([.ref h]) ++ List.replicate (1 - (lg_sl ([.ref h])).length) Slot.unset).toArray = ls at hl ⊢
  have hl : lv_has ls 1 [(0, .ref h)] := hl
  refine lv_aload_n hx hb dX3_size_0 rfl (lv_at hl 0 rfl) ?_
  refine va_get (D := G.1) (ci := 3) (v := .int k) (C := RX3) (T := TX3) (N := 2) hx hb hts inX3 hown hK.1 hP 0 rfl rfl 1 (by decide) (hts _ w_41) (fun _ h9 => h9) rfl dX3_size_1 ?_
  exact en_i F hS k () (by rfl) rfl hP hD (by omega) (by omega) dX3_size_4

def rw_at (j : Nat) (f : Nat → Int32) (i : Int32) : Int32 := if i < 0 ∨ nI j ≤ i then 0 else f i.toNatClampNeg
theorem dX3_at_0 : decode cX3_at 0 = .ok (.iload_n 1, 1) := by decide +kernel
theorem dX3_at_1 : decode cX3_at 1 = .ok (.ifCond .lt 11, 3) := by decide +kernel
theorem dX3_at_4 : decode cX3_at 4 = .ok (.iload_n 1, 1) := by decide +kernel
theorem dX3_at_5 : decode cX3_at 5 = .ok (.aload_n 0, 1) := by decide +kernel
theorem dX3_at_6 : decode cX3_at 6 = .ok (.getfield 15, 3) := by decide +kernel
theorem dX3_at_9 : decode cX3_at 9 = .ok (.if_icmp .lt 7, 3) := by decide +kernel
theorem dX3_at_12 : decode cX3_at 12 = .ok (.iconst 0, 1) := by decide +kernel
theorem dX3_at_13 : decode cX3_at 13 = .ok (.goto 9, 3) := by decide +kernel
theorem dX3_at_16 : decode cX3_at 16 = .ok (.aload_n 0, 1) := by decide +kernel
theorem dX3_at_17 : decode cX3_at 17 = .ok (.getfield 9, 3) := by decide +kernel
theorem dX3_at_20 : decode cX3_at 20 = .ok (.iload_n 1, 1) := by decide +kernel
theorem dX3_at_21 : decode cX3_at 21 = .ok (.caload, 1) := by decide +kernel
theorem dX3_at_22 : decode cX3_at 22 = .ok (.ireturn, 1) := by decide +kernel
set_option maxHeartbeats 4000000 in
set_option maxRecDepth 100000 in
theorem c_row_at (l : Launch) (G : PG) (h a n j : Nat) (f : Nat → Int32) (i : Int32) (hj : j ≤ n) (hn : n < 2147483648) (hf : ∀ k, narrow .char (.int (f k)) = .int (f k)) : Ci l yX3_at (Cond.code yX3_at cX3_at 2 (some .char) :: aW) { frames := 0, cells := 0, slots := 0, locals := 0 } G [(h, .inr (3, [.ref a, .int (nI j)])), (a, .inl (G.2 2, n, .inl f))] [.ref h, .int i] (S := Unit) (fun (r : Int32) (_ : Unit) => r = rw_at j f i) (fun (_ : Unit) => [(h, .inr (3, [.ref a, .int (nI j)])), (a, .inl (G.2 2, n, .inl f))]) 0 0 := by
  refine ofB (y := yX3_at) (G := G) (cc := cX3_at) (maxL := 2) (ret := (some .char)) (Qc := fun A => va_Qi (fun (r : Int32) (_ : Unit) => r = rw_at j f i) (oB G A (fun (_ : Unit) => [(h, .inr (3, [.ref a, .int (nI j)])), (a, .inl (G.2 2, n, .inl f))])) A) (by decide) rfl ?_
  intro p e s m below meth c A F hK hA hP hD
  have hx := F.1.1; have hb := F.1.2.1; have hml := F.1.2.2.1; have hts := F.1.2.2.2.2
  have hown : s.vm.findClass RX3 = some m.cls := F.1.2.2.2.1
  have hS : va_S A s.heap s.heap [] := va_S.rf
  have hl := lv_entry ([.ref h, .int i]) (n := 2) (Nat.le_of_ble_eq_true rfl)
  rw [lg_entry_eq]
  generalize (lg_sl ([.ref h, .int i]) ++ List.replicate (2 - (lg_sl ([.ref h, .int i])).length) Slot.unset).toArray = ls at hl ⊢
  have hl : lv_has ls 2 [(0, .ref h), (1, .int i)] := hl
  refine lv_iload_n hx hb dX3_at_0 rfl (lv_at hl 1 rfl) ?_
  refine lv_if_lt (tgt := 12) hx hb dX3_at_1 (by decide) (fun h1 => ?_) (fun h1 => ?_)
  ·
    refine lv_iconst (v := 0) hx hb dX3_at_12 (by decide) ?_
    refine lv_goto (tgt := 22) hx hb dX3_at_13 (by decide) ?_
    exact en_i F hS 0 () (by rfl) ((if_pos (Or.inl h1)).symm) hP hD (by omega) (by omega) dX3_at_22
  ·
    refine lv_iload_n hx hb dX3_at_4 rfl (lv_at hl 1 rfl) ?_
    refine lv_aload_n hx hb dX3_at_5 rfl (lv_at hl 0 rfl) ?_
    refine va_get (D := G.1) (ci := 3) (v := .int (nI j)) (C := RX3) (T := TX3) (N := 2) hx hb hts inX3 hown hK.1 hP 0 rfl rfl 1 (by decide) (hts _ w_41) (fun _ h9 => h9) rfl dX3_at_6 ?_
    refine lv_icmp_lt (tgt := 16) hx hb dX3_at_9 (by decide) (fun h2 => ?_) (fun h2 => ?_)
    ·
      refine lv_aload_n hx hb dX3_at_16 rfl (lv_at hl 0 rfl) ?_
      refine va_get (D := G.1) (ci := 3) (v := .ref a) (C := RX3) (T := TX3) (N := 2) hx hb hts inX3 hown hK.1 hP 0 rfl rfl 0 (by decide) (hts _ w_40) (fun _ h9 => h9) rfl dX3_at_17 ?_
      refine lv_iload_n hx hb dX3_at_20 rfl (lv_at hl 1 rfl) ?_
      refine va_cald (D := G.1) hx hb hK.1 hP 1 2 rfl rfl (pk_at_in h1 h2 hj hn) dX3_at_21 ?_
      refine tp_i (f i.toNatClampNeg) rfl ?_
      exact en_i F hS (f i.toNatClampNeg) () (hf _) ((if_neg (fun z => z.elim h1 (fun z => pk_nle h2 z))).symm) hP hD (by omega) (by omega) dX3_at_22
    ·
      refine lv_iconst (v := 0) hx hb dX3_at_12 (by decide) ?_
      refine lv_goto (tgt := 22) hx hb dX3_at_13 (by decide) ?_
      exact en_i F hS 0 () (by rfl) ((if_pos (Or.inr (pk_le_of h2))).symm) hP hD (by omega) (by omega) dX3_at_22

theorem dX0_init_0 : decode cX0_init 0 = .ok (.aload_n 0, 1) := by decide +kernel
theorem dX0_init_1 : decode cX0_init 1 = .ok (.invokespecial 1, 3) := by decide +kernel
theorem dX0_init_4 : decode cX0_init 4 = .ok (.aload_n 0, 1) := by decide +kernel
theorem dX0_init_5 : decode cX0_init 5 = .ok (.iload_n 1, 1) := by decide +kernel
theorem dX0_init_6 : decode cX0_init 6 = .ok (.putfield 7, 3) := by decide +kernel
theorem dX0_init_9 : decode cX0_init 9 = .ok (.return_, 1) := by decide +kernel
set_option maxHeartbeats 4000000 in
set_option maxRecDepth 100000 in
theorem c_node_init (l : Launch) (G : PG) (h : Nat) (k : Int32) : Cv l yX0_init (Cond.code yX0_init cX0_init 2 none :: aW) { frames := 1, cells := 0, slots := 0, locals := 40 } G [(h, .inr (0, [.int 0, .int 0, .int 0, .int 0, .int 0, .int 0, .int 0, .int 0, .int 0, .int 0, .int 0, .long 0, .long 0]))] [.ref h, .int k] (S := Unit) (fun (_ : Unit) => True) (fun (_ : Unit) => [(h, .inr (0, [.int k, .int 0, .int 0, .int 0, .int 0, .int 0, .int 0, .int 0, .int 0, .int 0, .int 0, .long 0, .long 0]))]) 0 0 := by
  refine ofB (y := yX0_init) (G := G) (cc := cX0_init) (maxL := 2) (ret := none) (Qc := fun A => va_Qv (fun (_ : Unit) => True) (oB G A (fun (_ : Unit) => [(h, .inr (0, [.int k, .int 0, .int 0, .int 0, .int 0, .int 0, .int 0, .int 0, .int 0, .int 0, .int 0, .long 0, .long 0]))])) A) (by decide) rfl ?_
  intro p e s m below meth c A F hK hA hP hD
  have hx := F.1.1; have hb := F.1.2.1; have hml := F.1.2.2.1; have hts := F.1.2.2.2.2
  have hown : s.vm.findClass RX0 = some m.cls := F.1.2.2.2.1
  have hin : meth.name = "<init>" := F.2.2.2
  have hS : va_S A s.heap s.heap [] := va_S.rf
  have hl := lv_entry ([.ref h, .int k]) (n := 2) (Nat.le_of_ble_eq_true rfl)
  rw [lg_entry_eq]
  generalize (lg_sl ([.ref h, .int k]) ++ List.replicate (2 - (lg_sl ([.ref h, .int k])).length) Slot.unset).toArray = ls at hl ⊢
  have hl : lv_has ls 2 [(0, .ref h), (1, .int k)] := hl
  refine lv_aload_n hx hb dX0_init_0 rfl (lv_at hl 0 rfl) ?_
  refine W.objInit hx hb hown (hts _ w_60) (hts _ w_26) (hts _ w_27) rfl (by rw [hml]; exact hl.1) rfl dX0_init_1 (Nat.le_of_ble_eq_true rfl) (Nat.le_of_ble_eq_true rfl) ?_
  refine W.eq (g2 := F0 m 4 ls []) rfl ?_
  refine lv_aload_n hx hb dX0_init_4 rfl (lv_at hl 0 rfl) ?_
  refine lv_iload_n hx hb dX0_init_5 rfl (lv_at hl 1 rfl) ?_
  refine va_putF (D := G.1) (ci := 0) (v := .int k) (ty := .int) (C := RX0) (T := TX0) (N := 13) hx hb hts inX0 tyX0 tyX0_ok nmX0 hown hK.1 hP hD hS 0 rfl rfl 0 (by decide) (hts _ w_61) (fun _ h9 => h9) rfl hin rfl (by decide +kernel) rfl rfl (Nat.le_of_ble_eq_true rfl) dX0_init_6 (fun H locs hP hD hS => ?_)
  have hP : va_P G.1 vwCl [(h, .inr (0, [.int k, .int 0, .int 0, .int 0, .int 0, .int 0, .int 0, .int 0, .int 0, .int 0, .int 0, .long 0, .long 0]))] H := hP
  have hD : va_D A [(h, .inr (0, [.int k, .int 0, .int 0, .int 0, .int 0, .int 0, .int 0, .int 0, .int 0, .int 0, .int 0, .long 0, .long 0]))] := hD
  exact en_v F hS () trivial hP hD (by omega) (by omega) dX0_init_9
end
section
/-! the nodes of a program: n of them, at ad 0, ad 1 .., node i with the ints a i 0 .. a i 10 and the longs lo i, hi i -/
def ndF (a : Nat → Int32) (lo hi : Int64) : List Value := [.int (a 0), .int (a 1), .int (a 2), .int (a 3), .int (a 4), .int (a 5), .int (a 6), .int (a 7), .int (a 8), .int (a 9), .int (a 10), .long lo, .long hi]
def np (ad : Nat → Nat) (a : Nat → Nat → Int32) (lo hi : Nat → Int64) (n : Nat) : va_W := (List.range n).map (fun i => (ad i, .inr (0, ndF (a i) (lo i) (hi i))))
def nf (ad : Nat → Nat) (n : Nat) : Nat → Option Nat := fun j => if j < n then some (ad j) else none
def z64 : Nat → Int64 := fun _ => 0
def a0 : Nat → Nat → Int32 := fun i k => if k = 0 then nI i else 0
theorem nf_at {ad : Nat → Nat} {n j : Nat} (h : j < n) : nf ad n j = some (ad j) := if_pos h
theorem nf_push {ad : Nat → Nat} {i q : Nat} : va_up (nf ad i) i (some q) = nf (va_up ad i q) (i + 1) := by
  funext j
  unfold va_up nf
  by_cases h : j = i
  · subst h; simp
  · by_cases h2 : j < i
    · simp [h, h2, Nat.lt_succ_of_lt h2]
    · have h3 : ¬ j < i + 1 := by omega
      simp [h, h2, h3]
theorem nf_0 {ad : Nat → Nat} : (fun _ => none : Nat → Option Nat) = nf ad 0 := by
  funext j
  simp [nf]
theorem np_push {ad : Nat → Nat} {a : Nat → Nat → Int32} {lo hi : Nat → Int64} {i q : Nat} : np ad a lo hi i ++ [(q, .inr (0, ndF (a i) (lo i) (hi i)))] = np (va_up ad i q) a lo hi (i + 1) := by
  unfold np
  rw [List.range_succ, List.map_append]
  congr 1
  · apply List.map_congr_left
    intro j hj
    have : j ≠ i := by have := List.mem_range.mp hj; omega
    simp [va_up, this]
  · simp [va_up]
theorem np_get {ad : Nat → Nat} {a : Nat → Nat → Int32} {lo hi : Nat → Int64} {n i : Nat} (h : i < n) : (np ad a lo hi n)[i]? = some (ad i, .inr (0, ndF (a i) (lo i) (hi i))) := by
  unfold np
  rw [List.getElem?_map, List.getElem?_range h]
  rfl
theorem np_at {X : va_W} {ad : Nat → Nat} {a : Nat → Nat → Int32} {lo hi : Nat → Int64} {n i : Nat} (k : Nat) (hk : X.length = k) (h : i < n) {x : Nat → Int32} (hx : a i = x) : (X ++ np ad a lo hi n)[k + i]? = some (ad i, .inr (0, ndF x (lo i) (hi i))) := by
  subst hk; subst hx
  rw [List.getElem?_append_right (Nat.le_add_right _ _), Nat.add_sub_cancel_left]
  exact np_get h
theorem np_set {ad : Nat → Nat} {a : Nat → Nat → Int32} {lo hi : Nat → Int64} {n i : Nat} (h : i < n) {x : Nat → Int32} : (np ad a lo hi n).set i (ad i, .inr (0, ndF x (lo i) (hi i))) = np ad (va_up a i x) lo hi n := by
  apply List.ext_getElem?
  intro j
  by_cases hj : j = i
  · subst hj
    rw [np_get h, List.getElem?_set_self (by simp [np]; exact h)]
    simp [va_up]
  · rw [List.getElem?_set_ne (Ne.symm hj)]
    by_cases hn : j < n
    · rw [np_get hn, np_get hn]
      simp [va_up, hj]
    · simp [np, Nat.not_lt.mp hn]
theorem np_up {X : va_W} {ad : Nat → Nat} {a : Nat → Nat → Int32} {lo hi : Nat → Int64} {n i : Nat} (k : Nat) (hk : X.length = k) (h : i < n) {x : Nat → Int32} : (X ++ np ad a lo hi n).set (k + i) (ad i, .inr (0, ndF x (lo i) (hi i))) = X ++ np ad (va_up a i x) lo hi n := by
  subst hk
  rw [List.set_append_right _ _ (Nat.le_add_right _ _), Nat.add_sub_cancel_left, np_set h]
section NP1
variable {p : Program} {l : Launch} {e : Env} {R : Room} {s : State} {m : MethodId} {args : Array Value} {below : List Frame} {meth : Method} {c : Code} {H : Heap} {locs : List Loc} {cells slots : Nat} {Q : State → Prop}
variable {G : PG} {A : Nat → Prop} {mc ms pc : Nat} {ls : Array Slot} {X cx wr pl : va_W} {H0 : Heap} {st0 rest : List Value} {a : Array Value}
theorem va_A_app {ws pl : va_W} {sz : Nat} {q : Nat} (h : va_A ws sz q) : va_A (ws ++ pl) sz q := by
  rcases h with ⟨k, e, h⟩ | h
  · exact Or.inl ⟨k, e, by rw [List.getElem?_append_left (List.getElem?_eq_some_iff.mp h).1]; exact h⟩
  · exact Or.inr h
theorem kl_iQ {S : Type} {post : Int32 → S → Prop} {w1 : S → va_W}
    (hr : va_Run p l e R s m args below meth c H locs cells slots mc ms (F0 m pc ls st0) rest (va_Qi post (oB G (va_A cx H.size) w1) (va_A cx H.size) a) (va_A cx H.size))
    (hP : va_P G.1 vwCl (X ++ pl) H) (hD : va_D A (X ++ pl)) (hS : va_S A H0 H locs) (hA : ∀ q, H0.size ≤ q → A q) (isC isR : List Nat) (hC : isC.map (fun i => X[i]?) = cx.map some) (hR : isR.map (fun i => X[i]?) = wr.map some) (hn : va_nd isR = true) (hdis : ∀ i ∈ isR, i ∉ isC)
    (kk : ∀ (r : Int32) (u : S) (H1 : Heap) (locs1 : List Loc), post r u → va_P G.1 vwCl ((wr ++ w1 u) ++ pl) H1 → va_D A ((wr ++ w1 u) ++ pl) → va_S A H0 H1 locs1 → W p l e R s m args below meth c H1 locs1 (cells + mc) (slots + ms) Q (F0 m (pc + 3) ls (.int r :: rest))) :
    W p l e R s m args below meth c H locs cells slots Q (F0 m pc ls st0) := by
  have hF : ∀ q, va_A cx H.size q → A q := fun q h => va_freeP hD hS hA isC hC q (va_A_app h)
  refine va_calli hr hS (fun q _ h => hF q h) hF (fun r u t H1 locs1 ht hvm hp hB hz hk hS1 => ?_)
  obtain ⟨hP1, hD1⟩ := hB
  rw [ht] at hP1
  obtain ⟨hP2, hD2⟩ := va_joinQ (wr := wr) hP hD isC isR hC hR hn hdis hk hF hP1 hD1
  exact kk r u H1 locs1 hp hP2 hD2 hS1
theorem kl_iP {S : Type} {post : Int32 → S → Prop} {w1 pl1 : S → va_W}
    (hr : va_Run p l e R s m args below meth c H locs cells slots mc ms (F0 m pc ls st0) rest (va_Qi post (oB G (va_A (cx ++ pl) H.size) (fun u => w1 u ++ pl1 u)) (va_A (cx ++ pl) H.size) a) (va_A (cx ++ pl) H.size))
    (hP : va_P G.1 vwCl (X ++ pl) H) (hD : va_D A (X ++ pl)) (hS : va_S A H0 H locs) (hA : ∀ q, H0.size ≤ q → A q) (isC isR : List Nat) (hC : isC.map (fun i => X[i]?) = cx.map some) (hR : isR.map (fun i => X[i]?) = wr.map some) (hn : va_nd isR = true) (hdis : ∀ i ∈ isR, i ∉ isC)
    (kk : ∀ (r : Int32) (u : S) (H1 : Heap) (locs1 : List Loc), post r u → va_P G.1 vwCl ((wr ++ w1 u) ++ pl1 u) H1 → va_D A ((wr ++ w1 u) ++ pl1 u) → va_S A H0 H1 locs1 → W p l e R s m args below meth c H1 locs1 (cells + mc) (slots + ms) Q (F0 m (pc + 3) ls (.int r :: rest))) :
    W p l e R s m args below meth c H locs cells slots Q (F0 m pc ls st0) := by
  have hF : ∀ q, va_A (cx ++ pl) H.size q → A q := va_freeP hD hS hA isC hC
  refine va_calli hr hS (fun q _ h => hF q h) hF (fun r u t H1 locs1 ht hvm hp hB hz hk hS1 => ?_)
  obtain ⟨hP1, hD1⟩ := hB
  rw [ht] at hP1
  obtain ⟨hP2, hD2⟩ := va_joinP (wr := wr) hP hD isC isR hC hR hn hdis hk hF hP1 hD1
  exact kk r u H1 locs1 hp hP2 hD2 hS1
theorem kl_lQ {S : Type} {post : Int64 → S → Prop} {w1 : S → va_W}
    (hr : va_Run p l e R s m args below meth c H locs cells slots mc ms (F0 m pc ls st0) rest (va_Ql post (oB G (va_A cx H.size) w1) (va_A cx H.size) a) (va_A cx H.size))
    (hP : va_P G.1 vwCl (X ++ pl) H) (hD : va_D A (X ++ pl)) (hS : va_S A H0 H locs) (hA : ∀ q, H0.size ≤ q → A q) (isC isR : List Nat) (hC : isC.map (fun i => X[i]?) = cx.map some) (hR : isR.map (fun i => X[i]?) = wr.map some) (hn : va_nd isR = true) (hdis : ∀ i ∈ isR, i ∉ isC)
    (kk : ∀ (r : Int64) (u : S) (H1 : Heap) (locs1 : List Loc), post r u → va_P G.1 vwCl ((wr ++ w1 u) ++ pl) H1 → va_D A ((wr ++ w1 u) ++ pl) → va_S A H0 H1 locs1 → W p l e R s m args below meth c H1 locs1 (cells + mc) (slots + ms) Q (F0 m (pc + 3) ls (.long r :: rest))) :
    W p l e R s m args below meth c H locs cells slots Q (F0 m pc ls st0) := by
  have hF : ∀ q, va_A cx H.size q → A q := fun q h => va_freeP hD hS hA isC hC q (va_A_app h)
  refine va_calll hr hS (fun q _ h => hF q h) hF (fun r u t H1 locs1 ht hvm hp hB hz hk hS1 => ?_)
  obtain ⟨hP1, hD1⟩ := hB
  rw [ht] at hP1
  obtain ⟨hP2, hD2⟩ := va_joinQ (wr := wr) hP hD isC isR hC hR hn hdis hk hF hP1 hD1
  exact kk r u H1 locs1 hp hP2 hD2 hS1
theorem kl_lP {S : Type} {post : Int64 → S → Prop} {w1 pl1 : S → va_W}
    (hr : va_Run p l e R s m args below meth c H locs cells slots mc ms (F0 m pc ls st0) rest (va_Ql post (oB G (va_A (cx ++ pl) H.size) (fun u => w1 u ++ pl1 u)) (va_A (cx ++ pl) H.size) a) (va_A (cx ++ pl) H.size))
    (hP : va_P G.1 vwCl (X ++ pl) H) (hD : va_D A (X ++ pl)) (hS : va_S A H0 H locs) (hA : ∀ q, H0.size ≤ q → A q) (isC isR : List Nat) (hC : isC.map (fun i => X[i]?) = cx.map some) (hR : isR.map (fun i => X[i]?) = wr.map some) (hn : va_nd isR = true) (hdis : ∀ i ∈ isR, i ∉ isC)
    (kk : ∀ (r : Int64) (u : S) (H1 : Heap) (locs1 : List Loc), post r u → va_P G.1 vwCl ((wr ++ w1 u) ++ pl1 u) H1 → va_D A ((wr ++ w1 u) ++ pl1 u) → va_S A H0 H1 locs1 → W p l e R s m args below meth c H1 locs1 (cells + mc) (slots + ms) Q (F0 m (pc + 3) ls (.long r :: rest))) :
    W p l e R s m args below meth c H locs cells slots Q (F0 m pc ls st0) := by
  have hF : ∀ q, va_A (cx ++ pl) H.size q → A q := va_freeP hD hS hA isC hC
  refine va_calll hr hS (fun q _ h => hF q h) hF (fun r u t H1 locs1 ht hvm hp hB hz hk hS1 => ?_)
  obtain ⟨hP1, hD1⟩ := hB
  rw [ht] at hP1
  obtain ⟨hP2, hD2⟩ := va_joinP (wr := wr) hP hD isC isR hC hR hn hdis hk hF hP1 hD1
  exact kk r u H1 locs1 hp hP2 hD2 hS1
theorem kl_vQ {S : Type} {post : S → Prop} {w1 : S → va_W}
    (hr : va_Run p l e R s m args below meth c H locs cells slots mc ms (F0 m pc ls st0) rest (va_Qv post (oB G (va_A cx H.size) w1) (va_A cx H.size) a) (va_A cx H.size))
    (hP : va_P G.1 vwCl (X ++ pl) H) (hD : va_D A (X ++ pl)) (hS : va_S A H0 H locs) (hA : ∀ q, H0.size ≤ q → A q) (isC isR : List Nat) (hC : isC.map (fun i => X[i]?) = cx.map some) (hR : isR.map (fun i => X[i]?) = wr.map some) (hn : va_nd isR = true) (hdis : ∀ i ∈ isR, i ∉ isC)
    (kk : ∀ (u : S) (H1 : Heap) (locs1 : List Loc), post u → va_P G.1 vwCl ((wr ++ w1 u) ++ pl) H1 → va_D A ((wr ++ w1 u) ++ pl) → va_S A H0 H1 locs1 → W p l e R s m args below meth c H1 locs1 (cells + mc) (slots + ms) Q (F0 m (pc + 3) ls (rest))) :
    W p l e R s m args below meth c H locs cells slots Q (F0 m pc ls st0) := by
  have hF : ∀ q, va_A cx H.size q → A q := fun q h => va_freeP hD hS hA isC hC q (va_A_app h)
  refine va_callv hr hS (fun q _ h => hF q h) hF (fun u t H1 locs1 ht hvm hp hB hz hk hS1 => ?_)
  obtain ⟨hP1, hD1⟩ := hB
  rw [ht] at hP1
  obtain ⟨hP2, hD2⟩ := va_joinQ (wr := wr) hP hD isC isR hC hR hn hdis hk hF hP1 hD1
  exact kk u H1 locs1 hp hP2 hD2 hS1
theorem kl_vP {S : Type} {post : S → Prop} {w1 pl1 : S → va_W}
    (hr : va_Run p l e R s m args below meth c H locs cells slots mc ms (F0 m pc ls st0) rest (va_Qv post (oB G (va_A (cx ++ pl) H.size) (fun u => w1 u ++ pl1 u)) (va_A (cx ++ pl) H.size) a) (va_A (cx ++ pl) H.size))
    (hP : va_P G.1 vwCl (X ++ pl) H) (hD : va_D A (X ++ pl)) (hS : va_S A H0 H locs) (hA : ∀ q, H0.size ≤ q → A q) (isC isR : List Nat) (hC : isC.map (fun i => X[i]?) = cx.map some) (hR : isR.map (fun i => X[i]?) = wr.map some) (hn : va_nd isR = true) (hdis : ∀ i ∈ isR, i ∉ isC)
    (kk : ∀ (u : S) (H1 : Heap) (locs1 : List Loc), post u → va_P G.1 vwCl ((wr ++ w1 u) ++ pl1 u) H1 → va_D A ((wr ++ w1 u) ++ pl1 u) → va_S A H0 H1 locs1 → W p l e R s m args below meth c H1 locs1 (cells + mc) (slots + ms) Q (F0 m (pc + 3) ls (rest))) :
    W p l e R s m args below meth c H locs cells slots Q (F0 m pc ls st0) := by
  have hF : ∀ q, va_A (cx ++ pl) H.size q → A q := va_freeP hD hS hA isC hC
  refine va_callv hr hS (fun q _ h => hF q h) hF (fun u t H1 locs1 ht hvm hp hB hz hk hS1 => ?_)
  obtain ⟨hP1, hD1⟩ := hB
  rw [ht] at hP1
  obtain ⟨hP2, hD2⟩ := va_joinP (wr := wr) hP hD isC isR hC hR hn hdis hk hF hP1 hD1
  exact kk u H1 locs1 hp hP2 hD2 hS1
theorem kl_rQ {S : Type} {post : S → Prop} {pa : S → Nat → Prop} {w1 : S → va_W}
    (hr : va_Run p l e R s m args below meth c H locs cells slots mc ms (F0 m pc ls st0) rest (va_Qr post (oR G (va_A cx H.size) w1 pa) (va_A cx H.size) a) (va_A cx H.size))
    (hP : va_P G.1 vwCl (X ++ pl) H) (hD : va_D A (X ++ pl)) (hS : va_S A H0 H locs) (hA : ∀ q, H0.size ≤ q → A q) (isC isR : List Nat) (hC : isC.map (fun i => X[i]?) = cx.map some) (hR : isR.map (fun i => X[i]?) = wr.map some) (hn : va_nd isR = true) (hdis : ∀ i ∈ isR, i ∉ isC)
    (kk : ∀ (u : S) (ra : Nat) (H1 : Heap) (locs1 : List Loc), post u → pa u ra → va_P G.1 vwCl ((wr ++ w1 u) ++ pl) H1 → va_D A ((wr ++ w1 u) ++ pl) → va_S A H0 H1 locs1 → W p l e R s m args below meth c H1 locs1 (cells + mc) (slots + ms) Q (F0 m (pc + 3) ls (.ref ra :: rest))) :
    W p l e R s m args below meth c H locs cells slots Q (F0 m pc ls st0) := by
  have hF : ∀ q, va_A cx H.size q → A q := fun q h => va_freeP hD hS hA isC hC q (va_A_app h)
  refine va_callr hr hS (fun q _ h => hF q h) hF (fun u ra t H1 locs1 ht hvm hp hB hz hk hS1 => ?_)
  obtain ⟨ha, hP1, hD1⟩ := hB
  rw [ht] at hP1
  obtain ⟨hP2, hD2⟩ := va_joinQ (wr := wr) hP hD isC isR hC hR hn hdis hk hF hP1 hD1
  exact kk u ra H1 locs1 hp ha hP2 hD2 hS1
theorem kl_rP {S : Type} {post : S → Prop} {pa : S → Nat → Prop} {w1 pl1 : S → va_W}
    (hr : va_Run p l e R s m args below meth c H locs cells slots mc ms (F0 m pc ls st0) rest (va_Qr post (oR G (va_A (cx ++ pl) H.size) (fun u => w1 u ++ pl1 u) pa) (va_A (cx ++ pl) H.size) a) (va_A (cx ++ pl) H.size))
    (hP : va_P G.1 vwCl (X ++ pl) H) (hD : va_D A (X ++ pl)) (hS : va_S A H0 H locs) (hA : ∀ q, H0.size ≤ q → A q) (isC isR : List Nat) (hC : isC.map (fun i => X[i]?) = cx.map some) (hR : isR.map (fun i => X[i]?) = wr.map some) (hn : va_nd isR = true) (hdis : ∀ i ∈ isR, i ∉ isC)
    (kk : ∀ (u : S) (ra : Nat) (H1 : Heap) (locs1 : List Loc), post u → pa u ra → va_P G.1 vwCl ((wr ++ w1 u) ++ pl1 u) H1 → va_D A ((wr ++ w1 u) ++ pl1 u) → va_S A H0 H1 locs1 → W p l e R s m args below meth c H1 locs1 (cells + mc) (slots + ms) Q (F0 m (pc + 3) ls (.ref ra :: rest))) :
    W p l e R s m args below meth c H locs cells slots Q (F0 m pc ls st0) := by
  have hF : ∀ q, va_A (cx ++ pl) H.size q → A q := va_freeP hD hS hA isC hC
  refine va_callr hr hS (fun q _ h => hF q h) hF (fun u ra t H1 locs1 ht hvm hp hB hz hk hS1 => ?_)
  obtain ⟨ha, hP1, hD1⟩ := hB
  rw [ht] at hP1
  obtain ⟨hP2, hD2⟩ := va_joinP (wr := wr) hP hD isC isR hC hR hn hdis hk hF hP1 hD1
  exact kk u ra H1 locs1 hp ha hP2 hD2 hS1
end NP1
end
section
/-! PatternMatcher.Program: contracts -/
theorem dX1_init_15 : decode cX1_init 15 = .ok (.iload_n 1, 1) := by decide +kernel
theorem dX1_init_16 : decode cX1_init 16 = .ok (.bipush 32, 2) := by decide +kernel
theorem dX1_init_18 : decode cX1_init 18 = .ok (.if_icmp .ge 23, 3) := by decide +kernel
theorem dX1_init_21 : decode cX1_init 21 = .ok (.aload_n 0, 1) := by decide +kernel
theorem dX1_init_22 : decode cX1_init 22 = .ok (.getfield 11, 3) := by decide +kernel
theorem dX1_init_25 : decode cX1_init 25 = .ok (.iload_n 1, 1) := by decide +kernel
theorem dX1_init_26 : decode cX1_init 26 = .ok (.new 9, 3) := by decide +kernel
theorem dX1_init_29 : decode cX1_init 29 = .ok (.dup, 1) := by decide +kernel
theorem dX1_init_30 : decode cX1_init 30 = .ok (.iload_n 1, 1) := by decide +kernel
theorem dX1_init_31 : decode cX1_init 31 = .ok (.invokespecial 17, 3) := by decide +kernel
theorem dX1_init_34 : decode cX1_init 34 = .ok (.aastore, 1) := by decide +kernel
theorem dX1_init_35 : decode cX1_init 35 = .ok (.iinc 1 1, 3) := by decide +kernel
theorem dX1_init_38 : decode cX1_init 38 = .ok (.goto (-23), 3) := by decide +kernel
theorem dX1_init_41 : decode cX1_init 41 = .ok (.aload_n 0, 1) := by decide +kernel
theorem dX1_init_42 : decode cX1_init 42 = .ok (.iconst 1, 1) := by decide +kernel
theorem dX1_init_43 : decode cX1_init 43 = .ok (.putfield 20, 3) := by decide +kernel
theorem dX1_init_46 : decode cX1_init 46 = .ok (.return_, 1) := by decide +kernel
set_option maxHeartbeats 4000000 in
set_option maxRecDepth 100000 in
theorem c_prog_loop (l : Launch) (G : PG) (h na : Nat) {p : Program} {e : Env} {s : State} {m : MethodId} {below : List Frame} {meth : Method} {c : Code} {A : Nat → Prop} (F : bF p s m meth c cX1_init 2 none ([.ref h] : List Value).toArray yX1_init) (hK : pg_K G s) (hA : ∀ q, s.heap.size ≤ q → A q) : ∀ (k i : Nat) (ad : Nat → Nat) (H : Heap) (locs : List Loc) (ls : Array Slot), i + k = 32 → lv_has ls 2 [(1, .int (nI i)), (0, .ref h)] → va_P G.1 vwCl (([(h, .inr (1, [.ref na, .int 0, .int 0, .int 0, .long 0])), (na, .inl (G.2 4, 32, .inr (.inr (.inr (.inr (nf ad i))))))] : va_W) ++ np ad a0 z64 z64 i) H → va_D A (([(h, .inr (1, [.ref na, .int 0, .int 0, .int 0, .long 0])), (na, .inl (G.2 4, 32, .inr (.inr (.inr (.inr (nf ad i))))))] : va_W) ++ np ad a0 z64 z64 i) → va_S A s.heap H locs → W p l e { frames := 2, cells := 33, slots := 448, locals := 61 } s m ([.ref h] : List Value).toArray below meth c H locs (1 + i) (32 + 13 * i) (MQ below (va_Qv (fun (_ : Nat × (Nat → Nat)) => True) (oB G A (fun (u : Nat × (Nat → Nat)) => (([(h, .inr (1, [.ref u.1, .int 1, .int 0, .int 0, .long 0])), (u.1, .inl (G.2 4, 32, .inr (.inr (.inr (.inr (nf u.2 32))))))] : va_W) ++ np u.2 a0 z64 z64 32))) A) ([.ref h] : List Value).toArray s 33 448 A) (F0 m 15 ls []) := by
  have hx := F.1.1; have hb := F.1.2.1; have hml := F.1.2.2.1; have hts := F.1.2.2.2.2
  have hown : s.vm.findClass RX1 = some m.cls := F.1.2.2.2.1
  intro k
  induction k with
  | zero =>
    intro i ad H locs ls hi hl hP hD hS
    obtain rfl : i = 32 := by omega
    refine lv_iload_n hx hb dX1_init_15 rfl (lv_at hl 0 rfl) ?_
    refine lv_bipush (v := 32) hx hb dX1_init_16 (by decide) ?_
    refine lv_icmp_ge (tgt := 41) hx hb dX1_init_18 (by decide) (fun _ => ?_) (fun h => absurd (by decide : (32 : Int32) ≤ nI 32) h)
    refine lv_aload_n hx hb dX1_init_41 rfl (lv_at hl 1 rfl) ?_
    refine lv_iconst (v := 1) hx hb dX1_init_42 (by decide) ?_
    refine va_put (D := G.1) (ci := 1) (v := .int 1) (ty := .int) (C := RX1) (T := TX1) (N := 5) hx hb hts inX1 tyX1 tyX1_ok nmX1 hown hK.1 hP hD hS 0 rfl rfl 1 (by decide) (hts _ w_118) (fun _ h9 => h9) rfl (by decide +kernel) rfl rfl (Nat.le_of_ble_eq_true rfl) dX1_init_43 (fun H locs hP hD hS => ?_)
    have hP : va_P G.1 vwCl (([(h, .inr (1, [.ref na, .int 1, .int 0, .int 0, .long 0])), (na, .inl (G.2 4, 32, .inr (.inr (.inr (.inr (nf ad 32))))))] : va_W) ++ np ad a0 z64 z64 32) H := hP
    have hD : va_D A (([(h, .inr (1, [.ref na, .int 1, .int 0, .int 0, .long 0])), (na, .inl (G.2 4, 32, .inr (.inr (.inr (.inr (nf ad 32))))))] : va_W) ++ np ad a0 z64 z64 32) := hD
    exact en_v F hS (na, ad) trivial hP hD (by omega) (by omega) dX1_init_46
  | succ k ih =>
    intro i ad H locs ls hi hl hP hD hS
    have hlt : i < 32 := by omega
    refine lv_iload_n hx hb dX1_init_15 rfl (lv_at hl 0 rfl) ?_
    refine lv_bipush (v := 32) hx hb dX1_init_16 (by decide) ?_
    refine lv_icmp_ge (tgt := 41) hx hb dX1_init_18 (by decide) (fun h => absurd h (nI_ge (b := 32) hlt (by decide))) (fun _ => ?_)
    refine lv_aload_n hx hb dX1_init_21 rfl (lv_at hl 1 rfl) ?_
    refine va_get (D := G.1) (ci := 1) (v := .ref na) (C := RX1) (T := TX1) (N := 5) hx hb hts inX1 hown hK.1 hP 0 rfl rfl 0 (by decide) (hts _ w_117) (fun _ h9 => h9) rfl dX1_init_22 ?_
    refine lv_iload_n hx hb dX1_init_25 rfl (lv_at hl 0 rfl) ?_
    have hqc : 1 + i + 1 ≤ 33 := by omega
    have hqs : 32 + 13 * i + 13 ≤ 448 := by omega
    refine va_new (D := G.1) (ci := 0) (fs := [.int 0, .int 0, .int 0, .int 0, .int 0, .int 0, .int 0, .int 0, .int 0, .int 0, .int 0, .long 0, .long 0]) (C := RX0) (T := TX0) (N := 13) hx hb hts inX0 tyX0 tyX0_ok hown (hts _ w_54) (hts _ w_56) (hts _ w_5) hK.1 hP hD hS hA rfl (by decide +kernel) hqc hqs dX1_init_26 (fun q1 H hP hD hS => ?_)
    have hP : va_P G.1 vwCl ((([(h, .inr (1, [.ref na, .int 0, .int 0, .int 0, .long 0])), (na, .inl (G.2 4, 32, .inr (.inr (.inr (.inr (nf ad i))))))] : va_W) ++ np ad a0 z64 z64 i) ++ [(q1, .inr (0, [.int 0, .int 0, .int 0, .int 0, .int 0, .int 0, .int 0, .int 0, .int 0, .int 0, .int 0, .long 0, .long 0]))]) H := hP
    have hD : va_D A ((([(h, .inr (1, [.ref na, .int 0, .int 0, .int 0, .long 0])), (na, .inl (G.2 4, 32, .inr (.inr (.inr (.inr (nf ad i))))))] : va_W) ++ np ad a0 z64 z64 i) ++ [(q1, .inr (0, [.int 0, .int 0, .int 0, .int 0, .int 0, .int 0, .int 0, .int 0, .int 0, .int 0, .int 0, .long 0, .long 0]))]) := hD
    have hP := hP.swap; have hD := hD.swap
    have hP : va_P G.1 vwCl (([(h, .inr (1, [.ref na, .int 0, .int 0, .int 0, .long 0])), (na, .inl (G.2 4, 32, .inr (.inr (.inr (.inr (nf ad i)))))), (q1, .inr (0, [.int 0, .int 0, .int 0, .int 0, .int 0, .int 0, .int 0, .int 0, .int 0, .int 0, .int 0, .long 0, .long 0]))] : va_W) ++ np ad a0 z64 z64 i) H := hP
    have hD : va_D A (([(h, .inr (1, [.ref na, .int 0, .int 0, .int 0, .long 0])), (na, .inl (G.2 4, 32, .inr (.inr (.inr (.inr (nf ad i)))))), (q1, .inr (0, [.int 0, .int 0, .int 0, .int 0, .int 0, .int 0, .int 0, .int 0, .int 0, .int 0, .int 0, .long 0, .long 0]))] : va_W) ++ np ad a0 z64 z64 i) := hD
    refine W.widen (k := 1 + i + 1) (n := 32 + 13 * i + 13) (by omega) (by omega) ?_
    refine lv_dup hx hb dX1_init_29 rfl ?_
    refine lv_iload_n hx hb dX1_init_30 rfl (lv_at hl 0 rfl) ?_
    have hPc := hP.sub (ws' := [(q1, .inr (0, [.int 0, .int 0, .int 0, .int 0, .int 0, .int 0, .int 0, .int 0, .int 0, .int 0, .int 0, .long 0, .long 0]))]) [2] rfl
    have hDc := hD.sub (ws' := [(q1, .inr (0, [.int 0, .int 0, .int 0, .int 0, .int 0, .int 0, .int 0, .int 0, .int 0, .int 0, .int 0, .long 0, .long 0]))]) [2] (by decide) rfl
    have hqc : 1 + i + 1 + 0 ≤ 33 ∧ 32 + 13 * i + 13 + 0 ≤ 448 := ⟨by omega, by omega⟩
    refine kl_vQ (wr := [(h, .inr (1, [.ref na, .int 0, .int 0, .int 0, .long 0])), (na, .inl (G.2 4, 32, .inr (.inr (.inr (.inr (nf ad i))))))]) (va_runI (As := [.int (nI i)]) (rest := [.ref q1, .int (nI i), .ref na]) F.1 (c_node_init l G _ (nI i) _) (cwI 1 hts (aw_G w_59) rfl rfl rfl (hts _ w_5) (hts _ w_57) (hts _ w_58) rfl (by decide +kernel) ⟨by decide, by decide⟩) ⟨cS_blind, cS_pre hPc hDc hK⟩ rfl rfl hl.1 rfl (lv_room (Nat.le_of_ble_eq_true rfl)) dX1_init_31 hqc) hP hD hS hA [2] [0, 1] rfl rfl (by decide) (by decide) (fun u H locs hp hP hD hS => ?_)
    have hP : va_P G.1 vwCl (([(h, .inr (1, [.ref na, .int 0, .int 0, .int 0, .long 0])), (na, .inl (G.2 4, 32, .inr (.inr (.inr (.inr (nf ad i)))))), (q1, .inr (0, [.int (nI i), .int 0, .int 0, .int 0, .int 0, .int 0, .int 0, .int 0, .int 0, .int 0, .int 0, .long 0, .long 0]))] : va_W) ++ np ad a0 z64 z64 i) H := hP
    have hD : va_D A (([(h, .inr (1, [.ref na, .int 0, .int 0, .int 0, .long 0])), (na, .inl (G.2 4, 32, .inr (.inr (.inr (.inr (nf ad i)))))), (q1, .inr (0, [.int (nI i), .int 0, .int 0, .int 0, .int 0, .int 0, .int 0, .int 0, .int 0, .int 0, .int 0, .long 0, .long 0]))] : va_W) ++ np ad a0 z64 z64 i) := hD
    refine va_astq (D := G.1) hx hb hK.1 hP hD hS 1 4 2 0 rfl rfl rfl rfl (vp_in_nI hlt (by decide)) dX1_init_34 (fun H locs hP hD hS => ?_)
    rw [nI_clamp (by omega), nf_push] at hP hD
    have hP : va_P G.1 vwCl (([(h, .inr (1, [.ref na, .int 0, .int 0, .int 0, .long 0])), (na, .inl (G.2 4, 32, .inr (.inr (.inr (.inr (nf (va_up ad i q1) (i + 1))))))), (q1, .inr (0, [.int (nI i), .int 0, .int 0, .int 0, .int 0, .int 0, .int 0, .int 0, .int 0, .int 0, .int 0, .long 0, .long 0]))] : va_W) ++ np ad a0 z64 z64 i) H := hP
    have hD : va_D A (([(h, .inr (1, [.ref na, .int 0, .int 0, .int 0, .long 0])), (na, .inl (G.2 4, 32, .inr (.inr (.inr (.inr (nf (va_up ad i q1) (i + 1))))))), (q1, .inr (0, [.int (nI i), .int 0, .int 0, .int 0, .int 0, .int 0, .int 0, .int 0, .int 0, .int 0, .int 0, .long 0, .long 0]))] : va_W) ++ np ad a0 z64 z64 i) := hD
    refine lv_iinc (v := (nI (i + 1))) (k := 0) hx hb dX1_init_35 hl rfl (nI_1 i) (by decide) rfl (fun ls hl => ?_)
    have hl : lv_has ls 2 [(1, .int (nI (i + 1))), (0, .ref h)] := hl
    refine lv_goto (tgt := 15) hx hb dX1_init_38 (by decide) ?_
    have hP : va_P G.1 vwCl ((([(h, .inr (1, [.ref na, .int 0, .int 0, .int 0, .long 0])), (na, .inl (G.2 4, 32, .inr (.inr (.inr (.inr (nf (va_up ad i q1) (i + 1)))))))] : va_W) ++ [(q1, .inr (0, ndF (a0 i) (z64 i) (z64 i)))]) ++ np ad a0 z64 z64 i) H := hP
    have hD : va_D A ((([(h, .inr (1, [.ref na, .int 0, .int 0, .int 0, .long 0])), (na, .inl (G.2 4, 32, .inr (.inr (.inr (.inr (nf (va_up ad i q1) (i + 1)))))))] : va_W) ++ [(q1, .inr (0, ndF (a0 i) (z64 i) (z64 i)))]) ++ np ad a0 z64 z64 i) := hD
    have hP := hP.swap
    have hD := hD.swap
    rw [List.append_assoc, np_push] at hP hD
    refine W.widen (k := 1 + (i + 1)) (n := 32 + 13 * (i + 1)) (by omega) (by omega) ?_
    exact ih (i + 1) (va_up ad i q1) H locs ls (by omega) hl hP hD hS
theorem dX1_init_0 : decode cX1_init 0 = .ok (.aload_n 0, 1) := by decide +kernel
theorem dX1_init_1 : decode cX1_init 1 = .ok (.invokespecial 3, 3) := by decide +kernel
theorem dX1_init_4 : decode cX1_init 4 = .ok (.aload_n 0, 1) := by decide +kernel
theorem dX1_init_5 : decode cX1_init 5 = .ok (.bipush 32, 2) := by decide +kernel
theorem dX1_init_7 : decode cX1_init 7 = .ok (.anewarray 9, 3) := by decide +kernel
theorem dX1_init_10 : decode cX1_init 10 = .ok (.putfield 11, 3) := by decide +kernel
theorem dX1_init_13 : decode cX1_init 13 = .ok (.iconst 0, 1) := by decide +kernel
theorem dX1_init_14 : decode cX1_init 14 = .ok (.istore_n 1, 1) := by decide +kernel
set_option maxHeartbeats 4000000 in
set_option maxRecDepth 100000 in
theorem c_prog_init (l : Launch) (G : PG) (h : Nat) : Cv l yX1_init (Cond.code yX1_init cX1_init 2 none :: aW) { frames := 2, cells := 33, slots := 448, locals := 61 } G [(h, .inr (1, [.null, .int 0, .int 0, .int 0, .long 0]))] [.ref h] (S := Nat × (Nat → Nat)) (fun (_ : Nat × (Nat → Nat)) => True) (fun (u : Nat × (Nat → Nat)) => (([(h, .inr (1, [.ref u.1, .int 1, .int 0, .int 0, .long 0])), (u.1, .inl (G.2 4, 32, .inr (.inr (.inr (.inr (nf u.2 32))))))] : va_W) ++ np u.2 a0 z64 z64 32)) 33 448 := by
  refine ofB (y := yX1_init) (G := G) (cc := cX1_init) (maxL := 2) (ret := none) (Qc := fun A => va_Qv (fun (_ : Nat × (Nat → Nat)) => True) (oB G A (fun (u : Nat × (Nat → Nat)) => (([(h, .inr (1, [.ref u.1, .int 1, .int 0, .int 0, .long 0])), (u.1, .inl (G.2 4, 32, .inr (.inr (.inr (.inr (nf u.2 32))))))] : va_W) ++ np u.2 a0 z64 z64 32))) A) (by decide) rfl ?_
  intro p e s m below meth c A F hK hA hP hD
  have hx := F.1.1; have hb := F.1.2.1; have hml := F.1.2.2.1; have hts := F.1.2.2.2.2
  have hown : s.vm.findClass RX1 = some m.cls := F.1.2.2.2.1
  have hin : meth.name = "<init>" := F.2.2.2
  have hS : va_S A s.heap s.heap [] := va_S.rf
  have hl := lv_entry ([.ref h]) (n := 2) (Nat.le_of_ble_eq_true rfl)
  rw [lg_entry_eq]
  generalize (lg_sl ([.ref h]) ++ List.replicate (2 - (lg_sl ([.ref h])).length) Slot.unset).toArray = ls at hl ⊢
  have hl : lv_has ls 2 [(0, .ref h)] := hl
  refine lv_aload_n hx hb dX1_init_0 rfl (lv_at hl 0 rfl) ?_
  refine W.objInit hx hb hown (hts _ w_53) (hts _ w_26) (hts _ w_27) rfl (by rw [hml]; exact hl.1) rfl dX1_init_1 (Nat.le_of_ble_eq_true rfl) (Nat.le_of_ble_eq_true rfl) ?_
  refine W.eq (g2 := F0 m 4 ls []) rfl ?_
  refine lv_aload_n hx hb dX1_init_4 rfl (lv_at hl 0 rfl) ?_
  refine lv_bipush (v := 32) hx hb dX1_init_5 (by decide) ?_
  have hqc : 0 + 1 ≤ 33 := by omega
  have hqs : 0 + 32 ≤ 448 := by omega
  refine pg_newq (i := 4) (C := RX0) (N' := 32) hx hb hown (hts _ w_54) hK.2.2.1 hK rfl hP hD hS hA (by decide) (by decide) (by decide) hqc hqs dX1_init_7 (fun q1 H hP hD hS => ?_)
  have hP : va_P G.1 vwCl [(h, .inr (1, [.null, .int 0, .int 0, .int 0, .long 0])), (q1, .inl (G.2 4, 32, .inr (.inr (.inr (.inr (fun _ => none))))))] H := hP
  have hD : va_D A [(h, .inr (1, [.null, .int 0, .int 0, .int 0, .long 0])), (q1, .inl (G.2 4, 32, .inr (.inr (.inr (.inr (fun _ => none))))))] := hD
  refine W.widen (k := 1) (n := 32) (by omega) (by omega) ?_
  refine va_putF (D := G.1) (ci := 1) (v := .ref q1) (ty := .array (.object "PatternMatcher$Node")) (C := RX1) (T := TX1) (N := 5) hx hb hts inX1 tyX1 tyX1_ok nmX1 hown hK.1 hP hD hS 0 rfl rfl 0 (by decide) (hts _ w_117) (fun _ h9 => h9) rfl hin rfl (by decide +kernel) rfl rfl (Nat.le_of_ble_eq_true rfl) dX1_init_10 (fun H locs hP hD hS => ?_)
  have hP : va_P G.1 vwCl [(h, .inr (1, [.ref q1, .int 0, .int 0, .int 0, .long 0])), (q1, .inl (G.2 4, 32, .inr (.inr (.inr (.inr (fun _ => none))))))] H := hP
  have hD : va_D A [(h, .inr (1, [.ref q1, .int 0, .int 0, .int 0, .long 0])), (q1, .inl (G.2 4, 32, .inr (.inr (.inr (.inr (fun _ => none))))))] := hD
  refine lv_iconst (v := 0) hx hb dX1_init_13 (by decide) ?_
  refine lv_istore_n hx hb dX1_init_14 rfl hl (by decide) rfl (fun ls hl => ?_)
  have hl : lv_has ls 2 [(1, .int 0), (0, .ref h)] := hl
  rw [nf_0 (ad := fun _ => 0)] at hP hD
  exact c_prog_loop l G h q1 F hK hA 32 0 (fun _ => 0) H locs ls rfl hl hP hD hS

theorem dX1_restart_0 : decode cX1_restart 0 = .ok (.aload_n 0, 1) := by decide +kernel
theorem dX1_restart_1 : decode cX1_restart 1 = .ok (.iconst 1, 1) := by decide +kernel
theorem dX1_restart_2 : decode cX1_restart 2 = .ok (.putfield 20, 3) := by decide +kernel
theorem dX1_restart_5 : decode cX1_restart 5 = .ok (.aload_n 0, 1) := by decide +kernel
theorem dX1_restart_6 : decode cX1_restart 6 = .ok (.iconst 0, 1) := by decide +kernel
theorem dX1_restart_7 : decode cX1_restart 7 = .ok (.putfield 24, 3) := by decide +kernel
theorem dX1_restart_10 : decode cX1_restart 10 = .ok (.aload_n 0, 1) := by decide +kernel
theorem dX1_restart_11 : decode cX1_restart 11 = .ok (.iconst 0, 1) := by decide +kernel
theorem dX1_restart_12 : decode cX1_restart 12 = .ok (.putfield 27, 3) := by decide +kernel
theorem dX1_restart_15 : decode cX1_restart 15 = .ok (.aload_n 0, 1) := by decide +kernel
theorem dX1_restart_16 : decode cX1_restart 16 = .ok (.lconst 0, 1) := by decide +kernel
theorem dX1_restart_17 : decode cX1_restart 17 = .ok (.putfield 30, 3) := by decide +kernel
theorem dX1_restart_20 : decode cX1_restart 20 = .ok (.return_, 1) := by decide +kernel
set_option maxHeartbeats 4000000 in
set_option maxRecDepth 100000 in
theorem c_prog_restart (l : Launch) (G : PG) (h na : Nat) (ct fi gr : Int32) (aq : Int64) (ad : Nat → Nat) (a : Nat → Nat → Int32) (lo hi : Nat → Int64) : Cv l yX1_restart (Cond.code yX1_restart cX1_restart 1 none :: aW) { frames := 0, cells := 0, slots := 0, locals := 0 } G (([(h, .inr (1, [.ref na, .int ct, .int fi, .int gr, .long aq])), (na, .inl (G.2 4, 32, .inr (.inr (.inr (.inr (nf ad 32))))))] : va_W) ++ np ad a lo hi 32) [.ref h] (S := Unit) (fun (_ : Unit) => True) (fun (_ : Unit) => (([(h, .inr (1, [.ref na, .int 1, .int 0, .int 0, .long 0])), (na, .inl (G.2 4, 32, .inr (.inr (.inr (.inr (nf ad 32))))))] : va_W) ++ np ad a lo hi 32)) 0 0 := by
  refine ofB (y := yX1_restart) (G := G) (cc := cX1_restart) (maxL := 1) (ret := none) (Qc := fun A => va_Qv (fun (_ : Unit) => True) (oB G A (fun (_ : Unit) => (([(h, .inr (1, [.ref na, .int 1, .int 0, .int 0, .long 0])), (na, .inl (G.2 4, 32, .inr (.inr (.inr (.inr (nf ad 32))))))] : va_W) ++ np ad a lo hi 32))) A) (by decide) rfl ?_
  intro p e s m below meth c A F hK hA hP hD
  have hx := F.1.1; have hb := F.1.2.1; have hml := F.1.2.2.1; have hts := F.1.2.2.2.2
  have hown : s.vm.findClass RX1 = some m.cls := F.1.2.2.2.1
  have hS : va_S A s.heap s.heap [] := va_S.rf
  have hl := lv_entry ([.ref h]) (n := 1) (Nat.le_of_ble_eq_true rfl)
  rw [lg_entry_eq]
  generalize (lg_sl ([.ref h]) ++ List.replicate (1 - (lg_sl ([.ref h])).length) Slot.unset).toArray = ls at hl ⊢
  have hl : lv_has ls 1 [(0, .ref h)] := hl
  refine lv_aload_n hx hb dX1_restart_0 rfl (lv_at hl 0 rfl) ?_
  refine lv_iconst (v := 1) hx hb dX1_restart_1 (by decide) ?_
  refine va_put (D := G.1) (ci := 1) (v := .int 1) (ty := .int) (C := RX1) (T := TX1) (N := 5) hx hb hts inX1 tyX1 tyX1_ok nmX1 hown hK.1 hP hD hS 0 rfl rfl 1 (by decide) (hts _ w_118) (fun _ h9 => h9) rfl (by decide +kernel) rfl rfl (Nat.le_of_ble_eq_true rfl) dX1_restart_2 (fun H locs hP hD hS => ?_)
  have hP : va_P G.1 vwCl (([(h, .inr (1, [.ref na, .int 1, .int fi, .int gr, .long aq])), (na, .inl (G.2 4, 32, .inr (.inr (.inr (.inr (nf ad 32))))))] : va_W) ++ np ad a lo hi 32) H := hP
  have hD : va_D A (([(h, .inr (1, [.ref na, .int 1, .int fi, .int gr, .long aq])), (na, .inl (G.2 4, 32, .inr (.inr (.inr (.inr (nf ad 32))))))] : va_W) ++ np ad a lo hi 32) := hD
  refine lv_aload_n hx hb dX1_restart_5 rfl (lv_at hl 0 rfl) ?_
  refine lv_iconst (v := 0) hx hb dX1_restart_6 (by decide) ?_
  refine va_put (D := G.1) (ci := 1) (v := .int 0) (ty := .int) (C := RX1) (T := TX1) (N := 5) hx hb hts inX1 tyX1 tyX1_ok nmX1 hown hK.1 hP hD hS 0 rfl rfl 2 (by decide) (hts _ w_119) (fun _ h9 => h9) rfl (by decide +kernel) rfl rfl (Nat.le_of_ble_eq_true rfl) dX1_restart_7 (fun H locs hP hD hS => ?_)
  have hP : va_P G.1 vwCl (([(h, .inr (1, [.ref na, .int 1, .int 0, .int gr, .long aq])), (na, .inl (G.2 4, 32, .inr (.inr (.inr (.inr (nf ad 32))))))] : va_W) ++ np ad a lo hi 32) H := hP
  have hD : va_D A (([(h, .inr (1, [.ref na, .int 1, .int 0, .int gr, .long aq])), (na, .inl (G.2 4, 32, .inr (.inr (.inr (.inr (nf ad 32))))))] : va_W) ++ np ad a lo hi 32) := hD
  refine lv_aload_n hx hb dX1_restart_10 rfl (lv_at hl 0 rfl) ?_
  refine lv_iconst (v := 0) hx hb dX1_restart_11 (by decide) ?_
  refine va_put (D := G.1) (ci := 1) (v := .int 0) (ty := .int) (C := RX1) (T := TX1) (N := 5) hx hb hts inX1 tyX1 tyX1_ok nmX1 hown hK.1 hP hD hS 0 rfl rfl 3 (by decide) (hts _ w_122) (fun _ h9 => h9) rfl (by decide +kernel) rfl rfl (Nat.le_of_ble_eq_true rfl) dX1_restart_12 (fun H locs hP hD hS => ?_)
  have hP : va_P G.1 vwCl (([(h, .inr (1, [.ref na, .int 1, .int 0, .int 0, .long aq])), (na, .inl (G.2 4, 32, .inr (.inr (.inr (.inr (nf ad 32))))))] : va_W) ++ np ad a lo hi 32) H := hP
  have hD : va_D A (([(h, .inr (1, [.ref na, .int 1, .int 0, .int 0, .long aq])), (na, .inl (G.2 4, 32, .inr (.inr (.inr (.inr (nf ad 32))))))] : va_W) ++ np ad a lo hi 32) := hD
  refine lv_aload_n hx hb dX1_restart_15 rfl (lv_at hl 0 rfl) ?_
  refine lv_lconst (v := 0) hx hb dX1_restart_16 (by decide) ?_
  refine va_put (D := G.1) (ci := 1) (v := .long 0) (ty := .long) (C := RX1) (T := TX1) (N := 5) hx hb hts inX1 tyX1 tyX1_ok nmX1 hown hK.1 hP hD hS 0 rfl rfl 4 (by decide) (hts _ w_125) (fun _ h9 => h9) rfl (by decide +kernel) rfl rfl (Nat.le_of_ble_eq_true rfl) dX1_restart_17 (fun H locs hP hD hS => ?_)
  have hP : va_P G.1 vwCl (([(h, .inr (1, [.ref na, .int 1, .int 0, .int 0, .long 0])), (na, .inl (G.2 4, 32, .inr (.inr (.inr (.inr (nf ad 32))))))] : va_W) ++ np ad a lo hi 32) H := hP
  have hD : va_D A (([(h, .inr (1, [.ref na, .int 1, .int 0, .int 0, .long 0])), (na, .inl (G.2 4, 32, .inr (.inr (.inr (.inr (nf ad 32))))))] : va_W) ++ np ad a lo hi 32) := hD
  exact en_v F hS () trivial hP hD (by omega) (by omega) dX1_restart_20

theorem dX1_add_0 : decode cX1_add 0 = .ok (.aload_n 0, 1) := by decide +kernel
theorem dX1_add_1 : decode cX1_add 1 = .ok (.getfield 20, 3) := by decide +kernel
theorem dX1_add_4 : decode cX1_add 4 = .ok (.aload_n 0, 1) := by decide +kernel
theorem dX1_add_5 : decode cX1_add 5 = .ok (.getfield 11, 3) := by decide +kernel
theorem dX1_add_8 : decode cX1_add 8 = .ok (.arraylength, 1) := by decide +kernel
theorem dX1_add_9 : decode cX1_add 9 = .ok (.if_icmp .lt 5, 3) := by decide +kernel
theorem dX1_add_14 : decode cX1_add 14 = .ok (.aload_n 0, 1) := by decide +kernel
theorem dX1_add_15 : decode cX1_add 15 = .ok (.getfield 11, 3) := by decide +kernel
theorem dX1_add_18 : decode cX1_add 18 = .ok (.aload_n 0, 1) := by decide +kernel
theorem dX1_add_19 : decode cX1_add 19 = .ok (.getfield 20, 3) := by decide +kernel
theorem dX1_add_22 : decode cX1_add 22 = .ok (.aaload, 1) := by decide +kernel
theorem dX1_add_23 : decode cX1_add 23 = .ok (.astore_n 2, 1) := by decide +kernel
theorem dX1_add_24 : decode cX1_add 24 = .ok (.aload_n 2, 1) := by decide +kernel
theorem dX1_add_25 : decode cX1_add 25 = .ok (.iload_n 1, 1) := by decide +kernel
theorem dX1_add_26 : decode cX1_add 26 = .ok (.putfield 34, 3) := by decide +kernel
theorem dX1_add_29 : decode cX1_add 29 = .ok (.aload_n 2, 1) := by decide +kernel
theorem dX1_add_30 : decode cX1_add 30 = .ok (.iconst 0, 1) := by decide +kernel
theorem dX1_add_31 : decode cX1_add 31 = .ok (.putfield 37, 3) := by decide +kernel
theorem dX1_add_34 : decode cX1_add 34 = .ok (.aload_n 2, 1) := by decide +kernel
theorem dX1_add_35 : decode cX1_add 35 = .ok (.iconst 0, 1) := by decide +kernel
theorem dX1_add_36 : decode cX1_add 36 = .ok (.putfield 40, 3) := by decide +kernel
theorem dX1_add_39 : decode cX1_add 39 = .ok (.aload_n 0, 1) := by decide +kernel
theorem dX1_add_40 : decode cX1_add 40 = .ok (.dup, 1) := by decide +kernel
theorem dX1_add_41 : decode cX1_add 41 = .ok (.getfield 20, 3) := by decide +kernel
theorem dX1_add_44 : decode cX1_add 44 = .ok (.iconst 1, 1) := by decide +kernel
theorem dX1_add_45 : decode cX1_add 45 = .ok (.iadd, 1) := by decide +kernel
theorem dX1_add_46 : decode cX1_add 46 = .ok (.putfield 20, 3) := by decide +kernel
theorem dX1_add_49 : decode cX1_add 49 = .ok (.aload_n 2, 1) := by decide +kernel
theorem dX1_add_50 : decode cX1_add 50 = .ok (.getfield 43, 3) := by decide +kernel
theorem dX1_add_53 : decode cX1_add 53 = .ok (.ireturn, 1) := by decide +kernel
set_option maxHeartbeats 4000000 in
set_option maxRecDepth 100000 in
theorem c_prog_add (l : Launch) (G : PG) (h na j : Nat) (fi gr : Int32) (aq : Int64) (ad : Nat → Nat) (a : Nat → Nat → Int32) (lo hi : Nat → Int64) (kd : Int32) (hj : j < 32) : Ci l yX1_add (Cond.code yX1_add cX1_add 3 (some .int) :: aW) { frames := 0, cells := 0, slots := 0, locals := 0 } G (([(h, .inr (1, [.ref na, .int (nI j), .int fi, .int gr, .long aq])), (na, .inl (G.2 4, 32, .inr (.inr (.inr (.inr (nf ad 32))))))] : va_W) ++ np ad a lo hi 32) [.ref h, .int kd] (S := Unit) (fun (r : Int32) (_ : Unit) => r = a j 0) (fun (_ : Unit) => (([(h, .inr (1, [.ref na, .int (nI (j + 1)), .int fi, .int gr, .long aq])), (na, .inl (G.2 4, 32, .inr (.inr (.inr (.inr (nf ad 32))))))] : va_W) ++ np ad (va_up a j (upd (upd (upd (a j) 1 kd) 2 0) 3 0)) lo hi 32)) 0 0 := by
  refine ofB (y := yX1_add) (G := G) (cc := cX1_add) (maxL := 3) (ret := (some .int)) (Qc := fun A => va_Qi (fun (r : Int32) (_ : Unit) => r = a j 0) (oB G A (fun (_ : Unit) => (([(h, .inr (1, [.ref na, .int (nI (j + 1)), .int fi, .int gr, .long aq])), (na, .inl (G.2 4, 32, .inr (.inr (.inr (.inr (nf ad 32))))))] : va_W) ++ np ad (va_up a j (upd (upd (upd (a j) 1 kd) 2 0) 3 0)) lo hi 32))) A) (by decide) rfl ?_
  intro p e s m below meth c A F hK hA hP hD
  have hx := F.1.1; have hb := F.1.2.1; have hml := F.1.2.2.1; have hts := F.1.2.2.2.2
  have hown : s.vm.findClass RX1 = some m.cls := F.1.2.2.2.1
  have hS : va_S A s.heap s.heap [] := va_S.rf
  have hl := lv_entry ([.ref h, .int kd]) (n := 3) (Nat.le_of_ble_eq_true rfl)
  rw [lg_entry_eq]
  generalize (lg_sl ([.ref h, .int kd]) ++ List.replicate (3 - (lg_sl ([.ref h, .int kd])).length) Slot.unset).toArray = ls at hl ⊢
  have hl : lv_has ls 3 [(0, .ref h), (1, .int kd)] := hl
  refine lv_aload_n hx hb dX1_add_0 rfl (lv_at hl 0 rfl) ?_
  refine va_get (D := G.1) (ci := 1) (v := .int (nI j)) (C := RX1) (T := TX1) (N := 5) hx hb hts inX1 hown hK.1 hP 0 rfl rfl 1 (by decide) (hts _ w_118) (fun _ h9 => h9) rfl dX1_add_1 ?_
  refine lv_aload_n hx hb dX1_add_4 rfl (lv_at hl 0 rfl) ?_
  refine va_get (D := G.1) (ci := 1) (v := .ref na) (C := RX1) (T := TX1) (N := 5) hx hb hts inX1 hown hK.1 hP 0 rfl rfl 0 (by decide) (hts _ w_117) (fun _ h9 => h9) rfl dX1_add_5 ?_
  refine va_alen (D := G.1) (v := (nI 32)) hx hb hK.1 hP 1 4 rfl rfl rfl dX1_add_8 ?_
  refine lv_icmp_lt (tgt := 14) hx hb dX1_add_9 (by decide) (fun _ => ?_) (fun h => absurd (nI_lt (b := 32) hj (by decide)) h)
  refine lv_aload_n hx hb dX1_add_14 rfl (lv_at hl 0 rfl) ?_
  refine va_get (D := G.1) (ci := 1) (v := .ref na) (C := RX1) (T := TX1) (N := 5) hx hb hts inX1 hown hK.1 hP 0 rfl rfl 0 (by decide) (hts _ w_117) (fun _ h9 => h9) rfl dX1_add_15 ?_
  refine lv_aload_n hx hb dX1_add_18 rfl (lv_at hl 0 rfl) ?_
  refine va_get (D := G.1) (ci := 1) (v := .int (nI j)) (C := RX1) (T := TX1) (N := 5) hx hb hts inX1 hown hK.1 hP 0 rfl rfl 1 (by decide) (hts _ w_118) (fun _ h9 => h9) rfl dX1_add_19 ?_
  refine va_aldq (D := G.1) hx hb hK.1 hP 1 4 rfl rfl (vp_in_nI hj (by decide)) dX1_add_22 ?_
  refine tp_v (.ref (ad j)) (by rw [nI_clamp (by omega), nf_at hj]; rfl) ?_
  refine lv_astore_n hx hb dX1_add_23 rfl hl (by decide) rfl (fun ls hl => ?_)
  have hl : lv_has ls 3 [(2, .ref (ad j)), (0, .ref h), (1, .int kd)] := hl
  refine lv_aload_n hx hb dX1_add_24 rfl (lv_at hl 0 rfl) ?_
  refine lv_iload_n hx hb dX1_add_25 rfl (lv_at hl 2 rfl) ?_
  refine va_putN (D := G.1) (ci := 0) (v := .int kd) (ty := .int) (C := RX0) (T := TX0) (N := 13) hx hb hts inX0 tyX0 tyX0_ok nmX0 hown hK.1 hP hD hS (2 + j) (np_at 2 rfl hj rfl) rfl 1 (by decide) (hK.2.1.use w_64) (fun _ h9 => h9) rfl (by decide +kernel) rfl rfl (Nat.le_of_ble_eq_true rfl) dX1_add_26 (fun H locs hP hD hS => ?_)
  have hP : va_P G.1 vwCl ((([(h, .inr (1, [.ref na, .int (nI j), .int fi, .int gr, .long aq])), (na, .inl (G.2 4, 32, .inr (.inr (.inr (.inr (nf ad 32))))))] : va_W) ++ np ad a lo hi 32).set (2 + j) (ad j, .inr (0, ndF (upd (a j) 1 kd) (lo j) (hi j)))) H := hP
  have hD : va_D A ((([(h, .inr (1, [.ref na, .int (nI j), .int fi, .int gr, .long aq])), (na, .inl (G.2 4, 32, .inr (.inr (.inr (.inr (nf ad 32))))))] : va_W) ++ np ad a lo hi 32).set (2 + j) (ad j, .inr (0, ndF (upd (a j) 1 kd) (lo j) (hi j)))) := hD
  rw [np_up 2 rfl hj] at hP hD
  have hP : va_P G.1 vwCl (([(h, .inr (1, [.ref na, .int (nI j), .int fi, .int gr, .long aq])), (na, .inl (G.2 4, 32, .inr (.inr (.inr (.inr (nf ad 32))))))] : va_W) ++ np ad (va_up a j (upd (a j) 1 kd)) lo hi 32) H := hP
  have hD : va_D A (([(h, .inr (1, [.ref na, .int (nI j), .int fi, .int gr, .long aq])), (na, .inl (G.2 4, 32, .inr (.inr (.inr (.inr (nf ad 32))))))] : va_W) ++ np ad (va_up a j (upd (a j) 1 kd)) lo hi 32) := hD
  refine lv_aload_n hx hb dX1_add_29 rfl (lv_at hl 0 rfl) ?_
  refine lv_iconst (v := 0) hx hb dX1_add_30 (by decide) ?_
  refine va_putN (D := G.1) (ci := 0) (v := .int 0) (ty := .int) (C := RX0) (T := TX0) (N := 13) hx hb hts inX0 tyX0 tyX0_ok nmX0 hown hK.1 hP hD hS (2 + j) (np_at 2 rfl hj (va_up_self _ _ _)) rfl 2 (by decide) (hK.2.1.use w_66) (fun _ h9 => h9) rfl (by decide +kernel) rfl rfl (Nat.le_of_ble_eq_true rfl) dX1_add_31 (fun H locs hP hD hS => ?_)
  have hP : va_P G.1 vwCl ((([(h, .inr (1, [.ref na, .int (nI j), .int fi, .int gr, .long aq])), (na, .inl (G.2 4, 32, .inr (.inr (.inr (.inr (nf ad 32))))))] : va_W) ++ np ad (va_up a j (upd (a j) 1 kd)) lo hi 32).set (2 + j) (ad j, .inr (0, ndF (upd (upd (a j) 1 kd) 2 0) (lo j) (hi j)))) H := hP
  have hD : va_D A ((([(h, .inr (1, [.ref na, .int (nI j), .int fi, .int gr, .long aq])), (na, .inl (G.2 4, 32, .inr (.inr (.inr (.inr (nf ad 32))))))] : va_W) ++ np ad (va_up a j (upd (a j) 1 kd)) lo hi 32).set (2 + j) (ad j, .inr (0, ndF (upd (upd (a j) 1 kd) 2 0) (lo j) (hi j)))) := hD
  rw [np_up 2 rfl hj, bx_uu] at hP hD
  have hP : va_P G.1 vwCl (([(h, .inr (1, [.ref na, .int (nI j), .int fi, .int gr, .long aq])), (na, .inl (G.2 4, 32, .inr (.inr (.inr (.inr (nf ad 32))))))] : va_W) ++ np ad (va_up a j (upd (upd (a j) 1 kd) 2 0)) lo hi 32) H := hP
  have hD : va_D A (([(h, .inr (1, [.ref na, .int (nI j), .int fi, .int gr, .long aq])), (na, .inl (G.2 4, 32, .inr (.inr (.inr (.inr (nf ad 32))))))] : va_W) ++ np ad (va_up a j (upd (upd (a j) 1 kd) 2 0)) lo hi 32) := hD
  refine lv_aload_n hx hb dX1_add_34 rfl (lv_at hl 0 rfl) ?_
  refine lv_iconst (v := 0) hx hb dX1_add_35 (by decide) ?_
  refine va_putN (D := G.1) (ci := 0) (v := .int 0) (ty := .int) (C := RX0) (T := TX0) (N := 13) hx hb hts inX0 tyX0 tyX0_ok nmX0 hown hK.1 hP hD hS (2 + j) (np_at 2 rfl hj (va_up_self _ _ _)) rfl 3 (by decide) (hK.2.1.use w_69) (fun _ h9 => h9) rfl (by decide +kernel) rfl rfl (Nat.le_of_ble_eq_true rfl) dX1_add_36 (fun H locs hP hD hS => ?_)
  have hP : va_P G.1 vwCl ((([(h, .inr (1, [.ref na, .int (nI j), .int fi, .int gr, .long aq])), (na, .inl (G.2 4, 32, .inr (.inr (.inr (.inr (nf ad 32))))))] : va_W) ++ np ad (va_up a j (upd (upd (a j) 1 kd) 2 0)) lo hi 32).set (2 + j) (ad j, .inr (0, ndF (upd (upd (upd (a j) 1 kd) 2 0) 3 0) (lo j) (hi j)))) H := hP
  have hD : va_D A ((([(h, .inr (1, [.ref na, .int (nI j), .int fi, .int gr, .long aq])), (na, .inl (G.2 4, 32, .inr (.inr (.inr (.inr (nf ad 32))))))] : va_W) ++ np ad (va_up a j (upd (upd (a j) 1 kd) 2 0)) lo hi 32).set (2 + j) (ad j, .inr (0, ndF (upd (upd (upd (a j) 1 kd) 2 0) 3 0) (lo j) (hi j)))) := hD
  rw [np_up 2 rfl hj, bx_uu] at hP hD
  have hP : va_P G.1 vwCl (([(h, .inr (1, [.ref na, .int (nI j), .int fi, .int gr, .long aq])), (na, .inl (G.2 4, 32, .inr (.inr (.inr (.inr (nf ad 32))))))] : va_W) ++ np ad (va_up a j (upd (upd (upd (a j) 1 kd) 2 0) 3 0)) lo hi 32) H := hP
  have hD : va_D A (([(h, .inr (1, [.ref na, .int (nI j), .int fi, .int gr, .long aq])), (na, .inl (G.2 4, 32, .inr (.inr (.inr (.inr (nf ad 32))))))] : va_W) ++ np ad (va_up a j (upd (upd (upd (a j) 1 kd) 2 0) 3 0)) lo hi 32) := hD
  refine lv_aload_n hx hb dX1_add_39 rfl (lv_at hl 1 rfl) ?_
  refine lv_dup hx hb dX1_add_40 rfl ?_
  refine va_get (D := G.1) (ci := 1) (v := .int (nI j)) (C := RX1) (T := TX1) (N := 5) hx hb hts inX1 hown hK.1 hP 0 rfl rfl 1 (by decide) (hts _ w_118) (fun _ h9 => h9) rfl dX1_add_41 ?_
  refine lv_iconst (v := 1) hx hb dX1_add_44 (by decide) ?_
  refine lv_iadd hx hb dX1_add_45 ?_
  refine tp_i (nI (j + 1)) (nI_1 j) ?_
  refine va_put (D := G.1) (ci := 1) (v := .int (nI (j + 1))) (ty := .int) (C := RX1) (T := TX1) (N := 5) hx hb hts inX1 tyX1 tyX1_ok nmX1 hown hK.1 hP hD hS 0 rfl rfl 1 (by decide) (hts _ w_118) (fun _ h9 => h9) rfl (by decide +kernel) rfl rfl (Nat.le_of_ble_eq_true rfl) dX1_add_46 (fun H locs hP hD hS => ?_)
  have hP : va_P G.1 vwCl (([(h, .inr (1, [.ref na, .int (nI (j + 1)), .int fi, .int gr, .long aq])), (na, .inl (G.2 4, 32, .inr (.inr (.inr (.inr (nf ad 32))))))] : va_W) ++ np ad (va_up a j (upd (upd (upd (a j) 1 kd) 2 0) 3 0)) lo hi 32) H := hP
  have hD : va_D A (([(h, .inr (1, [.ref na, .int (nI (j + 1)), .int fi, .int gr, .long aq])), (na, .inl (G.2 4, 32, .inr (.inr (.inr (.inr (nf ad 32))))))] : va_W) ++ np ad (va_up a j (upd (upd (upd (a j) 1 kd) 2 0) 3 0)) lo hi 32) := hD
  refine lv_aload_n hx hb dX1_add_49 rfl (lv_at hl 0 rfl) ?_
  refine va_getN (D := G.1) (ci := 0) (v := .int (a j 0)) (C := RX0) (T := TX0) (N := 13) hx hb hts inX0 hown hK.1 hP (2 + j) (np_at 2 rfl hj (va_up_self _ _ _)) rfl 0 (by decide) (hK.2.1.use w_62) (fun _ h9 => h9) rfl dX1_add_50 ?_
  exact en_i F hS (a j 0) () (by rfl) rfl hP hD (by omega) (by omega) dX1_add_53

theorem dX1_add_12 : decode cX1_add 12 = .ok (.iconst 0, 1) := by decide +kernel
theorem dX1_add_13 : decode cX1_add 13 = .ok (.ireturn, 1) := by decide +kernel
set_option maxHeartbeats 4000000 in
set_option maxRecDepth 100000 in
theorem c_prog_addF (l : Launch) (G : PG) (h na : Nat) (ct fi gr : Int32) (aq : Int64) (ad : Nat → Nat) (a : Nat → Nat → Int32) (lo hi : Nat → Int64) (kd : Int32) : Ci l yX1_add (Cond.code yX1_add cX1_add 3 (some .int) :: aW) { frames := 0, cells := 0, slots := 0, locals := 0 } G (([(h, .inr (1, [.ref na, .int 32, .int fi, .int gr, .long aq])), (na, .inl (G.2 4, 32, .inr (.inr (.inr (.inr (nf ad 32))))))] : va_W) ++ np ad a lo hi 32) [.ref h, .int kd] (S := Unit) (fun (r : Int32) (_ : Unit) => r = 0) (fun (_ : Unit) => (([(h, .inr (1, [.ref na, .int 32, .int fi, .int gr, .long aq])), (na, .inl (G.2 4, 32, .inr (.inr (.inr (.inr (nf ad 32))))))] : va_W) ++ np ad a lo hi 32)) 0 0 := by
  refine ofB (y := yX1_add) (G := G) (cc := cX1_add) (maxL := 3) (ret := (some .int)) (Qc := fun A => va_Qi (fun (r : Int32) (_ : Unit) => r = 0) (oB G A (fun (_ : Unit) => (([(h, .inr (1, [.ref na, .int 32, .int fi, .int gr, .long aq])), (na, .inl (G.2 4, 32, .inr (.inr (.inr (.inr (nf ad 32))))))] : va_W) ++ np ad a lo hi 32))) A) (by decide) rfl ?_
  intro p e s m below meth c A F hK hA hP hD
  have hx := F.1.1; have hb := F.1.2.1; have hml := F.1.2.2.1; have hts := F.1.2.2.2.2
  have hown : s.vm.findClass RX1 = some m.cls := F.1.2.2.2.1
  have hS : va_S A s.heap s.heap [] := va_S.rf
  have hl := lv_entry ([.ref h, .int kd]) (n := 3) (Nat.le_of_ble_eq_true rfl)
  rw [lg_entry_eq]
  generalize (lg_sl ([.ref h, .int kd]) ++ List.replicate (3 - (lg_sl ([.ref h, .int kd])).length) Slot.unset).toArray = ls at hl ⊢
  have hl : lv_has ls 3 [(0, .ref h), (1, .int kd)] := hl
  refine lv_aload_n hx hb dX1_add_0 rfl (lv_at hl 0 rfl) ?_
  refine va_get (D := G.1) (ci := 1) (v := .int 32) (C := RX1) (T := TX1) (N := 5) hx hb hts inX1 hown hK.1 hP 0 rfl rfl 1 (by decide) (hts _ w_118) (fun _ h9 => h9) rfl dX1_add_1 ?_
  refine lv_aload_n hx hb dX1_add_4 rfl (lv_at hl 0 rfl) ?_
  refine va_get (D := G.1) (ci := 1) (v := .ref na) (C := RX1) (T := TX1) (N := 5) hx hb hts inX1 hown hK.1 hP 0 rfl rfl 0 (by decide) (hts _ w_117) (fun _ h9 => h9) rfl dX1_add_5 ?_
  refine va_alen (D := G.1) (v := (nI 32)) hx hb hK.1 hP 1 4 rfl rfl rfl dX1_add_8 ?_
  refine lv_icmp_lt (tgt := 14) hx hb dX1_add_9 (by decide) (fun h => absurd h (by decide : ¬ (32 : Int32) < nI 32)) (fun _ => ?_)
  refine lv_iconst (v := 0) hx hb dX1_add_12 (by decide) ?_
  exact en_i F hS 0 () (by rfl) rfl hP hD (by omega) (by omega) dX1_add_13

def pn_ix (j : Nat) (i : Int32) : Nat := if i < 0 ∨ nI j ≤ i then 0 else i.toNatClampNeg
theorem pn_lt {j : Nat} {i : Int32} (h0 : 0 < j) (hj : j ≤ 32) : pn_ix j i < 32 := by
  unfold pn_ix
  split
  · omega
  · rename_i h
    have h1 : ¬ i < 0 := fun z => h (Or.inl z)
    have h2 : i < nI j := pk_lt_of (fun z => h (Or.inr z))
    have h3 := pk_at_in h1 h2 hj (by decide)
    exact Nat.not_le.mp (fun z => h3 (Or.inr z))
theorem dX1_node_0 : decode cX1_node 0 = .ok (.aload_n 0, 1) := by decide +kernel
theorem dX1_node_1 : decode cX1_node 1 = .ok (.getfield 11, 3) := by decide +kernel
theorem dX1_node_4 : decode cX1_node 4 = .ok (.iload_n 1, 1) := by decide +kernel
theorem dX1_node_5 : decode cX1_node 5 = .ok (.ifCond .lt 11, 3) := by decide +kernel
theorem dX1_node_8 : decode cX1_node 8 = .ok (.iload_n 1, 1) := by decide +kernel
theorem dX1_node_9 : decode cX1_node 9 = .ok (.aload_n 0, 1) := by decide +kernel
theorem dX1_node_10 : decode cX1_node 10 = .ok (.getfield 20, 3) := by decide +kernel
theorem dX1_node_13 : decode cX1_node 13 = .ok (.if_icmp .lt 7, 3) := by decide +kernel
theorem dX1_node_16 : decode cX1_node 16 = .ok (.iconst 0, 1) := by decide +kernel
theorem dX1_node_17 : decode cX1_node 17 = .ok (.goto 4, 3) := by decide +kernel
theorem dX1_node_20 : decode cX1_node 20 = .ok (.iload_n 1, 1) := by decide +kernel
theorem dX1_node_21 : decode cX1_node 21 = .ok (.aaload, 1) := by decide +kernel
theorem dX1_node_22 : decode cX1_node 22 = .ok (.areturn, 1) := by decide +kernel
set_option maxHeartbeats 4000000 in
set_option maxRecDepth 100000 in
theorem c_prog_node (l : Launch) (G : PG) (h na j : Nat) (fi gr : Int32) (aq : Int64) (ad : Nat → Nat) (a : Nat → Nat → Int32) (lo hi : Nat → Int64) (i : Int32) (h0 : 0 < j) (hj : j ≤ 32) : Cr l yX1_node (Cond.code yX1_node cX1_node 2 (some (.object "PatternMatcher$Node")) :: aW) { frames := 0, cells := 0, slots := 0, locals := 0 } G (([(h, .inr (1, [.ref na, .int (nI j), .int fi, .int gr, .long aq])), (na, .inl (G.2 4, 32, .inr (.inr (.inr (.inr (nf ad 32))))))] : va_W) ++ np ad a lo hi 32) [.ref h, .int i] (S := Unit) (fun (_ : Unit) => True) (fun (_ : Unit) (z : Nat) => z = ad (pn_ix j i)) (fun (_ : Unit) => (([(h, .inr (1, [.ref na, .int (nI j), .int fi, .int gr, .long aq])), (na, .inl (G.2 4, 32, .inr (.inr (.inr (.inr (nf ad 32))))))] : va_W) ++ np ad a lo hi 32)) 0 0 := by
  refine ofB (y := yX1_node) (G := G) (cc := cX1_node) (maxL := 2) (ret := (some (.object "PatternMatcher$Node"))) (Qc := fun A => va_Qr (fun (_ : Unit) => True) (oR G A (fun (_ : Unit) => (([(h, .inr (1, [.ref na, .int (nI j), .int fi, .int gr, .long aq])), (na, .inl (G.2 4, 32, .inr (.inr (.inr (.inr (nf ad 32))))))] : va_W) ++ np ad a lo hi 32)) (fun (_ : Unit) (z : Nat) => z = ad (pn_ix j i))) A) (by decide) rfl ?_
  intro p e s m below meth c A F hK hA hP hD
  have hx := F.1.1; have hb := F.1.2.1; have hml := F.1.2.2.1; have hts := F.1.2.2.2.2
  have hown : s.vm.findClass RX1 = some m.cls := F.1.2.2.2.1
  have hS : va_S A s.heap s.heap [] := va_S.rf
  have hl := lv_entry ([.ref h, .int i]) (n := 2) (Nat.le_of_ble_eq_true rfl)
  rw [lg_entry_eq]
  generalize (lg_sl ([.ref h, .int i]) ++ List.replicate (2 - (lg_sl ([.ref h, .int i])).length) Slot.unset).toArray = ls at hl ⊢
  have hl : lv_has ls 2 [(0, .ref h), (1, .int i)] := hl
  refine lv_aload_n hx hb dX1_node_0 rfl (lv_at hl 0 rfl) ?_
  refine va_get (D := G.1) (ci := 1) (v := .ref na) (C := RX1) (T := TX1) (N := 5) hx hb hts inX1 hown hK.1 hP 0 rfl rfl 0 (by decide) (hts _ w_117) (fun _ h9 => h9) rfl dX1_node_1 ?_
  refine lv_iload_n hx hb dX1_node_4 rfl (lv_at hl 1 rfl) ?_
  refine lv_if_lt (tgt := 16) hx hb dX1_node_5 (by decide) (fun h1 => ?_) (fun h1 => ?_)
  ·
    refine lv_iconst (v := 0) hx hb dX1_node_16 (by decide) ?_
    refine lv_goto (tgt := 21) hx hb dX1_node_17 (by decide) ?_
    refine va_aldq (D := G.1) hx hb hK.1 hP 1 4 rfl rfl (vp_in_nI (n := 0) (by decide) (by decide)) dX1_node_21 ?_
    refine tp_v (.ref (ad 0)) rfl ?_
    exact en_r F hS (ad 0) () trivial (congrArg ad (if_pos (Or.inl h1)).symm) hP hD (by omega) (by omega) dX1_node_22
  ·
    refine lv_iload_n hx hb dX1_node_8 rfl (lv_at hl 1 rfl) ?_
    refine lv_aload_n hx hb dX1_node_9 rfl (lv_at hl 0 rfl) ?_
    refine va_get (D := G.1) (ci := 1) (v := .int (nI j)) (C := RX1) (T := TX1) (N := 5) hx hb hts inX1 hown hK.1 hP 0 rfl rfl 1 (by decide) (hts _ w_118) (fun _ h9 => h9) rfl dX1_node_10 ?_
    refine lv_icmp_lt (tgt := 20) hx hb dX1_node_13 (by decide) (fun h2 => ?_) (fun h2 => ?_)
    ·
      refine lv_iload_n hx hb dX1_node_20 rfl (lv_at hl 1 rfl) ?_
      refine va_aldq (D := G.1) hx hb hK.1 hP 1 4 rfl rfl (pk_at_in h1 h2 hj (by decide)) dX1_node_21 ?_
      refine tp_v (.ref (ad i.toNatClampNeg)) (by rw [nf_at (Nat.not_le.mp (fun z => (pk_at_in h1 h2 hj (by decide)) (Or.inr z)))]; rfl) ?_
      exact en_r F hS (ad i.toNatClampNeg) () trivial (congrArg ad (if_neg (fun z => z.elim h1 (fun z => pk_nle h2 z))).symm) hP hD (by omega) (by omega) dX1_node_22
    ·
      refine lv_iconst (v := 0) hx hb dX1_node_16 (by decide) ?_
      refine lv_goto (tgt := 21) hx hb dX1_node_17 (by decide) ?_
      refine va_aldq (D := G.1) hx hb hK.1 hP 1 4 rfl rfl (vp_in_nI (n := 0) (by decide) (by decide)) dX1_node_21 ?_
      refine tp_v (.ref (ad 0)) rfl ?_
      exact en_r F hS (ad 0) () trivial (congrArg ad (if_pos (Or.inr (pk_le_of h2))).symm) hP hD (by omega) (by omega) dX1_node_22
end
section
/-! the constructors of Search and PatternMatcher -/
theorem dX4_init_0 : decode cX4_init 0 = .ok (.aload_n 0, 1) := by decide +kernel
theorem dX4_init_1 : decode cX4_init 1 = .ok (.invokespecial 3, 3) := by decide +kernel
theorem dX4_init_4 : decode cX4_init 4 = .ok (.aload_n 0, 1) := by decide +kernel
theorem dX4_init_5 : decode cX4_init 5 = .ok (.new 9, 3) := by decide +kernel
theorem dX4_init_8 : decode cX4_init 8 = .ok (.dup, 1) := by decide +kernel
theorem dX4_init_9 : decode cX4_init 9 = .ok (.bipush 8, 2) := by decide +kernel
theorem dX4_init_11 : decode cX4_init 11 = .ok (.invokespecial 11, 3) := by decide +kernel
theorem dX4_init_14 : decode cX4_init 14 = .ok (.putfield 14, 3) := by decide +kernel
theorem dX4_init_17 : decode cX4_init 17 = .ok (.aload_n 0, 1) := by decide +kernel
theorem dX4_init_18 : decode cX4_init 18 = .ok (.new 20, 3) := by decide +kernel
theorem dX4_init_21 : decode cX4_init 21 = .ok (.dup, 1) := by decide +kernel
theorem dX4_init_22 : decode cX4_init 22 = .ok (.invokespecial 22, 3) := by decide +kernel
theorem dX4_init_25 : decode cX4_init 25 = .ok (.putfield 23, 3) := by decide +kernel
theorem dX4_init_28 : decode cX4_init 28 = .ok (.aload_n 0, 1) := by decide +kernel
theorem dX4_init_29 : decode cX4_init 29 = .ok (.sipush 256, 3) := by decide +kernel
theorem dX4_init_32 : decode cX4_init 32 = .ok (.newarray .int, 2) := by decide +kernel
theorem dX4_init_34 : decode cX4_init 34 = .ok (.putfield 27, 3) := by decide +kernel
theorem dX4_init_37 : decode cX4_init 37 = .ok (.aload_n 0, 1) := by decide +kernel
theorem dX4_init_38 : decode cX4_init 38 = .ok (.sipush 256, 3) := by decide +kernel
theorem dX4_init_41 : decode cX4_init 41 = .ok (.newarray .long, 2) := by decide +kernel
theorem dX4_init_43 : decode cX4_init 43 = .ok (.putfield 31, 3) := by decide +kernel
theorem dX4_init_46 : decode cX4_init 46 = .ok (.aload_n 0, 1) := by decide +kernel
theorem dX4_init_47 : decode cX4_init 47 = .ok (.sipush 2048, 3) := by decide +kernel
theorem dX4_init_50 : decode cX4_init 50 = .ok (.newarray .long, 2) := by decide +kernel
theorem dX4_init_52 : decode cX4_init 52 = .ok (.putfield 35, 3) := by decide +kernel
theorem dX4_init_55 : decode cX4_init 55 = .ok (.aload_n 0, 1) := by decide +kernel
theorem dX4_init_56 : decode cX4_init 56 = .ok (.sipush 2048, 3) := by decide +kernel
theorem dX4_init_59 : decode cX4_init 59 = .ok (.newarray .long, 2) := by decide +kernel
theorem dX4_init_61 : decode cX4_init 61 = .ok (.putfield 38, 3) := by decide +kernel
theorem dX4_init_64 : decode cX4_init 64 = .ok (.aload_n 0, 1) := by decide +kernel
theorem dX4_init_65 : decode cX4_init 65 = .ok (.bipush 10, 2) := by decide +kernel
theorem dX4_init_67 : decode cX4_init 67 = .ok (.newarray .int, 2) := by decide +kernel
theorem dX4_init_69 : decode cX4_init 69 = .ok (.putfield 41, 3) := by decide +kernel
theorem dX4_init_72 : decode cX4_init 72 = .ok (.return_, 1) := by decide +kernel
set_option maxHeartbeats 4000000 in
set_option maxRecDepth 100000 in
theorem c_search_init (l : Launch) (G : PG) (h : Nat) : Cv l yX4_init (Cond.code yX4_init cX4_init 1 none :: aW) { frames := 3, cells := 41, slots := 5081, locals := 82 } G [(h, .inr (4, [.null, .null, .int 0, .null, .null, .null, .int 0, .null, .null, .int 0, .int 0, .int 0, .long 0]))] [.ref h] (S := (Nat → Nat) × (Nat → Nat)) (fun (_ : (Nat → Nat) × (Nat → Nat)) => True) (fun (u : (Nat → Nat) × (Nat → Nat)) => (([(h, .inr (4, [.ref (u.1 0), .ref (u.1 1), .int 0, .ref (u.1 2), .ref (u.1 3), .ref (u.1 4), .int 0, .ref (u.1 5), .ref (u.1 7), .int 0, .int 0, .int 0, .long 0])), ((u.1 5), .inr (3, [.ref (u.1 6), .int 0])), ((u.1 6), .inl (G.2 2, 8, .inl (fun _ => 0))), ((u.1 7), .inr (1, [.ref (u.1 8), .int 1, .int 0, .int 0, .long 0])), ((u.1 8), .inl (G.2 4, 32, .inr (.inr (.inr (.inr (nf u.2 32)))))), ((u.1 0), .inl (G.2 0, 256, .inl (fun _ => 0))), ((u.1 1), .inl (G.2 1, 256, .inr (.inl (fun _ => 0)))), ((u.1 2), .inl (G.2 1, 2048, .inr (.inl (fun _ => 0)))), ((u.1 3), .inl (G.2 1, 2048, .inr (.inl (fun _ => 0)))), ((u.1 4), .inl (G.2 0, 10, .inl (fun _ => 0)))] : va_W) ++ np u.2 a0 z64 z64 32)) 41 5081 := by
  refine ofB (y := yX4_init) (G := G) (cc := cX4_init) (maxL := 1) (ret := none) (Qc := fun A => va_Qv (fun (_ : (Nat → Nat) × (Nat → Nat)) => True) (oB G A (fun (u : (Nat → Nat) × (Nat → Nat)) => (([(h, .inr (4, [.ref (u.1 0), .ref (u.1 1), .int 0, .ref (u.1 2), .ref (u.1 3), .ref (u.1 4), .int 0, .ref (u.1 5), .ref (u.1 7), .int 0, .int 0, .int 0, .long 0])), ((u.1 5), .inr (3, [.ref (u.1 6), .int 0])), ((u.1 6), .inl (G.2 2, 8, .inl (fun _ => 0))), ((u.1 7), .inr (1, [.ref (u.1 8), .int 1, .int 0, .int 0, .long 0])), ((u.1 8), .inl (G.2 4, 32, .inr (.inr (.inr (.inr (nf u.2 32)))))), ((u.1 0), .inl (G.2 0, 256, .inl (fun _ => 0))), ((u.1 1), .inl (G.2 1, 256, .inr (.inl (fun _ => 0)))), ((u.1 2), .inl (G.2 1, 2048, .inr (.inl (fun _ => 0)))), ((u.1 3), .inl (G.2 1, 2048, .inr (.inl (fun _ => 0)))), ((u.1 4), .inl (G.2 0, 10, .inl (fun _ => 0)))] : va_W) ++ np u.2 a0 z64 z64 32))) A) (by decide) rfl ?_
  intro p e s m below meth c A F hK hA hP hD
  have hx := F.1.1; have hb := F.1.2.1; have hml := F.1.2.2.1; have hts := F.1.2.2.2.2
  have hown : s.vm.findClass RX4 = some m.cls := F.1.2.2.2.1
  have hin : meth.name = "<init>" := F.2.2.2
  have hS : va_S A s.heap s.heap [] := va_S.rf
  have hl := lv_entry ([.ref h]) (n := 1) (Nat.le_of_ble_eq_true rfl)
  rw [lg_entry_eq]
  generalize (lg_sl ([.ref h]) ++ List.replicate (1 - (lg_sl ([.ref h])).length) Slot.unset).toArray = ls at hl ⊢
  have hl : lv_has ls 1 [(0, .ref h)] := hl
  refine lv_aload_n hx hb dX4_init_0 rfl (lv_at hl 0 rfl) ?_
  refine W.objInit hx hb hown (hts _ w_33) (hts _ w_26) (hts _ w_27) rfl (by rw [hml]; exact hl.1) rfl dX4_init_1 (Nat.le_of_ble_eq_true rfl) (Nat.le_of_ble_eq_true rfl) ?_
  refine W.eq (g2 := F0 m 4 ls []) rfl ?_
  refine lv_aload_n hx hb dX4_init_4 rfl (lv_at hl 0 rfl) ?_
  have hqc : 0 + 1 ≤ 41 := by omega
  have hqs : 0 + 2 ≤ 5081 := by omega
  refine va_new (D := G.1) (ci := 3) (fs := [.null, .int 0]) (C := RX3) (T := TX3) (N := 2) hx hb hts inX3 tyX3 tyX3_ok hown (hts _ w_34) (hts _ w_35) (hts _ w_3) hK.1 hP hD hS hA rfl (by decide +kernel) hqc hqs dX4_init_5 (fun q1 H hP hD hS => ?_)
  have hP : va_P G.1 vwCl [(h, .inr (4, [.null, .null, .int 0, .null, .null, .null, .int 0, .null, .null, .int 0, .int 0, .int 0, .long 0])), (q1, .inr (3, [.null, .int 0]))] H := hP
  have hD : va_D A [(h, .inr (4, [.null, .null, .int 0, .null, .null, .null, .int 0, .null, .null, .int 0, .int 0, .int 0, .long 0])), (q1, .inr (3, [.null, .int 0]))] := hD
  refine W.widen (k := 1) (n := 2) (by omega) (by omega) ?_
  refine lv_dup hx hb dX4_init_8 rfl ?_
  refine lv_bipush (v := 8) hx hb dX4_init_9 (by decide) ?_
  have hPc := hP.sub (ws' := [(q1, .inr (3, [.null, .int 0]))]) [1] rfl
  have hDc := hD.sub (ws' := [(q1, .inr (3, [.null, .int 0]))]) [1] (by decide) rfl
  have hqc : 1 + 1 ≤ 41 ∧ 2 + 8 ≤ 5081 := ⟨by omega, by omega⟩
  refine kl_v (wr := [(h, .inr (4, [.null, .null, .int 0, .null, .null, .null, .int 0, .null, .null, .int 0, .int 0, .int 0, .long 0]))]) (va_runI (As := [.int 8]) (rest := [.ref q1, .ref h]) F.1 (c_row_init l G _ 8 (by decide) _) (cwI 1 hts (aw_G w_38) rfl rfl rfl (hts _ w_3) (hts _ w_36) (hts _ w_37) rfl (by decide +kernel) ⟨by decide, by decide⟩) ⟨cS_blind, cS_pre hPc hDc hK⟩ rfl rfl hl.1 rfl (lv_room (Nat.le_of_ble_eq_true rfl)) dX4_init_11 hqc) hP hD hS hA [1] [0] rfl rfl (by decide) (by decide) (fun tc H locs hp hP hD hS => ?_)
  have hP : va_P G.1 vwCl [(h, .inr (4, [.null, .null, .int 0, .null, .null, .null, .int 0, .null, .null, .int 0, .int 0, .int 0, .long 0])), (q1, .inr (3, [.ref tc, .int 0])), (tc, .inl (G.2 2, 8, .inl (fun _ => 0)))] H := hP
  have hD : va_D A [(h, .inr (4, [.null, .null, .int 0, .null, .null, .null, .int 0, .null, .null, .int 0, .int 0, .int 0, .long 0])), (q1, .inr (3, [.ref tc, .int 0])), (tc, .inl (G.2 2, 8, .inl (fun _ => 0)))] := hD
  refine va_putF (D := G.1) (ci := 4) (v := .ref q1) (ty := .object "PatternMatcher$Row") (C := RX4) (T := TX4) (N := 13) hx hb hts inX4 tyX4 tyX4_ok nmX4 hown hK.1 hP hD hS 0 rfl rfl 7 (by decide) (hts _ w_146) (fun _ h9 => h9) rfl hin rfl (by decide +kernel) rfl rfl (Nat.le_of_ble_eq_true rfl) dX4_init_14 (fun H locs hP hD hS => ?_)
  have hP : va_P G.1 vwCl [(h, .inr (4, [.null, .null, .int 0, .null, .null, .null, .int 0, .ref q1, .null, .int 0, .int 0, .int 0, .long 0])), (q1, .inr (3, [.ref tc, .int 0])), (tc, .inl (G.2 2, 8, .inl (fun _ => 0)))] H := hP
  have hD : va_D A [(h, .inr (4, [.null, .null, .int 0, .null, .null, .null, .int 0, .ref q1, .null, .int 0, .int 0, .int 0, .long 0])), (q1, .inr (3, [.ref tc, .int 0])), (tc, .inl (G.2 2, 8, .inl (fun _ => 0)))] := hD
  refine lv_aload_n hx hb dX4_init_17 rfl (lv_at hl 0 rfl) ?_
  have hqc : 2 + 1 ≤ 41 := by omega
  have hqs : 10 + 5 ≤ 5081 := by omega
  refine va_new (D := G.1) (ci := 1) (fs := [.null, .int 0, .int 0, .int 0, .long 0]) (C := RX1) (T := TX1) (N := 5) hx hb hts inX1 tyX1 tyX1_ok hown (hts _ w_48) (hts _ w_49) (hts _ w_4) hK.1 hP hD hS hA rfl (by decide +kernel) hqc hqs dX4_init_18 (fun q2 H hP hD hS => ?_)
  have hP : va_P G.1 vwCl [(h, .inr (4, [.null, .null, .int 0, .null, .null, .null, .int 0, .ref q1, .null, .int 0, .int 0, .int 0, .long 0])), (q1, .inr (3, [.ref tc, .int 0])), (tc, .inl (G.2 2, 8, .inl (fun _ => 0))), (q2, .inr (1, [.null, .int 0, .int 0, .int 0, .long 0]))] H := hP
  have hD : va_D A [(h, .inr (4, [.null, .null, .int 0, .null, .null, .null, .int 0, .ref q1, .null, .int 0, .int 0, .int 0, .long 0])), (q1, .inr (3, [.ref tc, .int 0])), (tc, .inl (G.2 2, 8, .inl (fun _ => 0))), (q2, .inr (1, [.null, .int 0, .int 0, .int 0, .long 0]))] := hD
  refine W.widen (k := 3) (n := 15) (by omega) (by omega) ?_
  refine lv_dup hx hb dX4_init_21 rfl ?_
  have hPc := hP.sub (ws' := [(q2, .inr (1, [.null, .int 0, .int 0, .int 0, .long 0]))]) [3] rfl
  have hDc := hD.sub (ws' := [(q2, .inr (1, [.null, .int 0, .int 0, .int 0, .long 0]))]) [3] (by decide) rfl
  have hqc : 3 + 33 ≤ 41 ∧ 15 + 448 ≤ 5081 := ⟨by omega, by omega⟩
  refine kl_v (wr := [(h, .inr (4, [.null, .null, .int 0, .null, .null, .null, .int 0, .ref q1, .null, .int 0, .int 0, .int 0, .long 0])), (q1, .inr (3, [.ref tc, .int 0])), (tc, .inl (G.2 2, 8, .inl (fun _ => 0)))]) (va_runI (As := []) (rest := [.ref q2, .ref h]) F.1 (c_prog_init l G _ _) (cwI 0 hts (aw_G w_52) rfl rfl rfl (hts _ w_4) (hts _ w_50) (hts _ w_51) rfl (by decide +kernel) ⟨by decide, by decide⟩) ⟨cS_blind, cS_pre hPc hDc hK⟩ rfl rfl hl.1 rfl (lv_room (Nat.le_of_ble_eq_true rfl)) dX4_init_22 hqc) hP hD hS hA [3] [0, 1, 2] rfl rfl (by decide) (by decide) (fun pu H locs hp hP hD hS => ?_)
  have hP : va_P G.1 vwCl (([(h, .inr (4, [.null, .null, .int 0, .null, .null, .null, .int 0, .ref q1, .null, .int 0, .int 0, .int 0, .long 0])), (q1, .inr (3, [.ref tc, .int 0])), (tc, .inl (G.2 2, 8, .inl (fun _ => 0))), (q2, .inr (1, [.ref pu.1, .int 1, .int 0, .int 0, .long 0])), (pu.1, .inl (G.2 4, 32, .inr (.inr (.inr (.inr (nf pu.2 32))))))] : va_W) ++ np pu.2 a0 z64 z64 32) H := hP
  have hD : va_D A (([(h, .inr (4, [.null, .null, .int 0, .null, .null, .null, .int 0, .ref q1, .null, .int 0, .int 0, .int 0, .long 0])), (q1, .inr (3, [.ref tc, .int 0])), (tc, .inl (G.2 2, 8, .inl (fun _ => 0))), (q2, .inr (1, [.ref pu.1, .int 1, .int 0, .int 0, .long 0])), (pu.1, .inl (G.2 4, 32, .inr (.inr (.inr (.inr (nf pu.2 32))))))] : va_W) ++ np pu.2 a0 z64 z64 32) := hD
  refine va_put (D := G.1) (ci := 4) (v := .ref q2) (ty := .object "PatternMatcher$Program") (C := RX4) (T := TX4) (N := 13) hx hb hts inX4 tyX4 tyX4_ok nmX4 hown hK.1 hP hD hS 0 rfl rfl 8 (by decide) (hts _ w_148) (fun _ h9 => h9) rfl (by decide +kernel) rfl rfl (Nat.le_of_ble_eq_true rfl) dX4_init_25 (fun H locs hP hD hS => ?_)
  have hP : va_P G.1 vwCl (([(h, .inr (4, [.null, .null, .int 0, .null, .null, .null, .int 0, .ref q1, .ref q2, .int 0, .int 0, .int 0, .long 0])), (q1, .inr (3, [.ref tc, .int 0])), (tc, .inl (G.2 2, 8, .inl (fun _ => 0))), (q2, .inr (1, [.ref pu.1, .int 1, .int 0, .int 0, .long 0])), (pu.1, .inl (G.2 4, 32, .inr (.inr (.inr (.inr (nf pu.2 32))))))] : va_W) ++ np pu.2 a0 z64 z64 32) H := hP
  have hD : va_D A (([(h, .inr (4, [.null, .null, .int 0, .null, .null, .null, .int 0, .ref q1, .ref q2, .int 0, .int 0, .int 0, .long 0])), (q1, .inr (3, [.ref tc, .int 0])), (tc, .inl (G.2 2, 8, .inl (fun _ => 0))), (q2, .inr (1, [.ref pu.1, .int 1, .int 0, .int 0, .long 0])), (pu.1, .inl (G.2 4, 32, .inr (.inr (.inr (.inr (nf pu.2 32))))))] : va_W) ++ np pu.2 a0 z64 z64 32) := hD
  refine lv_aload_n hx hb dX4_init_28 rfl (lv_at hl 0 rfl) ?_
  refine lv_sipush (v := 256) hx hb dX4_init_29 (by decide) ?_
  have hqc : 36 + 1 ≤ 41 := by omega
  have hqs : 463 + 256 ≤ 5081 := by omega
  refine pg_newa (atype := .int) (i := 0) (ty := .int) (N' := 256) (a0 := (256, .inl (fun _ => 0))) hx hb (hts _ w_183) rfl hK rfl hP hD hS hA (fun _ => rfl) (by decide) (by decide) (by decide) hqc hqs dX4_init_32 (fun qa H hP hD hS => ?_)
  have hP : va_P G.1 vwCl ((([(h, .inr (4, [.null, .null, .int 0, .null, .null, .null, .int 0, .ref q1, .ref q2, .int 0, .int 0, .int 0, .long 0])), (q1, .inr (3, [.ref tc, .int 0])), (tc, .inl (G.2 2, 8, .inl (fun _ => 0))), (q2, .inr (1, [.ref pu.1, .int 1, .int 0, .int 0, .long 0])), (pu.1, .inl (G.2 4, 32, .inr (.inr (.inr (.inr (nf pu.2 32))))))] : va_W) ++ np pu.2 a0 z64 z64 32) ++ [(qa, .inl (G.2 0, 256, .inl (fun _ => 0)))]) H := hP
  have hD : va_D A ((([(h, .inr (4, [.null, .null, .int 0, .null, .null, .null, .int 0, .ref q1, .ref q2, .int 0, .int 0, .int 0, .long 0])), (q1, .inr (3, [.ref tc, .int 0])), (tc, .inl (G.2 2, 8, .inl (fun _ => 0))), (q2, .inr (1, [.ref pu.1, .int 1, .int 0, .int 0, .long 0])), (pu.1, .inl (G.2 4, 32, .inr (.inr (.inr (.inr (nf pu.2 32))))))] : va_W) ++ np pu.2 a0 z64 z64 32) ++ [(qa, .inl (G.2 0, 256, .inl (fun _ => 0)))]) := hD
  have hP := hP.swap; have hD := hD.swap
  have hP : va_P G.1 vwCl (([(h, .inr (4, [.null, .null, .int 0, .null, .null, .null, .int 0, .ref q1, .ref q2, .int 0, .int 0, .int 0, .long 0])), (q1, .inr (3, [.ref tc, .int 0])), (tc, .inl (G.2 2, 8, .inl (fun _ => 0))), (q2, .inr (1, [.ref pu.1, .int 1, .int 0, .int 0, .long 0])), (pu.1, .inl (G.2 4, 32, .inr (.inr (.inr (.inr (nf pu.2 32)))))), (qa, .inl (G.2 0, 256, .inl (fun _ => 0)))] : va_W) ++ np pu.2 a0 z64 z64 32) H := hP
  have hD : va_D A (([(h, .inr (4, [.null, .null, .int 0, .null, .null, .null, .int 0, .ref q1, .ref q2, .int 0, .int 0, .int 0, .long 0])), (q1, .inr (3, [.ref tc, .int 0])), (tc, .inl (G.2 2, 8, .inl (fun _ => 0))), (q2, .inr (1, [.ref pu.1, .int 1, .int 0, .int 0, .long 0])), (pu.1, .inl (G.2 4, 32, .inr (.inr (.inr (.inr (nf pu.2 32)))))), (qa, .inl (G.2 0, 256, .inl (fun _ => 0)))] : va_W) ++ np pu.2 a0 z64 z64 32) := hD
  refine W.widen (k := 37) (n := 719) (by omega) (by omega) ?_
  refine va_putF (D := G.1) (ci := 4) (v := .ref qa) (ty := .array .int) (C := RX4) (T := TX4) (N := 13) hx hb hts inX4 tyX4 tyX4_ok nmX4 hown hK.1 hP hD hS 0 rfl rfl 0 (by decide) (hts _ w_139) (fun _ h9 => h9) rfl hin rfl (by decide +kernel) rfl rfl (Nat.le_of_ble_eq_true rfl) dX4_init_34 (fun H locs hP hD hS => ?_)
  have hP : va_P G.1 vwCl (([(h, .inr (4, [.ref qa, .null, .int 0, .null, .null, .null, .int 0, .ref q1, .ref q2, .int 0, .int 0, .int 0, .long 0])), (q1, .inr (3, [.ref tc, .int 0])), (tc, .inl (G.2 2, 8, .inl (fun _ => 0))), (q2, .inr (1, [.ref pu.1, .int 1, .int 0, .int 0, .long 0])), (pu.1, .inl (G.2 4, 32, .inr (.inr (.inr (.inr (nf pu.2 32)))))), (qa, .inl (G.2 0, 256, .inl (fun _ => 0)))] : va_W) ++ np pu.2 a0 z64 z64 32) H := hP
  have hD : va_D A (([(h, .inr (4, [.ref qa, .null, .int 0, .null, .null, .null, .int 0, .ref q1, .ref q2, .int 0, .int 0, .int 0, .long 0])), (q1, .inr (3, [.ref tc, .int 0])), (tc, .inl (G.2 2, 8, .inl (fun _ => 0))), (q2, .inr (1, [.ref pu.1, .int 1, .int 0, .int 0, .long 0])), (pu.1, .inl (G.2 4, 32, .inr (.inr (.inr (.inr (nf pu.2 32)))))), (qa, .inl (G.2 0, 256, .inl (fun _ => 0)))] : va_W) ++ np pu.2 a0 z64 z64 32) := hD
  refine lv_aload_n hx hb dX4_init_37 rfl (lv_at hl 0 rfl) ?_
  refine lv_sipush (v := 256) hx hb dX4_init_38 (by decide) ?_
  have hqc : 37 + 1 ≤ 41 := by omega
  have hqs : 719 + 256 ≤ 5081 := by omega
  refine pg_newa (atype := .long) (i := 1) (ty := .long) (N' := 256) (a0 := (256, .inr (.inl (fun _ => 0)))) hx hb (hts _ w_184) rfl hK rfl hP hD hS hA (fun _ => rfl) (by decide) (by decide) (by decide) hqc hqs dX4_init_41 (fun qb H hP hD hS => ?_)
  have hP : va_P G.1 vwCl ((([(h, .inr (4, [.ref qa, .null, .int 0, .null, .null, .null, .int 0, .ref q1, .ref q2, .int 0, .int 0, .int 0, .long 0])), (q1, .inr (3, [.ref tc, .int 0])), (tc, .inl (G.2 2, 8, .inl (fun _ => 0))), (q2, .inr (1, [.ref pu.1, .int 1, .int 0, .int 0, .long 0])), (pu.1, .inl (G.2 4, 32, .inr (.inr (.inr (.inr (nf pu.2 32)))))), (qa, .inl (G.2 0, 256, .inl (fun _ => 0)))] : va_W) ++ np pu.2 a0 z64 z64 32) ++ [(qb, .inl (G.2 1, 256, .inr (.inl (fun _ => 0))))]) H := hP
  have hD : va_D A ((([(h, .inr (4, [.ref qa, .null, .int 0, .null, .null, .null, .int 0, .ref q1, .ref q2, .int 0, .int 0, .int 0, .long 0])), (q1, .inr (3, [.ref tc, .int 0])), (tc, .inl (G.2 2, 8, .inl (fun _ => 0))), (q2, .inr (1, [.ref pu.1, .int 1, .int 0, .int 0, .long 0])), (pu.1, .inl (G.2 4, 32, .inr (.inr (.inr (.inr (nf pu.2 32)))))), (qa, .inl (G.2 0, 256, .inl (fun _ => 0)))] : va_W) ++ np pu.2 a0 z64 z64 32) ++ [(qb, .inl (G.2 1, 256, .inr (.inl (fun _ => 0))))]) := hD
  have hP := hP.swap; have hD := hD.swap
  have hP : va_P G.1 vwCl (([(h, .inr (4, [.ref qa, .null, .int 0, .null, .null, .null, .int 0, .ref q1, .ref q2, .int 0, .int 0, .int 0, .long 0])), (q1, .inr (3, [.ref tc, .int 0])), (tc, .inl (G.2 2, 8, .inl (fun _ => 0))), (q2, .inr (1, [.ref pu.1, .int 1, .int 0, .int 0, .long 0])), (pu.1, .inl (G.2 4, 32, .inr (.inr (.inr (.inr (nf pu.2 32)))))), (qa, .inl (G.2 0, 256, .inl (fun _ => 0))), (qb, .inl (G.2 1, 256, .inr (.inl (fun _ => 0))))] : va_W) ++ np pu.2 a0 z64 z64 32) H := hP
  have hD : va_D A (([(h, .inr (4, [.ref qa, .null, .int 0, .null, .null, .null, .int 0, .ref q1, .ref q2, .int 0, .int 0, .int 0, .long 0])), (q1, .inr (3, [.ref tc, .int 0])), (tc, .inl (G.2 2, 8, .inl (fun _ => 0))), (q2, .inr (1, [.ref pu.1, .int 1, .int 0, .int 0, .long 0])), (pu.1, .inl (G.2 4, 32, .inr (.inr (.inr (.inr (nf pu.2 32)))))), (qa, .inl (G.2 0, 256, .inl (fun _ => 0))), (qb, .inl (G.2 1, 256, .inr (.inl (fun _ => 0))))] : va_W) ++ np pu.2 a0 z64 z64 32) := hD
  refine W.widen (k := 38) (n := 975) (by omega) (by omega) ?_
  refine va_putF (D := G.1) (ci := 4) (v := .ref qb) (ty := .array .long) (C := RX4) (T := TX4) (N := 13) hx hb hts inX4 tyX4 tyX4_ok nmX4 hown hK.1 hP hD hS 0 rfl rfl 1 (by decide) (hts _ w_140) (fun _ h9 => h9) rfl hin rfl (by decide +kernel) rfl rfl (Nat.le_of_ble_eq_true rfl) dX4_init_43 (fun H locs hP hD hS => ?_)
  have hP : va_P G.1 vwCl (([(h, .inr (4, [.ref qa, .ref qb, .int 0, .null, .null, .null, .int 0, .ref q1, .ref q2, .int 0, .int 0, .int 0, .long 0])), (q1, .inr (3, [.ref tc, .int 0])), (tc, .inl (G.2 2, 8, .inl (fun _ => 0))), (q2, .inr (1, [.ref pu.1, .int 1, .int 0, .int 0, .long 0])), (pu.1, .inl (G.2 4, 32, .inr (.inr (.inr (.inr (nf pu.2 32)))))), (qa, .inl (G.2 0, 256, .inl (fun _ => 0))), (qb, .inl (G.2 1, 256, .inr (.inl (fun _ => 0))))] : va_W) ++ np pu.2 a0 z64 z64 32) H := hP
  have hD : va_D A (([(h, .inr (4, [.ref qa, .ref qb, .int 0, .null, .null, .null, .int 0, .ref q1, .ref q2, .int 0, .int 0, .int 0, .long 0])), (q1, .inr (3, [.ref tc, .int 0])), (tc, .inl (G.2 2, 8, .inl (fun _ => 0))), (q2, .inr (1, [.ref pu.1, .int 1, .int 0, .int 0, .long 0])), (pu.1, .inl (G.2 4, 32, .inr (.inr (.inr (.inr (nf pu.2 32)))))), (qa, .inl (G.2 0, 256, .inl (fun _ => 0))), (qb, .inl (G.2 1, 256, .inr (.inl (fun _ => 0))))] : va_W) ++ np pu.2 a0 z64 z64 32) := hD
  refine lv_aload_n hx hb dX4_init_46 rfl (lv_at hl 0 rfl) ?_
  refine lv_sipush (v := 2048) hx hb dX4_init_47 (by decide) ?_
  have hqc : 38 + 1 ≤ 41 := by omega
  have hqs : 975 + 2048 ≤ 5081 := by omega
  refine pg_newa (atype := .long) (i := 1) (ty := .long) (N' := 2048) (a0 := (2048, .inr (.inl (fun _ => 0)))) hx hb (hts _ w_184) rfl hK rfl hP hD hS hA (fun _ => rfl) (by decide) (by decide) (by decide) hqc hqs dX4_init_50 (fun qc H hP hD hS => ?_)
  have hP : va_P G.1 vwCl ((([(h, .inr (4, [.ref qa, .ref qb, .int 0, .null, .null, .null, .int 0, .ref q1, .ref q2, .int 0, .int 0, .int 0, .long 0])), (q1, .inr (3, [.ref tc, .int 0])), (tc, .inl (G.2 2, 8, .inl (fun _ => 0))), (q2, .inr (1, [.ref pu.1, .int 1, .int 0, .int 0, .long 0])), (pu.1, .inl (G.2 4, 32, .inr (.inr (.inr (.inr (nf pu.2 32)))))), (qa, .inl (G.2 0, 256, .inl (fun _ => 0))), (qb, .inl (G.2 1, 256, .inr (.inl (fun _ => 0))))] : va_W) ++ np pu.2 a0 z64 z64 32) ++ [(qc, .inl (G.2 1, 2048, .inr (.inl (fun _ => 0))))]) H := hP
  have hD : va_D A ((([(h, .inr (4, [.ref qa, .ref qb, .int 0, .null, .null, .null, .int 0, .ref q1, .ref q2, .int 0, .int 0, .int 0, .long 0])), (q1, .inr (3, [.ref tc, .int 0])), (tc, .inl (G.2 2, 8, .inl (fun _ => 0))), (q2, .inr (1, [.ref pu.1, .int 1, .int 0, .int 0, .long 0])), (pu.1, .inl (G.2 4, 32, .inr (.inr (.inr (.inr (nf pu.2 32)))))), (qa, .inl (G.2 0, 256, .inl (fun _ => 0))), (qb, .inl (G.2 1, 256, .inr (.inl (fun _ => 0))))] : va_W) ++ np pu.2 a0 z64 z64 32) ++ [(qc, .inl (G.2 1, 2048, .inr (.inl (fun _ => 0))))]) := hD
  have hP := hP.swap; have hD := hD.swap
  have hP : va_P G.1 vwCl (([(h, .inr (4, [.ref qa, .ref qb, .int 0, .null, .null, .null, .int 0, .ref q1, .ref q2, .int 0, .int 0, .int 0, .long 0])), (q1, .inr (3, [.ref tc, .int 0])), (tc, .inl (G.2 2, 8, .inl (fun _ => 0))), (q2, .inr (1, [.ref pu.1, .int 1, .int 0, .int 0, .long 0])), (pu.1, .inl (G.2 4, 32, .inr (.inr (.inr (.inr (nf pu.2 32)))))), (qa, .inl (G.2 0, 256, .inl (fun _ => 0))), (qb, .inl (G.2 1, 256, .inr (.inl (fun _ => 0)))), (qc, .inl (G.2 1, 2048, .inr (.inl (fun _ => 0))))] : va_W) ++ np pu.2 a0 z64 z64 32) H := hP
  have hD : va_D A (([(h, .inr (4, [.ref qa, .ref qb, .int 0, .null, .null, .null, .int 0, .ref q1, .ref q2, .int 0, .int 0, .int 0, .long 0])), (q1, .inr (3, [.ref tc, .int 0])), (tc, .inl (G.2 2, 8, .inl (fun _ => 0))), (q2, .inr (1, [.ref pu.1, .int 1, .int 0, .int 0, .long 0])), (pu.1, .inl (G.2 4, 32, .inr (.inr (.inr (.inr (nf pu.2 32)))))), (qa, .inl (G.2 0, 256, .inl (fun _ => 0))), (qb, .inl (G.2 1, 256, .inr (.inl (fun _ => 0)))), (qc, .inl (G.2 1, 2048, .inr (.inl (fun _ => 0))))] : va_W) ++ np pu.2 a0 z64 z64 32) := hD
  refine W.widen (k := 39) (n := 3023) (by omega) (by omega) ?_
  refine va_putF (D := G.1) (ci := 4) (v := .ref qc) (ty := .array .long) (C := RX4) (T := TX4) (N := 13) hx hb hts inX4 tyX4 tyX4_ok nmX4 hown hK.1 hP hD hS 0 rfl rfl 3 (by decide) (hts _ w_142) (fun _ h9 => h9) rfl hin rfl (by decide +kernel) rfl rfl (Nat.le_of_ble_eq_true rfl) dX4_init_52 (fun H locs hP hD hS => ?_)
  have hP : va_P G.1 vwCl (([(h, .inr (4, [.ref qa, .ref qb, .int 0, .ref qc, .null, .null, .int 0, .ref q1, .ref q2, .int 0, .int 0, .int 0, .long 0])), (q1, .inr (3, [.ref tc, .int 0])), (tc, .inl (G.2 2, 8, .inl (fun _ => 0))), (q2, .inr (1, [.ref pu.1, .int 1, .int 0, .int 0, .long 0])), (pu.1, .inl (G.2 4, 32, .inr (.inr (.inr (.inr (nf pu.2 32)))))), (qa, .inl (G.2 0, 256, .inl (fun _ => 0))), (qb, .inl (G.2 1, 256, .inr (.inl (fun _ => 0)))), (qc, .inl (G.2 1, 2048, .inr (.inl (fun _ => 0))))] : va_W) ++ np pu.2 a0 z64 z64 32) H := hP
  have hD : va_D A (([(h, .inr (4, [.ref qa, .ref qb, .int 0, .ref qc, .null, .null, .int 0, .ref q1, .ref q2, .int 0, .int 0, .int 0, .long 0])), (q1, .inr (3, [.ref tc, .int 0])), (tc, .inl (G.2 2, 8, .inl (fun _ => 0))), (q2, .inr (1, [.ref pu.1, .int 1, .int 0, .int 0, .long 0])), (pu.1, .inl (G.2 4, 32, .inr (.inr (.inr (.inr (nf pu.2 32)))))), (qa, .inl (G.2 0, 256, .inl (fun _ => 0))), (qb, .inl (G.2 1, 256, .inr (.inl (fun _ => 0)))), (qc, .inl (G.2 1, 2048, .inr (.inl (fun _ => 0))))] : va_W) ++ np pu.2 a0 z64 z64 32) := hD
  refine lv_aload_n hx hb dX4_init_55 rfl (lv_at hl 0 rfl) ?_
  refine lv_sipush (v := 2048) hx hb dX4_init_56 (by decide) ?_
  have hqc : 39 + 1 ≤ 41 := by omega
  have hqs : 3023 + 2048 ≤ 5081 := by omega
  refine pg_newa (atype := .long) (i := 1) (ty := .long) (N' := 2048) (a0 := (2048, .inr (.inl (fun _ => 0)))) hx hb (hts _ w_184) rfl hK rfl hP hD hS hA (fun _ => rfl) (by decide) (by decide) (by decide) hqc hqs dX4_init_59 (fun qd H hP hD hS => ?_)
  have hP : va_P G.1 vwCl ((([(h, .inr (4, [.ref qa, .ref qb, .int 0, .ref qc, .null, .null, .int 0, .ref q1, .ref q2, .int 0, .int 0, .int 0, .long 0])), (q1, .inr (3, [.ref tc, .int 0])), (tc, .inl (G.2 2, 8, .inl (fun _ => 0))), (q2, .inr (1, [.ref pu.1, .int 1, .int 0, .int 0, .long 0])), (pu.1, .inl (G.2 4, 32, .inr (.inr (.inr (.inr (nf pu.2 32)))))), (qa, .inl (G.2 0, 256, .inl (fun _ => 0))), (qb, .inl (G.2 1, 256, .inr (.inl (fun _ => 0)))), (qc, .inl (G.2 1, 2048, .inr (.inl (fun _ => 0))))] : va_W) ++ np pu.2 a0 z64 z64 32) ++ [(qd, .inl (G.2 1, 2048, .inr (.inl (fun _ => 0))))]) H := hP
  have hD : va_D A ((([(h, .inr (4, [.ref qa, .ref qb, .int 0, .ref qc, .null, .null, .int 0, .ref q1, .ref q2, .int 0, .int 0, .int 0, .long 0])), (q1, .inr (3, [.ref tc, .int 0])), (tc, .inl (G.2 2, 8, .inl (fun _ => 0))), (q2, .inr (1, [.ref pu.1, .int 1, .int 0, .int 0, .long 0])), (pu.1, .inl (G.2 4, 32, .inr (.inr (.inr (.inr (nf pu.2 32)))))), (qa, .inl (G.2 0, 256, .inl (fun _ => 0))), (qb, .inl (G.2 1, 256, .inr (.inl (fun _ => 0)))), (qc, .inl (G.2 1, 2048, .inr (.inl (fun _ => 0))))] : va_W) ++ np pu.2 a0 z64 z64 32) ++ [(qd, .inl (G.2 1, 2048, .inr (.inl (fun _ => 0))))]) := hD
  have hP := hP.swap; have hD := hD.swap
  have hP : va_P G.1 vwCl (([(h, .inr (4, [.ref qa, .ref qb, .int 0, .ref qc, .null, .null, .int 0, .ref q1, .ref q2, .int 0, .int 0, .int 0, .long 0])), (q1, .inr (3, [.ref tc, .int 0])), (tc, .inl (G.2 2, 8, .inl (fun _ => 0))), (q2, .inr (1, [.ref pu.1, .int 1, .int 0, .int 0, .long 0])), (pu.1, .inl (G.2 4, 32, .inr (.inr (.inr (.inr (nf pu.2 32)))))), (qa, .inl (G.2 0, 256, .inl (fun _ => 0))), (qb, .inl (G.2 1, 256, .inr (.inl (fun _ => 0)))), (qc, .inl (G.2 1, 2048, .inr (.inl (fun _ => 0)))), (qd, .inl (G.2 1, 2048, .inr (.inl (fun _ => 0))))] : va_W) ++ np pu.2 a0 z64 z64 32) H := hP
  have hD : va_D A (([(h, .inr (4, [.ref qa, .ref qb, .int 0, .ref qc, .null, .null, .int 0, .ref q1, .ref q2, .int 0, .int 0, .int 0, .long 0])), (q1, .inr (3, [.ref tc, .int 0])), (tc, .inl (G.2 2, 8, .inl (fun _ => 0))), (q2, .inr (1, [.ref pu.1, .int 1, .int 0, .int 0, .long 0])), (pu.1, .inl (G.2 4, 32, .inr (.inr (.inr (.inr (nf pu.2 32)))))), (qa, .inl (G.2 0, 256, .inl (fun _ => 0))), (qb, .inl (G.2 1, 256, .inr (.inl (fun _ => 0)))), (qc, .inl (G.2 1, 2048, .inr (.inl (fun _ => 0)))), (qd, .inl (G.2 1, 2048, .inr (.inl (fun _ => 0))))] : va_W) ++ np pu.2 a0 z64 z64 32) := hD
  refine W.widen (k := 40) (n := 5071) (by omega) (by omega) ?_
  refine va_putF (D := G.1) (ci := 4) (v := .ref qd) (ty := .array .long) (C := RX4) (T := TX4) (N := 13) hx hb hts inX4 tyX4 tyX4_ok nmX4 hown hK.1 hP hD hS 0 rfl rfl 4 (by decide) (hts _ w_143) (fun _ h9 => h9) rfl hin rfl (by decide +kernel) rfl rfl (Nat.le_of_ble_eq_true rfl) dX4_init_61 (fun H locs hP hD hS => ?_)
  have hP : va_P G.1 vwCl (([(h, .inr (4, [.ref qa, .ref qb, .int 0, .ref qc, .ref qd, .null, .int 0, .ref q1, .ref q2, .int 0, .int 0, .int 0, .long 0])), (q1, .inr (3, [.ref tc, .int 0])), (tc, .inl (G.2 2, 8, .inl (fun _ => 0))), (q2, .inr (1, [.ref pu.1, .int 1, .int 0, .int 0, .long 0])), (pu.1, .inl (G.2 4, 32, .inr (.inr (.inr (.inr (nf pu.2 32)))))), (qa, .inl (G.2 0, 256, .inl (fun _ => 0))), (qb, .inl (G.2 1, 256, .inr (.inl (fun _ => 0)))), (qc, .inl (G.2 1, 2048, .inr (.inl (fun _ => 0)))), (qd, .inl (G.2 1, 2048, .inr (.inl (fun _ => 0))))] : va_W) ++ np pu.2 a0 z64 z64 32) H := hP
  have hD : va_D A (([(h, .inr (4, [.ref qa, .ref qb, .int 0, .ref qc, .ref qd, .null, .int 0, .ref q1, .ref q2, .int 0, .int 0, .int 0, .long 0])), (q1, .inr (3, [.ref tc, .int 0])), (tc, .inl (G.2 2, 8, .inl (fun _ => 0))), (q2, .inr (1, [.ref pu.1, .int 1, .int 0, .int 0, .long 0])), (pu.1, .inl (G.2 4, 32, .inr (.inr (.inr (.inr (nf pu.2 32)))))), (qa, .inl (G.2 0, 256, .inl (fun _ => 0))), (qb, .inl (G.2 1, 256, .inr (.inl (fun _ => 0)))), (qc, .inl (G.2 1, 2048, .inr (.inl (fun _ => 0)))), (qd, .inl (G.2 1, 2048, .inr (.inl (fun _ => 0))))] : va_W) ++ np pu.2 a0 z64 z64 32) := hD
  refine lv_aload_n hx hb dX4_init_64 rfl (lv_at hl 0 rfl) ?_
  refine lv_bipush (v := 10) hx hb dX4_init_65 (by decide) ?_
  have hqc : 40 + 1 ≤ 41 := by omega
  have hqs : 5071 + 10 ≤ 5081 := by omega
  refine pg_newa (atype := .int) (i := 0) (ty := .int) (N' := 10) (a0 := (10, .inl (fun _ => 0))) hx hb (hts _ w_183) rfl hK rfl hP hD hS hA (fun _ => rfl) (by decide) (by decide) (by decide) hqc hqs dX4_init_67 (fun qe H hP hD hS => ?_)
  have hP : va_P G.1 vwCl ((([(h, .inr (4, [.ref qa, .ref qb, .int 0, .ref qc, .ref qd, .null, .int 0, .ref q1, .ref q2, .int 0, .int 0, .int 0, .long 0])), (q1, .inr (3, [.ref tc, .int 0])), (tc, .inl (G.2 2, 8, .inl (fun _ => 0))), (q2, .inr (1, [.ref pu.1, .int 1, .int 0, .int 0, .long 0])), (pu.1, .inl (G.2 4, 32, .inr (.inr (.inr (.inr (nf pu.2 32)))))), (qa, .inl (G.2 0, 256, .inl (fun _ => 0))), (qb, .inl (G.2 1, 256, .inr (.inl (fun _ => 0)))), (qc, .inl (G.2 1, 2048, .inr (.inl (fun _ => 0)))), (qd, .inl (G.2 1, 2048, .inr (.inl (fun _ => 0))))] : va_W) ++ np pu.2 a0 z64 z64 32) ++ [(qe, .inl (G.2 0, 10, .inl (fun _ => 0)))]) H := hP
  have hD : va_D A ((([(h, .inr (4, [.ref qa, .ref qb, .int 0, .ref qc, .ref qd, .null, .int 0, .ref q1, .ref q2, .int 0, .int 0, .int 0, .long 0])), (q1, .inr (3, [.ref tc, .int 0])), (tc, .inl (G.2 2, 8, .inl (fun _ => 0))), (q2, .inr (1, [.ref pu.1, .int 1, .int 0, .int 0, .long 0])), (pu.1, .inl (G.2 4, 32, .inr (.inr (.inr (.inr (nf pu.2 32)))))), (qa, .inl (G.2 0, 256, .inl (fun _ => 0))), (qb, .inl (G.2 1, 256, .inr (.inl (fun _ => 0)))), (qc, .inl (G.2 1, 2048, .inr (.inl (fun _ => 0)))), (qd, .inl (G.2 1, 2048, .inr (.inl (fun _ => 0))))] : va_W) ++ np pu.2 a0 z64 z64 32) ++ [(qe, .inl (G.2 0, 10, .inl (fun _ => 0)))]) := hD
  have hP := hP.swap; have hD := hD.swap
  have hP : va_P G.1 vwCl (([(h, .inr (4, [.ref qa, .ref qb, .int 0, .ref qc, .ref qd, .null, .int 0, .ref q1, .ref q2, .int 0, .int 0, .int 0, .long 0])), (q1, .inr (3, [.ref tc, .int 0])), (tc, .inl (G.2 2, 8, .inl (fun _ => 0))), (q2, .inr (1, [.ref pu.1, .int 1, .int 0, .int 0, .long 0])), (pu.1, .inl (G.2 4, 32, .inr (.inr (.inr (.inr (nf pu.2 32)))))), (qa, .inl (G.2 0, 256, .inl (fun _ => 0))), (qb, .inl (G.2 1, 256, .inr (.inl (fun _ => 0)))), (qc, .inl (G.2 1, 2048, .inr (.inl (fun _ => 0)))), (qd, .inl (G.2 1, 2048, .inr (.inl (fun _ => 0)))), (qe, .inl (G.2 0, 10, .inl (fun _ => 0)))] : va_W) ++ np pu.2 a0 z64 z64 32) H := hP
  have hD : va_D A (([(h, .inr (4, [.ref qa, .ref qb, .int 0, .ref qc, .ref qd, .null, .int 0, .ref q1, .ref q2, .int 0, .int 0, .int 0, .long 0])), (q1, .inr (3, [.ref tc, .int 0])), (tc, .inl (G.2 2, 8, .inl (fun _ => 0))), (q2, .inr (1, [.ref pu.1, .int 1, .int 0, .int 0, .long 0])), (pu.1, .inl (G.2 4, 32, .inr (.inr (.inr (.inr (nf pu.2 32)))))), (qa, .inl (G.2 0, 256, .inl (fun _ => 0))), (qb, .inl (G.2 1, 256, .inr (.inl (fun _ => 0)))), (qc, .inl (G.2 1, 2048, .inr (.inl (fun _ => 0)))), (qd, .inl (G.2 1, 2048, .inr (.inl (fun _ => 0)))), (qe, .inl (G.2 0, 10, .inl (fun _ => 0)))] : va_W) ++ np pu.2 a0 z64 z64 32) := hD
  refine W.widen (k := 41) (n := 5081) (by omega) (by omega) ?_
  refine va_putF (D := G.1) (ci := 4) (v := .ref qe) (ty := .array .int) (C := RX4) (T := TX4) (N := 13) hx hb hts inX4 tyX4 tyX4_ok nmX4 hown hK.1 hP hD hS 0 rfl rfl 5 (by decide) (hts _ w_144) (fun _ h9 => h9) rfl hin rfl (by decide +kernel) rfl rfl (Nat.le_of_ble_eq_true rfl) dX4_init_69 (fun H locs hP hD hS => ?_)
  have hP : va_P G.1 vwCl (([(h, .inr (4, [.ref qa, .ref qb, .int 0, .ref qc, .ref qd, .ref qe, .int 0, .ref q1, .ref q2, .int 0, .int 0, .int 0, .long 0])), (q1, .inr (3, [.ref tc, .int 0])), (tc, .inl (G.2 2, 8, .inl (fun _ => 0))), (q2, .inr (1, [.ref pu.1, .int 1, .int 0, .int 0, .long 0])), (pu.1, .inl (G.2 4, 32, .inr (.inr (.inr (.inr (nf pu.2 32)))))), (qa, .inl (G.2 0, 256, .inl (fun _ => 0))), (qb, .inl (G.2 1, 256, .inr (.inl (fun _ => 0)))), (qc, .inl (G.2 1, 2048, .inr (.inl (fun _ => 0)))), (qd, .inl (G.2 1, 2048, .inr (.inl (fun _ => 0)))), (qe, .inl (G.2 0, 10, .inl (fun _ => 0)))] : va_W) ++ np pu.2 a0 z64 z64 32) H := hP
  have hD : va_D A (([(h, .inr (4, [.ref qa, .ref qb, .int 0, .ref qc, .ref qd, .ref qe, .int 0, .ref q1, .ref q2, .int 0, .int 0, .int 0, .long 0])), (q1, .inr (3, [.ref tc, .int 0])), (tc, .inl (G.2 2, 8, .inl (fun _ => 0))), (q2, .inr (1, [.ref pu.1, .int 1, .int 0, .int 0, .long 0])), (pu.1, .inl (G.2 4, 32, .inr (.inr (.inr (.inr (nf pu.2 32)))))), (qa, .inl (G.2 0, 256, .inl (fun _ => 0))), (qb, .inl (G.2 1, 256, .inr (.inl (fun _ => 0)))), (qc, .inl (G.2 1, 2048, .inr (.inl (fun _ => 0)))), (qd, .inl (G.2 1, 2048, .inr (.inl (fun _ => 0)))), (qe, .inl (G.2 0, 10, .inl (fun _ => 0)))] : va_W) ++ np pu.2 a0 z64 z64 32) := hD
  exact en_v F hS (fun k => [qa, qb, qc, qd, qe, q1, tc, q2, pu.1].getD k 0, pu.2) trivial hP hD (by omega) (by omega) dX4_init_72

theorem dX5_init_0 : decode cX5_init 0 = .ok (.aload_n 0, 1) := by decide +kernel
theorem dX5_init_1 : decode cX5_init 1 = .ok (.invokespecial 3, 3) := by decide +kernel
theorem dX5_init_4 : decode cX5_init 4 = .ok (.aload_n 0, 1) := by decide +kernel
theorem dX5_init_5 : decode cX5_init 5 = .ok (.new 9, 3) := by decide +kernel
theorem dX5_init_8 : decode cX5_init 8 = .ok (.dup, 1) := by decide +kernel
theorem dX5_init_9 : decode cX5_init 9 = .ok (.invokespecial 11, 3) := by decide +kernel
theorem dX5_init_12 : decode cX5_init 12 = .ok (.putfield 12, 3) := by decide +kernel
theorem dX5_init_15 : decode cX5_init 15 = .ok (.aload_n 0, 1) := by decide +kernel
theorem dX5_init_16 : decode cX5_init 16 = .ok (.aload_n 0, 1) := by decide +kernel
theorem dX5_init_17 : decode cX5_init 17 = .ok (.getfield 12, 3) := by decide +kernel
theorem dX5_init_20 : decode cX5_init 20 = .ok (.getfield 16, 3) := by decide +kernel
theorem dX5_init_23 : decode cX5_init 23 = .ok (.putfield 20, 3) := by decide +kernel
theorem dX5_init_26 : decode cX5_init 26 = .ok (.aload_n 0, 1) := by decide +kernel
theorem dX5_init_27 : decode cX5_init 27 = .ok (.iconst 3, 1) := by decide +kernel
theorem dX5_init_28 : decode cX5_init 28 = .ok (.anewarray 21, 3) := by decide +kernel
theorem dX5_init_31 : decode cX5_init 31 = .ok (.dup, 1) := by decide +kernel
theorem dX5_init_32 : decode cX5_init 32 = .ok (.iconst 0, 1) := by decide +kernel
theorem dX5_init_33 : decode cX5_init 33 = .ok (.new 21, 3) := by decide +kernel
theorem dX5_init_36 : decode cX5_init 36 = .ok (.dup, 1) := by decide +kernel
theorem dX5_init_37 : decode cX5_init 37 = .ok (.bipush 14, 2) := by decide +kernel
theorem dX5_init_39 : decode cX5_init 39 = .ok (.invokespecial 23, 3) := by decide +kernel
theorem dX5_init_42 : decode cX5_init 42 = .ok (.aastore, 1) := by decide +kernel
theorem dX5_init_43 : decode cX5_init 43 = .ok (.dup, 1) := by decide +kernel
theorem dX5_init_44 : decode cX5_init 44 = .ok (.iconst 1, 1) := by decide +kernel
theorem dX5_init_45 : decode cX5_init 45 = .ok (.aload_n 0, 1) := by decide +kernel
theorem dX5_init_46 : decode cX5_init 46 = .ok (.getfield 20, 3) := by decide +kernel
theorem dX5_init_49 : decode cX5_init 49 = .ok (.aastore, 1) := by decide +kernel
theorem dX5_init_50 : decode cX5_init 50 = .ok (.dup, 1) := by decide +kernel
theorem dX5_init_51 : decode cX5_init 51 = .ok (.iconst 2, 1) := by decide +kernel
theorem dX5_init_52 : decode cX5_init 52 = .ok (.new 21, 3) := by decide +kernel
theorem dX5_init_55 : decode cX5_init 55 = .ok (.dup, 1) := by decide +kernel
theorem dX5_init_56 : decode cX5_init 56 = .ok (.bipush 8, 2) := by decide +kernel
theorem dX5_init_58 : decode cX5_init 58 = .ok (.invokespecial 23, 3) := by decide +kernel
theorem dX5_init_61 : decode cX5_init 61 = .ok (.aastore, 1) := by decide +kernel
theorem dX5_init_62 : decode cX5_init 62 = .ok (.putfield 26, 3) := by decide +kernel
theorem dX5_init_65 : decode cX5_init 65 = .ok (.aload_n 0, 1) := by decide +kernel
theorem dX5_init_66 : decode cX5_init 66 = .ok (.new 30, 3) := by decide +kernel
theorem dX5_init_69 : decode cX5_init 69 = .ok (.dup, 1) := by decide +kernel
theorem dX5_init_70 : decode cX5_init 70 = .ok (.invokespecial 32, 3) := by decide +kernel
theorem dX5_init_73 : decode cX5_init 73 = .ok (.putfield 33, 3) := by decide +kernel
theorem dX5_init_76 : decode cX5_init 76 = .ok (.aload_n 0, 1) := by decide +kernel
theorem dX5_init_77 : decode cX5_init 77 = .ok (.new 21, 3) := by decide +kernel
theorem dX5_init_80 : decode cX5_init 80 = .ok (.dup, 1) := by decide +kernel
theorem dX5_init_81 : decode cX5_init 81 = .ok (.sipush 296, 3) := by decide +kernel
theorem dX5_init_84 : decode cX5_init 84 = .ok (.invokespecial 23, 3) := by decide +kernel
theorem dX5_init_87 : decode cX5_init 87 = .ok (.putfield 37, 3) := by decide +kernel
theorem dX5_init_90 : decode cX5_init 90 = .ok (.aload_n 0, 1) := by decide +kernel
theorem dX5_init_91 : decode cX5_init 91 = .ok (.bipush 10, 2) := by decide +kernel
theorem dX5_init_93 : decode cX5_init 93 = .ok (.newarray .int, 2) := by decide +kernel
theorem dX5_init_95 : decode cX5_init 95 = .ok (.putfield 40, 3) := by decide +kernel
theorem dX5_init_98 : decode cX5_init 98 = .ok (.aload_n 0, 1) := by decide +kernel
theorem dX5_init_99 : decode cX5_init 99 = .ok (.bipush 10, 2) := by decide +kernel
theorem dX5_init_101 : decode cX5_init 101 = .ok (.newarray .int, 2) := by decide +kernel
theorem dX5_init_103 : decode cX5_init 103 = .ok (.putfield 44, 3) := by decide +kernel
theorem dX5_init_106 : decode cX5_init 106 = .ok (.return_, 1) := by decide +kernel
set_option maxHeartbeats 4000000 in
set_option maxRecDepth 100000 in
theorem c_pm_init (l : Launch) (G : PG) (h : Nat) : Cv l yX5_init (Cond.code yX5_init cX5_init 1 none :: aW) { frames := 4, cells := 85, slots := 5894, locals := 102 } G [(h, .inr (5, [.null, .null, .null, .null, .int 0, .int 0, .int 0, .int 0, .long 0, .null, .null, .null, .int 0]))] [.ref h] (S := (Nat → Nat) × (Nat → Nat) × (Nat → Nat)) (fun (_ : (Nat → Nat) × (Nat → Nat) × (Nat → Nat)) => True) (fun (u : (Nat → Nat) × (Nat → Nat) × (Nat → Nat)) => (([(h, .inr (5, [.ref (u.1 9), .ref (u.1 5), .ref (u.1 10), .ref (u.1 15), .int 0, .int 0, .int 0, .int 0, .long 0, .ref (u.1 17), .ref (u.1 19), .ref (u.1 20), .int 0])), ((u.1 9), .inr (4, [.ref (u.1 0), .ref (u.1 1), .int 0, .ref (u.1 2), .ref (u.1 3), .ref (u.1 4), .int 0, .ref (u.1 5), .ref (u.1 7), .int 0, .int 0, .int 0, .long 0])), ((u.1 5), .inr (3, [.ref (u.1 6), .int 0])), ((u.1 6), .inl (G.2 2, 8, .inl (fun _ => 0))), ((u.1 7), .inr (1, [.ref (u.1 8), .int 1, .int 0, .int 0, .long 0])), ((u.1 8), .inl (G.2 4, 32, .inr (.inr (.inr (.inr (nf u.2.1 32)))))), ((u.1 0), .inl (G.2 0, 256, .inl (fun _ => 0))), ((u.1 1), .inl (G.2 1, 256, .inr (.inl (fun _ => 0)))), ((u.1 2), .inl (G.2 1, 2048, .inr (.inl (fun _ => 0)))), ((u.1 3), .inl (G.2 1, 2048, .inr (.inl (fun _ => 0)))), ((u.1 4), .inl (G.2 0, 10, .inl (fun _ => 0))), ((u.1 10), .inl (G.2 5, 3, .inr (.inr (.inr (.inr (va_up (va_up (va_up (fun _ => none) 0 (some (u.1 11))) 1 (some (u.1 5))) 2 (some (u.1 13)))))))), ((u.1 11), .inr (3, [.ref (u.1 12), .int 0])), ((u.1 12), .inl (G.2 2, 14, .inl (fun _ => 0))), ((u.1 13), .inr (3, [.ref (u.1 14), .int 0])), ((u.1 14), .inl (G.2 2, 8, .inl (fun _ => 0))), ((u.1 15), .inr (1, [.ref (u.1 16), .int 1, .int 0, .int 0, .long 0])), ((u.1 16), .inl (G.2 4, 32, .inr (.inr (.inr (.inr (nf u.2.2 32))))))] : va_W) ++ np u.2.2 a0 z64 z64 32 ++ ([((u.1 17), .inr (3, [.ref (u.1 18), .int 0])), ((u.1 18), .inl (G.2 2, 296, .inl (fun _ => 0))), ((u.1 19), .inl (G.2 0, 10, .inl (fun _ => 0))), ((u.1 20), .inl (G.2 0, 10, .inl (fun _ => 0)))] : va_W) ++ np u.2.1 a0 z64 z64 32)) 85 5894 := by
  refine ofB (y := yX5_init) (G := G) (cc := cX5_init) (maxL := 1) (ret := none) (Qc := fun A => va_Qv (fun (_ : (Nat → Nat) × (Nat → Nat) × (Nat → Nat)) => True) (oB G A (fun (u : (Nat → Nat) × (Nat → Nat) × (Nat → Nat)) => (([(h, .inr (5, [.ref (u.1 9), .ref (u.1 5), .ref (u.1 10), .ref (u.1 15), .int 0, .int 0, .int 0, .int 0, .long 0, .ref (u.1 17), .ref (u.1 19), .ref (u.1 20), .int 0])), ((u.1 9), .inr (4, [.ref (u.1 0), .ref (u.1 1), .int 0, .ref (u.1 2), .ref (u.1 3), .ref (u.1 4), .int 0, .ref (u.1 5), .ref (u.1 7), .int 0, .int 0, .int 0, .long 0])), ((u.1 5), .inr (3, [.ref (u.1 6), .int 0])), ((u.1 6), .inl (G.2 2, 8, .inl (fun _ => 0))), ((u.1 7), .inr (1, [.ref (u.1 8), .int 1, .int 0, .int 0, .long 0])), ((u.1 8), .inl (G.2 4, 32, .inr (.inr (.inr (.inr (nf u.2.1 32)))))), ((u.1 0), .inl (G.2 0, 256, .inl (fun _ => 0))), ((u.1 1), .inl (G.2 1, 256, .inr (.inl (fun _ => 0)))), ((u.1 2), .inl (G.2 1, 2048, .inr (.inl (fun _ => 0)))), ((u.1 3), .inl (G.2 1, 2048, .inr (.inl (fun _ => 0)))), ((u.1 4), .inl (G.2 0, 10, .inl (fun _ => 0))), ((u.1 10), .inl (G.2 5, 3, .inr (.inr (.inr (.inr (va_up (va_up (va_up (fun _ => none) 0 (some (u.1 11))) 1 (some (u.1 5))) 2 (some (u.1 13)))))))), ((u.1 11), .inr (3, [.ref (u.1 12), .int 0])), ((u.1 12), .inl (G.2 2, 14, .inl (fun _ => 0))), ((u.1 13), .inr (3, [.ref (u.1 14), .int 0])), ((u.1 14), .inl (G.2 2, 8, .inl (fun _ => 0))), ((u.1 15), .inr (1, [.ref (u.1 16), .int 1, .int 0, .int 0, .long 0])), ((u.1 16), .inl (G.2 4, 32, .inr (.inr (.inr (.inr (nf u.2.2 32))))))] : va_W) ++ np u.2.2 a0 z64 z64 32 ++ ([((u.1 17), .inr (3, [.ref (u.1 18), .int 0])), ((u.1 18), .inl (G.2 2, 296, .inl (fun _ => 0))), ((u.1 19), .inl (G.2 0, 10, .inl (fun _ => 0))), ((u.1 20), .inl (G.2 0, 10, .inl (fun _ => 0)))] : va_W) ++ np u.2.1 a0 z64 z64 32))) A) (by decide) rfl ?_
  intro p e s m below meth c A F hK hA hP hD
  have hx := F.1.1; have hb := F.1.2.1; have hml := F.1.2.2.1; have hts := F.1.2.2.2.2
  have hown : s.vm.findClass RX5 = some m.cls := F.1.2.2.2.1
  have hin : meth.name = "<init>" := F.2.2.2
  have hS : va_S A s.heap s.heap [] := va_S.rf
  have hl := lv_entry ([.ref h]) (n := 1) (Nat.le_of_ble_eq_true rfl)
  rw [lg_entry_eq]
  generalize (lg_sl ([.ref h]) ++ List.replicate (1 - (lg_sl ([.ref h])).length) Slot.unset).toArray = ls at hl ⊢
  have hl : lv_has ls 1 [(0, .ref h)] := hl
  refine lv_aload_n hx hb dX5_init_0 rfl (lv_at hl 0 rfl) ?_
  refine W.objInit hx hb hown (hts _ w_25) (hts _ w_26) (hts _ w_27) rfl (by rw [hml]; exact hl.1) rfl dX5_init_1 (Nat.le_of_ble_eq_true rfl) (Nat.le_of_ble_eq_true rfl) ?_
  refine W.eq (g2 := F0 m 4 ls []) rfl ?_
  refine lv_aload_n hx hb dX5_init_4 rfl (lv_at hl 0 rfl) ?_
  have hqc : 0 + 1 ≤ 85 := by omega
  have hqs : 0 + 13 ≤ 5894 := by omega
  refine va_new (D := G.1) (ci := 4) (fs := [.null, .null, .int 0, .null, .null, .null, .int 0, .null, .null, .int 0, .int 0, .int 0, .long 0]) (C := RX4) (T := TX4) (N := 13) hx hb hts inX4 tyX4 tyX4_ok hown (hts _ w_28) (hts _ w_29) (hts _ w_2) hK.1 hP hD hS hA rfl (by decide +kernel) hqc hqs dX5_init_5 (fun q1 H hP hD hS => ?_)
  have hP : va_P G.1 vwCl [(h, .inr (5, [.null, .null, .null, .null, .int 0, .int 0, .int 0, .int 0, .long 0, .null, .null, .null, .int 0])), (q1, .inr (4, [.null, .null, .int 0, .null, .null, .null, .int 0, .null, .null, .int 0, .int 0, .int 0, .long 0]))] H := hP
  have hD : va_D A [(h, .inr (5, [.null, .null, .null, .null, .int 0, .int 0, .int 0, .int 0, .long 0, .null, .null, .null, .int 0])), (q1, .inr (4, [.null, .null, .int 0, .null, .null, .null, .int 0, .null, .null, .int 0, .int 0, .int 0, .long 0]))] := hD
  refine W.widen (k := 1) (n := 13) (by omega) (by omega) ?_
  refine lv_dup hx hb dX5_init_8 rfl ?_
  have hPc := hP.sub (ws' := [(q1, .inr (4, [.null, .null, .int 0, .null, .null, .null, .int 0, .null, .null, .int 0, .int 0, .int 0, .long 0]))]) [1] rfl
  have hDc := hD.sub (ws' := [(q1, .inr (4, [.null, .null, .int 0, .null, .null, .null, .int 0, .null, .null, .int 0, .int 0, .int 0, .long 0]))]) [1] (by decide) rfl
  have hqc : 1 + 41 ≤ 85 ∧ 13 + 5081 ≤ 5894 := ⟨by omega, by omega⟩
  refine kl_v (wr := [(h, .inr (5, [.null, .null, .null, .null, .int 0, .int 0, .int 0, .int 0, .long 0, .null, .null, .null, .int 0]))]) (va_runI (As := []) (rest := [.ref q1, .ref h]) F.1 (c_search_init l G _ _) (cwI 0 hts (aw_G w_32) rfl rfl rfl (hts _ w_2) (hts _ w_30) (hts _ w_31) rfl (by decide +kernel) ⟨by decide, by decide⟩) ⟨cS_blind, cS_pre hPc hDc hK⟩ rfl rfl hl.1 rfl (lv_room (Nat.le_of_ble_eq_true rfl)) dX5_init_9 hqc) hP hD hS hA [1] [0] rfl rfl (by decide) (by decide) (fun su H locs hp hP hD hS => ?_)
  have hP : va_P G.1 vwCl (([(h, .inr (5, [.null, .null, .null, .null, .int 0, .int 0, .int 0, .int 0, .long 0, .null, .null, .null, .int 0])), (q1, .inr (4, [.ref (su.1 0), .ref (su.1 1), .int 0, .ref (su.1 2), .ref (su.1 3), .ref (su.1 4), .int 0, .ref (su.1 5), .ref (su.1 7), .int 0, .int 0, .int 0, .long 0])), ((su.1 5), .inr (3, [.ref (su.1 6), .int 0])), ((su.1 6), .inl (G.2 2, 8, .inl (fun _ => 0))), ((su.1 7), .inr (1, [.ref (su.1 8), .int 1, .int 0, .int 0, .long 0])), ((su.1 8), .inl (G.2 4, 32, .inr (.inr (.inr (.inr (nf su.2 32)))))), ((su.1 0), .inl (G.2 0, 256, .inl (fun _ => 0))), ((su.1 1), .inl (G.2 1, 256, .inr (.inl (fun _ => 0)))), ((su.1 2), .inl (G.2 1, 2048, .inr (.inl (fun _ => 0)))), ((su.1 3), .inl (G.2 1, 2048, .inr (.inl (fun _ => 0)))), ((su.1 4), .inl (G.2 0, 10, .inl (fun _ => 0)))] : va_W) ++ np su.2 a0 z64 z64 32) H := hP
  have hD : va_D A (([(h, .inr (5, [.null, .null, .null, .null, .int 0, .int 0, .int 0, .int 0, .long 0, .null, .null, .null, .int 0])), (q1, .inr (4, [.ref (su.1 0), .ref (su.1 1), .int 0, .ref (su.1 2), .ref (su.1 3), .ref (su.1 4), .int 0, .ref (su.1 5), .ref (su.1 7), .int 0, .int 0, .int 0, .long 0])), ((su.1 5), .inr (3, [.ref (su.1 6), .int 0])), ((su.1 6), .inl (G.2 2, 8, .inl (fun _ => 0))), ((su.1 7), .inr (1, [.ref (su.1 8), .int 1, .int 0, .int 0, .long 0])), ((su.1 8), .inl (G.2 4, 32, .inr (.inr (.inr (.inr (nf su.2 32)))))), ((su.1 0), .inl (G.2 0, 256, .inl (fun _ => 0))), ((su.1 1), .inl (G.2 1, 256, .inr (.inl (fun _ => 0)))), ((su.1 2), .inl (G.2 1, 2048, .inr (.inl (fun _ => 0)))), ((su.1 3), .inl (G.2 1, 2048, .inr (.inl (fun _ => 0)))), ((su.1 4), .inl (G.2 0, 10, .inl (fun _ => 0)))] : va_W) ++ np su.2 a0 z64 z64 32) := hD
  refine va_putF (D := G.1) (ci := 5) (v := .ref q1) (ty := .object "PatternMatcher$Search") (C := RX5) (T := TX5) (N := 13) hx hb hts inX5 tyX5 tyX5_ok nmX5 hown hK.1 hP hD hS 0 rfl rfl 0 (by decide) (hts _ w_190) (fun _ h9 => h9) rfl hin rfl (by decide +kernel) rfl rfl (Nat.le_of_ble_eq_true rfl) dX5_init_12 (fun H locs hP hD hS => ?_)
  have hP : va_P G.1 vwCl (([(h, .inr (5, [.ref q1, .null, .null, .null, .int 0, .int 0, .int 0, .int 0, .long 0, .null, .null, .null, .int 0])), (q1, .inr (4, [.ref (su.1 0), .ref (su.1 1), .int 0, .ref (su.1 2), .ref (su.1 3), .ref (su.1 4), .int 0, .ref (su.1 5), .ref (su.1 7), .int 0, .int 0, .int 0, .long 0])), ((su.1 5), .inr (3, [.ref (su.1 6), .int 0])), ((su.1 6), .inl (G.2 2, 8, .inl (fun _ => 0))), ((su.1 7), .inr (1, [.ref (su.1 8), .int 1, .int 0, .int 0, .long 0])), ((su.1 8), .inl (G.2 4, 32, .inr (.inr (.inr (.inr (nf su.2 32)))))), ((su.1 0), .inl (G.2 0, 256, .inl (fun _ => 0))), ((su.1 1), .inl (G.2 1, 256, .inr (.inl (fun _ => 0)))), ((su.1 2), .inl (G.2 1, 2048, .inr (.inl (fun _ => 0)))), ((su.1 3), .inl (G.2 1, 2048, .inr (.inl (fun _ => 0)))), ((su.1 4), .inl (G.2 0, 10, .inl (fun _ => 0)))] : va_W) ++ np su.2 a0 z64 z64 32) H := hP
  have hD : va_D A (([(h, .inr (5, [.ref q1, .null, .null, .null, .int 0, .int 0, .int 0, .int 0, .long 0, .null, .null, .null, .int 0])), (q1, .inr (4, [.ref (su.1 0), .ref (su.1 1), .int 0, .ref (su.1 2), .ref (su.1 3), .ref (su.1 4), .int 0, .ref (su.1 5), .ref (su.1 7), .int 0, .int 0, .int 0, .long 0])), ((su.1 5), .inr (3, [.ref (su.1 6), .int 0])), ((su.1 6), .inl (G.2 2, 8, .inl (fun _ => 0))), ((su.1 7), .inr (1, [.ref (su.1 8), .int 1, .int 0, .int 0, .long 0])), ((su.1 8), .inl (G.2 4, 32, .inr (.inr (.inr (.inr (nf su.2 32)))))), ((su.1 0), .inl (G.2 0, 256, .inl (fun _ => 0))), ((su.1 1), .inl (G.2 1, 256, .inr (.inl (fun _ => 0)))), ((su.1 2), .inl (G.2 1, 2048, .inr (.inl (fun _ => 0)))), ((su.1 3), .inl (G.2 1, 2048, .inr (.inl (fun _ => 0)))), ((su.1 4), .inl (G.2 0, 10, .inl (fun _ => 0)))] : va_W) ++ np su.2 a0 z64 z64 32) := hD
  refine lv_aload_n hx hb dX5_init_15 rfl (lv_at hl 0 rfl) ?_
  refine lv_aload_n hx hb dX5_init_16 rfl (lv_at hl 0 rfl) ?_
  refine va_get (D := G.1) (ci := 5) (v := .ref q1) (C := RX5) (T := TX5) (N := 13) hx hb hts inX5 hown hK.1 hP 0 rfl rfl 0 (by decide) (hts _ w_190) (fun _ h9 => h9) rfl dX5_init_17 ?_
  refine va_getN (D := G.1) (ci := 4) (v := .ref (su.1 5)) (C := RX4) (T := TX4) (N := 13) hx hb hts inX4 hown hK.1 hP 1 rfl rfl 7 (by decide) (hK.2.1.use w_147) (fun _ h9 => h9) rfl dX5_init_20 ?_
  refine va_putF (D := G.1) (ci := 5) (v := .ref (su.1 5)) (ty := .object "PatternMatcher$Row") (C := RX5) (T := TX5) (N := 13) hx hb hts inX5 tyX5 tyX5_ok nmX5 hown hK.1 hP hD hS 0 rfl rfl 1 (by decide) (hts _ w_191) (fun _ h9 => h9) rfl hin rfl (by decide +kernel) rfl rfl (Nat.le_of_ble_eq_true rfl) dX5_init_23 (fun H locs hP hD hS => ?_)
  have hP : va_P G.1 vwCl (([(h, .inr (5, [.ref q1, .ref (su.1 5), .null, .null, .int 0, .int 0, .int 0, .int 0, .long 0, .null, .null, .null, .int 0])), (q1, .inr (4, [.ref (su.1 0), .ref (su.1 1), .int 0, .ref (su.1 2), .ref (su.1 3), .ref (su.1 4), .int 0, .ref (su.1 5), .ref (su.1 7), .int 0, .int 0, .int 0, .long 0])), ((su.1 5), .inr (3, [.ref (su.1 6), .int 0])), ((su.1 6), .inl (G.2 2, 8, .inl (fun _ => 0))), ((su.1 7), .inr (1, [.ref (su.1 8), .int 1, .int 0, .int 0, .long 0])), ((su.1 8), .inl (G.2 4, 32, .inr (.inr (.inr (.inr (nf su.2 32)))))), ((su.1 0), .inl (G.2 0, 256, .inl (fun _ => 0))), ((su.1 1), .inl (G.2 1, 256, .inr (.inl (fun _ => 0)))), ((su.1 2), .inl (G.2 1, 2048, .inr (.inl (fun _ => 0)))), ((su.1 3), .inl (G.2 1, 2048, .inr (.inl (fun _ => 0)))), ((su.1 4), .inl (G.2 0, 10, .inl (fun _ => 0)))] : va_W) ++ np su.2 a0 z64 z64 32) H := hP
  have hD : va_D A (([(h, .inr (5, [.ref q1, .ref (su.1 5), .null, .null, .int 0, .int 0, .int 0, .int 0, .long 0, .null, .null, .null, .int 0])), (q1, .inr (4, [.ref (su.1 0), .ref (su.1 1), .int 0, .ref (su.1 2), .ref (su.1 3), .ref (su.1 4), .int 0, .ref (su.1 5), .ref (su.1 7), .int 0, .int 0, .int 0, .long 0])), ((su.1 5), .inr (3, [.ref (su.1 6), .int 0])), ((su.1 6), .inl (G.2 2, 8, .inl (fun _ => 0))), ((su.1 7), .inr (1, [.ref (su.1 8), .int 1, .int 0, .int 0, .long 0])), ((su.1 8), .inl (G.2 4, 32, .inr (.inr (.inr (.inr (nf su.2 32)))))), ((su.1 0), .inl (G.2 0, 256, .inl (fun _ => 0))), ((su.1 1), .inl (G.2 1, 256, .inr (.inl (fun _ => 0)))), ((su.1 2), .inl (G.2 1, 2048, .inr (.inl (fun _ => 0)))), ((su.1 3), .inl (G.2 1, 2048, .inr (.inl (fun _ => 0)))), ((su.1 4), .inl (G.2 0, 10, .inl (fun _ => 0)))] : va_W) ++ np su.2 a0 z64 z64 32) := hD
  refine lv_aload_n hx hb dX5_init_26 rfl (lv_at hl 0 rfl) ?_
  refine lv_iconst (v := 3) hx hb dX5_init_27 (by decide) ?_
  have hqc : 42 + 1 ≤ 85 := by omega
  have hqs : 5094 + 3 ≤ 5894 := by omega
  refine pg_newq (i := 5) (C := RX3) (N' := 3) hx hb hown (hts _ w_185) hK.2.2.2 hK rfl hP hD hS hA (by decide) (by decide) (by decide) hqc hqs dX5_init_28 (fun q2 H hP hD hS => ?_)
  have hP : va_P G.1 vwCl ((([(h, .inr (5, [.ref q1, .ref (su.1 5), .null, .null, .int 0, .int 0, .int 0, .int 0, .long 0, .null, .null, .null, .int 0])), (q1, .inr (4, [.ref (su.1 0), .ref (su.1 1), .int 0, .ref (su.1 2), .ref (su.1 3), .ref (su.1 4), .int 0, .ref (su.1 5), .ref (su.1 7), .int 0, .int 0, .int 0, .long 0])), ((su.1 5), .inr (3, [.ref (su.1 6), .int 0])), ((su.1 6), .inl (G.2 2, 8, .inl (fun _ => 0))), ((su.1 7), .inr (1, [.ref (su.1 8), .int 1, .int 0, .int 0, .long 0])), ((su.1 8), .inl (G.2 4, 32, .inr (.inr (.inr (.inr (nf su.2 32)))))), ((su.1 0), .inl (G.2 0, 256, .inl (fun _ => 0))), ((su.1 1), .inl (G.2 1, 256, .inr (.inl (fun _ => 0)))), ((su.1 2), .inl (G.2 1, 2048, .inr (.inl (fun _ => 0)))), ((su.1 3), .inl (G.2 1, 2048, .inr (.inl (fun _ => 0)))), ((su.1 4), .inl (G.2 0, 10, .inl (fun _ => 0)))] : va_W) ++ np su.2 a0 z64 z64 32) ++ [(q2, .inl (G.2 5, 3, .inr (.inr (.inr (.inr (fun _ => none))))))]) H := hP
  have hD : va_D A ((([(h, .inr (5, [.ref q1, .ref (su.1 5), .null, .null, .int 0, .int 0, .int 0, .int 0, .long 0, .null, .null, .null, .int 0])), (q1, .inr (4, [.ref (su.1 0), .ref (su.1 1), .int 0, .ref (su.1 2), .ref (su.1 3), .ref (su.1 4), .int 0, .ref (su.1 5), .ref (su.1 7), .int 0, .int 0, .int 0, .long 0])), ((su.1 5), .inr (3, [.ref (su.1 6), .int 0])), ((su.1 6), .inl (G.2 2, 8, .inl (fun _ => 0))), ((su.1 7), .inr (1, [.ref (su.1 8), .int 1, .int 0, .int 0, .long 0])), ((su.1 8), .inl (G.2 4, 32, .inr (.inr (.inr (.inr (nf su.2 32)))))), ((su.1 0), .inl (G.2 0, 256, .inl (fun _ => 0))), ((su.1 1), .inl (G.2 1, 256, .inr (.inl (fun _ => 0)))), ((su.1 2), .inl (G.2 1, 2048, .inr (.inl (fun _ => 0)))), ((su.1 3), .inl (G.2 1, 2048, .inr (.inl (fun _ => 0)))), ((su.1 4), .inl (G.2 0, 10, .inl (fun _ => 0)))] : va_W) ++ np su.2 a0 z64 z64 32) ++ [(q2, .inl (G.2 5, 3, .inr (.inr (.inr (.inr (fun _ => none))))))]) := hD
  have hP := hP.swap; have hD := hD.swap
  have hP : va_P G.1 vwCl (([(h, .inr (5, [.ref q1, .ref (su.1 5), .null, .null, .int 0, .int 0, .int 0, .int 0, .long 0, .null, .null, .null, .int 0])), (q1, .inr (4, [.ref (su.1 0), .ref (su.1 1), .int 0, .ref (su.1 2), .ref (su.1 3), .ref (su.1 4), .int 0, .ref (su.1 5), .ref (su.1 7), .int 0, .int 0, .int 0, .long 0])), ((su.1 5), .inr (3, [.ref (su.1 6), .int 0])), ((su.1 6), .inl (G.2 2, 8, .inl (fun _ => 0))), ((su.1 7), .inr (1, [.ref (su.1 8), .int 1, .int 0, .int 0, .long 0])), ((su.1 8), .inl (G.2 4, 32, .inr (.inr (.inr (.inr (nf su.2 32)))))), ((su.1 0), .inl (G.2 0, 256, .inl (fun _ => 0))), ((su.1 1), .inl (G.2 1, 256, .inr (.inl (fun _ => 0)))), ((su.1 2), .inl (G.2 1, 2048, .inr (.inl (fun _ => 0)))), ((su.1 3), .inl (G.2 1, 2048, .inr (.inl (fun _ => 0)))), ((su.1 4), .inl (G.2 0, 10, .inl (fun _ => 0))), (q2, .inl (G.2 5, 3, .inr (.inr (.inr (.inr (fun _ => none))))))] : va_W) ++ np su.2 a0 z64 z64 32) H := hP
  have hD : va_D A (([(h, .inr (5, [.ref q1, .ref (su.1 5), .null, .null, .int 0, .int 0, .int 0, .int 0, .long 0, .null, .null, .null, .int 0])), (q1, .inr (4, [.ref (su.1 0), .ref (su.1 1), .int 0, .ref (su.1 2), .ref (su.1 3), .ref (su.1 4), .int 0, .ref (su.1 5), .ref (su.1 7), .int 0, .int 0, .int 0, .long 0])), ((su.1 5), .inr (3, [.ref (su.1 6), .int 0])), ((su.1 6), .inl (G.2 2, 8, .inl (fun _ => 0))), ((su.1 7), .inr (1, [.ref (su.1 8), .int 1, .int 0, .int 0, .long 0])), ((su.1 8), .inl (G.2 4, 32, .inr (.inr (.inr (.inr (nf su.2 32)))))), ((su.1 0), .inl (G.2 0, 256, .inl (fun _ => 0))), ((su.1 1), .inl (G.2 1, 256, .inr (.inl (fun _ => 0)))), ((su.1 2), .inl (G.2 1, 2048, .inr (.inl (fun _ => 0)))), ((su.1 3), .inl (G.2 1, 2048, .inr (.inl (fun _ => 0)))), ((su.1 4), .inl (G.2 0, 10, .inl (fun _ => 0))), (q2, .inl (G.2 5, 3, .inr (.inr (.inr (.inr (fun _ => none))))))] : va_W) ++ np su.2 a0 z64 z64 32) := hD
  refine W.widen (k := 43) (n := 5097) (by omega) (by omega) ?_
  refine lv_dup hx hb dX5_init_31 rfl ?_
  refine lv_iconst (v := 0) hx hb dX5_init_32 (by decide) ?_
  have hqc : 43 + 1 ≤ 85 := by omega
  have hqs : 5097 + 2 ≤ 5894 := by omega
  refine va_new (D := G.1) (ci := 3) (fs := [.null, .int 0]) (C := RX3) (T := TX3) (N := 2) hx hb hts inX3 tyX3 tyX3_ok hown (hts _ w_185) (hts _ w_35) (hts _ w_3) hK.1 hP hD hS hA rfl (by decide +kernel) hqc hqs dX5_init_33 (fun q3 H hP hD hS => ?_)
  have hP : va_P G.1 vwCl ((([(h, .inr (5, [.ref q1, .ref (su.1 5), .null, .null, .int 0, .int 0, .int 0, .int 0, .long 0, .null, .null, .null, .int 0])), (q1, .inr (4, [.ref (su.1 0), .ref (su.1 1), .int 0, .ref (su.1 2), .ref (su.1 3), .ref (su.1 4), .int 0, .ref (su.1 5), .ref (su.1 7), .int 0, .int 0, .int 0, .long 0])), ((su.1 5), .inr (3, [.ref (su.1 6), .int 0])), ((su.1 6), .inl (G.2 2, 8, .inl (fun _ => 0))), ((su.1 7), .inr (1, [.ref (su.1 8), .int 1, .int 0, .int 0, .long 0])), ((su.1 8), .inl (G.2 4, 32, .inr (.inr (.inr (.inr (nf su.2 32)))))), ((su.1 0), .inl (G.2 0, 256, .inl (fun _ => 0))), ((su.1 1), .inl (G.2 1, 256, .inr (.inl (fun _ => 0)))), ((su.1 2), .inl (G.2 1, 2048, .inr (.inl (fun _ => 0)))), ((su.1 3), .inl (G.2 1, 2048, .inr (.inl (fun _ => 0)))), ((su.1 4), .inl (G.2 0, 10, .inl (fun _ => 0))), (q2, .inl (G.2 5, 3, .inr (.inr (.inr (.inr (fun _ => none))))))] : va_W) ++ np su.2 a0 z64 z64 32) ++ [(q3, .inr (3, [.null, .int 0]))]) H := hP
  have hD : va_D A ((([(h, .inr (5, [.ref q1, .ref (su.1 5), .null, .null, .int 0, .int 0, .int 0, .int 0, .long 0, .null, .null, .null, .int 0])), (q1, .inr (4, [.ref (su.1 0), .ref (su.1 1), .int 0, .ref (su.1 2), .ref (su.1 3), .ref (su.1 4), .int 0, .ref (su.1 5), .ref (su.1 7), .int 0, .int 0, .int 0, .long 0])), ((su.1 5), .inr (3, [.ref (su.1 6), .int 0])), ((su.1 6), .inl (G.2 2, 8, .inl (fun _ => 0))), ((su.1 7), .inr (1, [.ref (su.1 8), .int 1, .int 0, .int 0, .long 0])), ((su.1 8), .inl (G.2 4, 32, .inr (.inr (.inr (.inr (nf su.2 32)))))), ((su.1 0), .inl (G.2 0, 256, .inl (fun _ => 0))), ((su.1 1), .inl (G.2 1, 256, .inr (.inl (fun _ => 0)))), ((su.1 2), .inl (G.2 1, 2048, .inr (.inl (fun _ => 0)))), ((su.1 3), .inl (G.2 1, 2048, .inr (.inl (fun _ => 0)))), ((su.1 4), .inl (G.2 0, 10, .inl (fun _ => 0))), (q2, .inl (G.2 5, 3, .inr (.inr (.inr (.inr (fun _ => none))))))] : va_W) ++ np su.2 a0 z64 z64 32) ++ [(q3, .inr (3, [.null, .int 0]))]) := hD
  have hP := hP.swap; have hD := hD.swap
  have hP : va_P G.1 vwCl (([(h, .inr (5, [.ref q1, .ref (su.1 5), .null, .null, .int 0, .int 0, .int 0, .int 0, .long 0, .null, .null, .null, .int 0])), (q1, .inr (4, [.ref (su.1 0), .ref (su.1 1), .int 0, .ref (su.1 2), .ref (su.1 3), .ref (su.1 4), .int 0, .ref (su.1 5), .ref (su.1 7), .int 0, .int 0, .int 0, .long 0])), ((su.1 5), .inr (3, [.ref (su.1 6), .int 0])), ((su.1 6), .inl (G.2 2, 8, .inl (fun _ => 0))), ((su.1 7), .inr (1, [.ref (su.1 8), .int 1, .int 0, .int 0, .long 0])), ((su.1 8), .inl (G.2 4, 32, .inr (.inr (.inr (.inr (nf su.2 32)))))), ((su.1 0), .inl (G.2 0, 256, .inl (fun _ => 0))), ((su.1 1), .inl (G.2 1, 256, .inr (.inl (fun _ => 0)))), ((su.1 2), .inl (G.2 1, 2048, .inr (.inl (fun _ => 0)))), ((su.1 3), .inl (G.2 1, 2048, .inr (.inl (fun _ => 0)))), ((su.1 4), .inl (G.2 0, 10, .inl (fun _ => 0))), (q2, .inl (G.2 5, 3, .inr (.inr (.inr (.inr (fun _ => none)))))), (q3, .inr (3, [.null, .int 0]))] : va_W) ++ np su.2 a0 z64 z64 32) H := hP
  have hD : va_D A (([(h, .inr (5, [.ref q1, .ref (su.1 5), .null, .null, .int 0, .int 0, .int 0, .int 0, .long 0, .null, .null, .null, .int 0])), (q1, .inr (4, [.ref (su.1 0), .ref (su.1 1), .int 0, .ref (su.1 2), .ref (su.1 3), .ref (su.1 4), .int 0, .ref (su.1 5), .ref (su.1 7), .int 0, .int 0, .int 0, .long 0])), ((su.1 5), .inr (3, [.ref (su.1 6), .int 0])), ((su.1 6), .inl (G.2 2, 8, .inl (fun _ => 0))), ((su.1 7), .inr (1, [.ref (su.1 8), .int 1, .int 0, .int 0, .long 0])), ((su.1 8), .inl (G.2 4, 32, .inr (.inr (.inr (.inr (nf su.2 32)))))), ((su.1 0), .inl (G.2 0, 256, .inl (fun _ => 0))), ((su.1 1), .inl (G.2 1, 256, .inr (.inl (fun _ => 0)))), ((su.1 2), .inl (G.2 1, 2048, .inr (.inl (fun _ => 0)))), ((su.1 3), .inl (G.2 1, 2048, .inr (.inl (fun _ => 0)))), ((su.1 4), .inl (G.2 0, 10, .inl (fun _ => 0))), (q2, .inl (G.2 5, 3, .inr (.inr (.inr (.inr (fun _ => none)))))), (q3, .inr (3, [.null, .int 0]))] : va_W) ++ np su.2 a0 z64 z64 32) := hD
  refine W.widen (k := 44) (n := 5099) (by omega) (by omega) ?_
  refine lv_dup hx hb dX5_init_36 rfl ?_
  refine lv_bipush (v := 14) hx hb dX5_init_37 (by decide) ?_
  have hPc := hP.sub (ws' := [(q3, .inr (3, [.null, .int 0]))]) [12] rfl
  have hDc := hD.sub (ws' := [(q3, .inr (3, [.null, .int 0]))]) [12] (by decide) rfl
  have hqc : 44 + 1 ≤ 85 ∧ 5099 + 14 ≤ 5894 := ⟨by omega, by omega⟩
  refine kl_vQ (wr := [(h, .inr (5, [.ref q1, .ref (su.1 5), .null, .null, .int 0, .int 0, .int 0, .int 0, .long 0, .null, .null, .null, .int 0])), (q1, .inr (4, [.ref (su.1 0), .ref (su.1 1), .int 0, .ref (su.1 2), .ref (su.1 3), .ref (su.1 4), .int 0, .ref (su.1 5), .ref (su.1 7), .int 0, .int 0, .int 0, .long 0])), ((su.1 5), .inr (3, [.ref (su.1 6), .int 0])), ((su.1 6), .inl (G.2 2, 8, .inl (fun _ => 0))), ((su.1 7), .inr (1, [.ref (su.1 8), .int 1, .int 0, .int 0, .long 0])), ((su.1 8), .inl (G.2 4, 32, .inr (.inr (.inr (.inr (nf su.2 32)))))), ((su.1 0), .inl (G.2 0, 256, .inl (fun _ => 0))), ((su.1 1), .inl (G.2 1, 256, .inr (.inl (fun _ => 0)))), ((su.1 2), .inl (G.2 1, 2048, .inr (.inl (fun _ => 0)))), ((su.1 3), .inl (G.2 1, 2048, .inr (.inl (fun _ => 0)))), ((su.1 4), .inl (G.2 0, 10, .inl (fun _ => 0))), (q2, .inl (G.2 5, 3, .inr (.inr (.inr (.inr (fun _ => none))))))]) (va_runI (As := [.int 14]) (rest := [.ref q3, .int 0, .ref q2, .ref q2, .ref h]) F.1 (c_row_init l G _ 14 (by decide) _) (cwI 1 hts (aw_G w_38) rfl rfl rfl (hts _ w_3) (hts _ w_187) (hts _ w_37) rfl (by decide +kernel) ⟨by decide, by decide⟩) ⟨cS_blind, cS_pre hPc hDc hK⟩ rfl rfl hl.1 rfl (lv_room (Nat.le_of_ble_eq_true rfl)) dX5_init_39 hqc) hP hD hS hA [12] [0, 1, 2, 3, 4, 5, 6, 7, 8, 9, 10, 11] rfl rfl (by decide) (by decide) (fun rc0 H locs hp hP hD hS => ?_)
  have hP : va_P G.1 vwCl (([(h, .inr (5, [.ref q1, .ref (su.1 5), .null, .null, .int 0, .int 0, .int 0, .int 0, .long 0, .null, .null, .null, .int 0])), (q1, .inr (4, [.ref (su.1 0), .ref (su.1 1), .int 0, .ref (su.1 2), .ref (su.1 3), .ref (su.1 4), .int 0, .ref (su.1 5), .ref (su.1 7), .int 0, .int 0, .int 0, .long 0])), ((su.1 5), .inr (3, [.ref (su.1 6), .int 0])), ((su.1 6), .inl (G.2 2, 8, .inl (fun _ => 0))), ((su.1 7), .inr (1, [.ref (su.1 8), .int 1, .int 0, .int 0, .long 0])), ((su.1 8), .inl (G.2 4, 32, .inr (.inr (.inr (.inr (nf su.2 32)))))), ((su.1 0), .inl (G.2 0, 256, .inl (fun _ => 0))), ((su.1 1), .inl (G.2 1, 256, .inr (.inl (fun _ => 0)))), ((su.1 2), .inl (G.2 1, 2048, .inr (.inl (fun _ => 0)))), ((su.1 3), .inl (G.2 1, 2048, .inr (.inl (fun _ => 0)))), ((su.1 4), .inl (G.2 0, 10, .inl (fun _ => 0))), (q2, .inl (G.2 5, 3, .inr (.inr (.inr (.inr (fun _ => none)))))), (q3, .inr (3, [.ref rc0, .int 0])), (rc0, .inl (G.2 2, 14, .inl (fun _ => 0)))] : va_W) ++ np su.2 a0 z64 z64 32) H := hP
  have hD : va_D A (([(h, .inr (5, [.ref q1, .ref (su.1 5), .null, .null, .int 0, .int 0, .int 0, .int 0, .long 0, .null, .null, .null, .int 0])), (q1, .inr (4, [.ref (su.1 0), .ref (su.1 1), .int 0, .ref (su.1 2), .ref (su.1 3), .ref (su.1 4), .int 0, .ref (su.1 5), .ref (su.1 7), .int 0, .int 0, .int 0, .long 0])), ((su.1 5), .inr (3, [.ref (su.1 6), .int 0])), ((su.1 6), .inl (G.2 2, 8, .inl (fun _ => 0))), ((su.1 7), .inr (1, [.ref (su.1 8), .int 1, .int 0, .int 0, .long 0])), ((su.1 8), .inl (G.2 4, 32, .inr (.inr (.inr (.inr (nf su.2 32)))))), ((su.1 0), .inl (G.2 0, 256, .inl (fun _ => 0))), ((su.1 1), .inl (G.2 1, 256, .inr (.inl (fun _ => 0)))), ((su.1 2), .inl (G.2 1, 2048, .inr (.inl (fun _ => 0)))), ((su.1 3), .inl (G.2 1, 2048, .inr (.inl (fun _ => 0)))), ((su.1 4), .inl (G.2 0, 10, .inl (fun _ => 0))), (q2, .inl (G.2 5, 3, .inr (.inr (.inr (.inr (fun _ => none)))))), (q3, .inr (3, [.ref rc0, .int 0])), (rc0, .inl (G.2 2, 14, .inl (fun _ => 0)))] : va_W) ++ np su.2 a0 z64 z64 32) := hD
  refine va_astq (D := G.1) hx hb hK.1 hP hD hS 11 5 12 3 rfl rfl rfl rfl (vp_in_nI (n := 0) (by decide) (by decide)) dX5_init_42 (fun H locs hP hD hS => ?_)
  have hP : va_P G.1 vwCl (([(h, .inr (5, [.ref q1, .ref (su.1 5), .null, .null, .int 0, .int 0, .int 0, .int 0, .long 0, .null, .null, .null, .int 0])), (q1, .inr (4, [.ref (su.1 0), .ref (su.1 1), .int 0, .ref (su.1 2), .ref (su.1 3), .ref (su.1 4), .int 0, .ref (su.1 5), .ref (su.1 7), .int 0, .int 0, .int 0, .long 0])), ((su.1 5), .inr (3, [.ref (su.1 6), .int 0])), ((su.1 6), .inl (G.2 2, 8, .inl (fun _ => 0))), ((su.1 7), .inr (1, [.ref (su.1 8), .int 1, .int 0, .int 0, .long 0])), ((su.1 8), .inl (G.2 4, 32, .inr (.inr (.inr (.inr (nf su.2 32)))))), ((su.1 0), .inl (G.2 0, 256, .inl (fun _ => 0))), ((su.1 1), .inl (G.2 1, 256, .inr (.inl (fun _ => 0)))), ((su.1 2), .inl (G.2 1, 2048, .inr (.inl (fun _ => 0)))), ((su.1 3), .inl (G.2 1, 2048, .inr (.inl (fun _ => 0)))), ((su.1 4), .inl (G.2 0, 10, .inl (fun _ => 0))), (q2, .inl (G.2 5, 3, .inr (.inr (.inr (.inr (va_up (fun _ => none) 0 (some q3))))))), (q3, .inr (3, [.ref rc0, .int 0])), (rc0, .inl (G.2 2, 14, .inl (fun _ => 0)))] : va_W) ++ np su.2 a0 z64 z64 32) H := hP
  have hD : va_D A (([(h, .inr (5, [.ref q1, .ref (su.1 5), .null, .null, .int 0, .int 0, .int 0, .int 0, .long 0, .null, .null, .null, .int 0])), (q1, .inr (4, [.ref (su.1 0), .ref (su.1 1), .int 0, .ref (su.1 2), .ref (su.1 3), .ref (su.1 4), .int 0, .ref (su.1 5), .ref (su.1 7), .int 0, .int 0, .int 0, .long 0])), ((su.1 5), .inr (3, [.ref (su.1 6), .int 0])), ((su.1 6), .inl (G.2 2, 8, .inl (fun _ => 0))), ((su.1 7), .inr (1, [.ref (su.1 8), .int 1, .int 0, .int 0, .long 0])), ((su.1 8), .inl (G.2 4, 32, .inr (.inr (.inr (.inr (nf su.2 32)))))), ((su.1 0), .inl (G.2 0, 256, .inl (fun _ => 0))), ((su.1 1), .inl (G.2 1, 256, .inr (.inl (fun _ => 0)))), ((su.1 2), .inl (G.2 1, 2048, .inr (.inl (fun _ => 0)))), ((su.1 3), .inl (G.2 1, 2048, .inr (.inl (fun _ => 0)))), ((su.1 4), .inl (G.2 0, 10, .inl (fun _ => 0))), (q2, .inl (G.2 5, 3, .inr (.inr (.inr (.inr (va_up (fun _ => none) 0 (some q3))))))), (q3, .inr (3, [.ref rc0, .int 0])), (rc0, .inl (G.2 2, 14, .inl (fun _ => 0)))] : va_W) ++ np su.2 a0 z64 z64 32) := hD
  refine lv_dup hx hb dX5_init_43 rfl ?_
  refine lv_iconst (v := 1) hx hb dX5_init_44 (by decide) ?_
  refine lv_aload_n hx hb dX5_init_45 rfl (lv_at hl 0 rfl) ?_
  refine va_get (D := G.1) (ci := 5) (v := .ref (su.1 5)) (C := RX5) (T := TX5) (N := 13) hx hb hts inX5 hown hK.1 hP 0 rfl rfl 1 (by decide) (hts _ w_191) (fun _ h9 => h9) rfl dX5_init_46 ?_
  refine va_astq (D := G.1) hx hb hK.1 hP hD hS 11 5 2 3 rfl rfl rfl rfl (vp_in_nI (n := 1) (by decide) (by decide)) dX5_init_49 (fun H locs hP hD hS => ?_)
  have hP : va_P G.1 vwCl (([(h, .inr (5, [.ref q1, .ref (su.1 5), .null, .null, .int 0, .int 0, .int 0, .int 0, .long 0, .null, .null, .null, .int 0])), (q1, .inr (4, [.ref (su.1 0), .ref (su.1 1), .int 0, .ref (su.1 2), .ref (su.1 3), .ref (su.1 4), .int 0, .ref (su.1 5), .ref (su.1 7), .int 0, .int 0, .int 0, .long 0])), ((su.1 5), .inr (3, [.ref (su.1 6), .int 0])), ((su.1 6), .inl (G.2 2, 8, .inl (fun _ => 0))), ((su.1 7), .inr (1, [.ref (su.1 8), .int 1, .int 0, .int 0, .long 0])), ((su.1 8), .inl (G.2 4, 32, .inr (.inr (.inr (.inr (nf su.2 32)))))), ((su.1 0), .inl (G.2 0, 256, .inl (fun _ => 0))), ((su.1 1), .inl (G.2 1, 256, .inr (.inl (fun _ => 0)))), ((su.1 2), .inl (G.2 1, 2048, .inr (.inl (fun _ => 0)))), ((su.1 3), .inl (G.2 1, 2048, .inr (.inl (fun _ => 0)))), ((su.1 4), .inl (G.2 0, 10, .inl (fun _ => 0))), (q2, .inl (G.2 5, 3, .inr (.inr (.inr (.inr (va_up (va_up (fun _ => none) 0 (some q3)) 1 (some (su.1 5)))))))), (q3, .inr (3, [.ref rc0, .int 0])), (rc0, .inl (G.2 2, 14, .inl (fun _ => 0)))] : va_W) ++ np su.2 a0 z64 z64 32) H := hP
  have hD : va_D A (([(h, .inr (5, [.ref q1, .ref (su.1 5), .null, .null, .int 0, .int 0, .int 0, .int 0, .long 0, .null, .null, .null, .int 0])), (q1, .inr (4, [.ref (su.1 0), .ref (su.1 1), .int 0, .ref (su.1 2), .ref (su.1 3), .ref (su.1 4), .int 0, .ref (su.1 5), .ref (su.1 7), .int 0, .int 0, .int 0, .long 0])), ((su.1 5), .inr (3, [.ref (su.1 6), .int 0])), ((su.1 6), .inl (G.2 2, 8, .inl (fun _ => 0))), ((su.1 7), .inr (1, [.ref (su.1 8), .int 1, .int 0, .int 0, .long 0])), ((su.1 8), .inl (G.2 4, 32, .inr (.inr (.inr (.inr (nf su.2 32)))))), ((su.1 0), .inl (G.2 0, 256, .inl (fun _ => 0))), ((su.1 1), .inl (G.2 1, 256, .inr (.inl (fun _ => 0)))), ((su.1 2), .inl (G.2 1, 2048, .inr (.inl (fun _ => 0)))), ((su.1 3), .inl (G.2 1, 2048, .inr (.inl (fun _ => 0)))), ((su.1 4), .inl (G.2 0, 10, .inl (fun _ => 0))), (q2, .inl (G.2 5, 3, .inr (.inr (.inr (.inr (va_up (va_up (fun _ => none) 0 (some q3)) 1 (some (su.1 5)))))))), (q3, .inr (3, [.ref rc0, .int 0])), (rc0, .inl (G.2 2, 14, .inl (fun _ => 0)))] : va_W) ++ np su.2 a0 z64 z64 32) := hD
  refine lv_dup hx hb dX5_init_50 rfl ?_
  refine lv_iconst (v := 2) hx hb dX5_init_51 (by decide) ?_
  have hqc : 45 + 1 ≤ 85 := by omega
  have hqs : 5113 + 2 ≤ 5894 := by omega
  refine va_new (D := G.1) (ci := 3) (fs := [.null, .int 0]) (C := RX3) (T := TX3) (N := 2) hx hb hts inX3 tyX3 tyX3_ok hown (hts _ w_185) (hts _ w_35) (hts _ w_3) hK.1 hP hD hS hA rfl (by decide +kernel) hqc hqs dX5_init_52 (fun q4 H hP hD hS => ?_)
  have hP : va_P G.1 vwCl ((([(h, .inr (5, [.ref q1, .ref (su.1 5), .null, .null, .int 0, .int 0, .int 0, .int 0, .long 0, .null, .null, .null, .int 0])), (q1, .inr (4, [.ref (su.1 0), .ref (su.1 1), .int 0, .ref (su.1 2), .ref (su.1 3), .ref (su.1 4), .int 0, .ref (su.1 5), .ref (su.1 7), .int 0, .int 0, .int 0, .long 0])), ((su.1 5), .inr (3, [.ref (su.1 6), .int 0])), ((su.1 6), .inl (G.2 2, 8, .inl (fun _ => 0))), ((su.1 7), .inr (1, [.ref (su.1 8), .int 1, .int 0, .int 0, .long 0])), ((su.1 8), .inl (G.2 4, 32, .inr (.inr (.inr (.inr (nf su.2 32)))))), ((su.1 0), .inl (G.2 0, 256, .inl (fun _ => 0))), ((su.1 1), .inl (G.2 1, 256, .inr (.inl (fun _ => 0)))), ((su.1 2), .inl (G.2 1, 2048, .inr (.inl (fun _ => 0)))), ((su.1 3), .inl (G.2 1, 2048, .inr (.inl (fun _ => 0)))), ((su.1 4), .inl (G.2 0, 10, .inl (fun _ => 0))), (q2, .inl (G.2 5, 3, .inr (.inr (.inr (.inr (va_up (va_up (fun _ => none) 0 (some q3)) 1 (some (su.1 5)))))))), (q3, .inr (3, [.ref rc0, .int 0])), (rc0, .inl (G.2 2, 14, .inl (fun _ => 0)))] : va_W) ++ np su.2 a0 z64 z64 32) ++ [(q4, .inr (3, [.null, .int 0]))]) H := hP
  have hD : va_D A ((([(h, .inr (5, [.ref q1, .ref (su.1 5), .null, .null, .int 0, .int 0, .int 0, .int 0, .long 0, .null, .null, .null, .int 0])), (q1, .inr (4, [.ref (su.1 0), .ref (su.1 1), .int 0, .ref (su.1 2), .ref (su.1 3), .ref (su.1 4), .int 0, .ref (su.1 5), .ref (su.1 7), .int 0, .int 0, .int 0, .long 0])), ((su.1 5), .inr (3, [.ref (su.1 6), .int 0])), ((su.1 6), .inl (G.2 2, 8, .inl (fun _ => 0))), ((su.1 7), .inr (1, [.ref (su.1 8), .int 1, .int 0, .int 0, .long 0])), ((su.1 8), .inl (G.2 4, 32, .inr (.inr (.inr (.inr (nf su.2 32)))))), ((su.1 0), .inl (G.2 0, 256, .inl (fun _ => 0))), ((su.1 1), .inl (G.2 1, 256, .inr (.inl (fun _ => 0)))), ((su.1 2), .inl (G.2 1, 2048, .inr (.inl (fun _ => 0)))), ((su.1 3), .inl (G.2 1, 2048, .inr (.inl (fun _ => 0)))), ((su.1 4), .inl (G.2 0, 10, .inl (fun _ => 0))), (q2, .inl (G.2 5, 3, .inr (.inr (.inr (.inr (va_up (va_up (fun _ => none) 0 (some q3)) 1 (some (su.1 5)))))))), (q3, .inr (3, [.ref rc0, .int 0])), (rc0, .inl (G.2 2, 14, .inl (fun _ => 0)))] : va_W) ++ np su.2 a0 z64 z64 32) ++ [(q4, .inr (3, [.null, .int 0]))]) := hD
  have hP := hP.swap; have hD := hD.swap
  have hP : va_P G.1 vwCl (([(h, .inr (5, [.ref q1, .ref (su.1 5), .null, .null, .int 0, .int 0, .int 0, .int 0, .long 0, .null, .null, .null, .int 0])), (q1, .inr (4, [.ref (su.1 0), .ref (su.1 1), .int 0, .ref (su.1 2), .ref (su.1 3), .ref (su.1 4), .int 0, .ref (su.1 5), .ref (su.1 7), .int 0, .int 0, .int 0, .long 0])), ((su.1 5), .inr (3, [.ref (su.1 6), .int 0])), ((su.1 6), .inl (G.2 2, 8, .inl (fun _ => 0))), ((su.1 7), .inr (1, [.ref (su.1 8), .int 1, .int 0, .int 0, .long 0])), ((su.1 8), .inl (G.2 4, 32, .inr (.inr (.inr (.inr (nf su.2 32)))))), ((su.1 0), .inl (G.2 0, 256, .inl (fun _ => 0))), ((su.1 1), .inl (G.2 1, 256, .inr (.inl (fun _ => 0)))), ((su.1 2), .inl (G.2 1, 2048, .inr (.inl (fun _ => 0)))), ((su.1 3), .inl (G.2 1, 2048, .inr (.inl (fun _ => 0)))), ((su.1 4), .inl (G.2 0, 10, .inl (fun _ => 0))), (q2, .inl (G.2 5, 3, .inr (.inr (.inr (.inr (va_up (va_up (fun _ => none) 0 (some q3)) 1 (some (su.1 5)))))))), (q3, .inr (3, [.ref rc0, .int 0])), (rc0, .inl (G.2 2, 14, .inl (fun _ => 0))), (q4, .inr (3, [.null, .int 0]))] : va_W) ++ np su.2 a0 z64 z64 32) H := hP
  have hD : va_D A (([(h, .inr (5, [.ref q1, .ref (su.1 5), .null, .null, .int 0, .int 0, .int 0, .int 0, .long 0, .null, .null, .null, .int 0])), (q1, .inr (4, [.ref (su.1 0), .ref (su.1 1), .int 0, .ref (su.1 2), .ref (su.1 3), .ref (su.1 4), .int 0, .ref (su.1 5), .ref (su.1 7), .int 0, .int 0, .int 0, .long 0])), ((su.1 5), .inr (3, [.ref (su.1 6), .int 0])), ((su.1 6), .inl (G.2 2, 8, .inl (fun _ => 0))), ((su.1 7), .inr (1, [.ref (su.1 8), .int 1, .int 0, .int 0, .long 0])), ((su.1 8), .inl (G.2 4, 32, .inr (.inr (.inr (.inr (nf su.2 32)))))), ((su.1 0), .inl (G.2 0, 256, .inl (fun _ => 0))), ((su.1 1), .inl (G.2 1, 256, .inr (.inl (fun _ => 0)))), ((su.1 2), .inl (G.2 1, 2048, .inr (.inl (fun _ => 0)))), ((su.1 3), .inl (G.2 1, 2048, .inr (.inl (fun _ => 0)))), ((su.1 4), .inl (G.2 0, 10, .inl (fun _ => 0))), (q2, .inl (G.2 5, 3, .inr (.inr (.inr (.inr (va_up (va_up (fun _ => none) 0 (some q3)) 1 (some (su.1 5)))))))), (q3, .inr (3, [.ref rc0, .int 0])), (rc0, .inl (G.2 2, 14, .inl (fun _ => 0))), (q4, .inr (3, [.null, .int 0]))] : va_W) ++ np su.2 a0 z64 z64 32) := hD
  refine W.widen (k := 46) (n := 5115) (by omega) (by omega) ?_
  refine lv_dup hx hb dX5_init_55 rfl ?_
  refine lv_bipush (v := 8) hx hb dX5_init_56 (by decide) ?_
  have hPc := hP.sub (ws' := [(q4, .inr (3, [.null, .int 0]))]) [14] rfl
  have hDc := hD.sub (ws' := [(q4, .inr (3, [.null, .int 0]))]) [14] (by decide) rfl
  have hqc : 46 + 1 ≤ 85 ∧ 5115 + 8 ≤ 5894 := ⟨by omega, by omega⟩
  refine kl_vQ (wr := [(h, .inr (5, [.ref q1, .ref (su.1 5), .null, .null, .int 0, .int 0, .int 0, .int 0, .long 0, .null, .null, .null, .int 0])), (q1, .inr (4, [.ref (su.1 0), .ref (su.1 1), .int 0, .ref (su.1 2), .ref (su.1 3), .ref (su.1 4), .int 0, .ref (su.1 5), .ref (su.1 7), .int 0, .int 0, .int 0, .long 0])), ((su.1 5), .inr (3, [.ref (su.1 6), .int 0])), ((su.1 6), .inl (G.2 2, 8, .inl (fun _ => 0))), ((su.1 7), .inr (1, [.ref (su.1 8), .int 1, .int 0, .int 0, .long 0])), ((su.1 8), .inl (G.2 4, 32, .inr (.inr (.inr (.inr (nf su.2 32)))))), ((su.1 0), .inl (G.2 0, 256, .inl (fun _ => 0))), ((su.1 1), .inl (G.2 1, 256, .inr (.inl (fun _ => 0)))), ((su.1 2), .inl (G.2 1, 2048, .inr (.inl (fun _ => 0)))), ((su.1 3), .inl (G.2 1, 2048, .inr (.inl (fun _ => 0)))), ((su.1 4), .inl (G.2 0, 10, .inl (fun _ => 0))), (q2, .inl (G.2 5, 3, .inr (.inr (.inr (.inr (va_up (va_up (fun _ => none) 0 (some q3)) 1 (some (su.1 5)))))))), (q3, .inr (3, [.ref rc0, .int 0])), (rc0, .inl (G.2 2, 14, .inl (fun _ => 0)))]) (va_runI (As := [.int 8]) (rest := [.ref q4, .int 2, .ref q2, .ref q2, .ref h]) F.1 (c_row_init l G _ 8 (by decide) _) (cwI 1 hts (aw_G w_38) rfl rfl rfl (hts _ w_3) (hts _ w_187) (hts _ w_37) rfl (by decide +kernel) ⟨by decide, by decide⟩) ⟨cS_blind, cS_pre hPc hDc hK⟩ rfl rfl hl.1 rfl (lv_room (Nat.le_of_ble_eq_true rfl)) dX5_init_58 hqc) hP hD hS hA [14] [0, 1, 2, 3, 4, 5, 6, 7, 8, 9, 10, 11, 12, 13] rfl rfl (by decide) (by decide) (fun rc2 H locs hp hP hD hS => ?_)
  have hP : va_P G.1 vwCl (([(h, .inr (5, [.ref q1, .ref (su.1 5), .null, .null, .int 0, .int 0, .int 0, .int 0, .long 0, .null, .null, .null, .int 0])), (q1, .inr (4, [.ref (su.1 0), .ref (su.1 1), .int 0, .ref (su.1 2), .ref (su.1 3), .ref (su.1 4), .int 0, .ref (su.1 5), .ref (su.1 7), .int 0, .int 0, .int 0, .long 0])), ((su.1 5), .inr (3, [.ref (su.1 6), .int 0])), ((su.1 6), .inl (G.2 2, 8, .inl (fun _ => 0))), ((su.1 7), .inr (1, [.ref (su.1 8), .int 1, .int 0, .int 0, .long 0])), ((su.1 8), .inl (G.2 4, 32, .inr (.inr (.inr (.inr (nf su.2 32)))))), ((su.1 0), .inl (G.2 0, 256, .inl (fun _ => 0))), ((su.1 1), .inl (G.2 1, 256, .inr (.inl (fun _ => 0)))), ((su.1 2), .inl (G.2 1, 2048, .inr (.inl (fun _ => 0)))), ((su.1 3), .inl (G.2 1, 2048, .inr (.inl (fun _ => 0)))), ((su.1 4), .inl (G.2 0, 10, .inl (fun _ => 0))), (q2, .inl (G.2 5, 3, .inr (.inr (.inr (.inr (va_up (va_up (fun _ => none) 0 (some q3)) 1 (some (su.1 5)))))))), (q3, .inr (3, [.ref rc0, .int 0])), (rc0, .inl (G.2 2, 14, .inl (fun _ => 0))), (q4, .inr (3, [.ref rc2, .int 0])), (rc2, .inl (G.2 2, 8, .inl (fun _ => 0)))] : va_W) ++ np su.2 a0 z64 z64 32) H := hP
  have hD : va_D A (([(h, .inr (5, [.ref q1, .ref (su.1 5), .null, .null, .int 0, .int 0, .int 0, .int 0, .long 0, .null, .null, .null, .int 0])), (q1, .inr (4, [.ref (su.1 0), .ref (su.1 1), .int 0, .ref (su.1 2), .ref (su.1 3), .ref (su.1 4), .int 0, .ref (su.1 5), .ref (su.1 7), .int 0, .int 0, .int 0, .long 0])), ((su.1 5), .inr (3, [.ref (su.1 6), .int 0])), ((su.1 6), .inl (G.2 2, 8, .inl (fun _ => 0))), ((su.1 7), .inr (1, [.ref (su.1 8), .int 1, .int 0, .int 0, .long 0])), ((su.1 8), .inl (G.2 4, 32, .inr (.inr (.inr (.inr (nf su.2 32)))))), ((su.1 0), .inl (G.2 0, 256, .inl (fun _ => 0))), ((su.1 1), .inl (G.2 1, 256, .inr (.inl (fun _ => 0)))), ((su.1 2), .inl (G.2 1, 2048, .inr (.inl (fun _ => 0)))), ((su.1 3), .inl (G.2 1, 2048, .inr (.inl (fun _ => 0)))), ((su.1 4), .inl (G.2 0, 10, .inl (fun _ => 0))), (q2, .inl (G.2 5, 3, .inr (.inr (.inr (.inr (va_up (va_up (fun _ => none) 0 (some q3)) 1 (some (su.1 5)))))))), (q3, .inr (3, [.ref rc0, .int 0])), (rc0, .inl (G.2 2, 14, .inl (fun _ => 0))), (q4, .inr (3, [.ref rc2, .int 0])), (rc2, .inl (G.2 2, 8, .inl (fun _ => 0)))] : va_W) ++ np su.2 a0 z64 z64 32) := hD
  refine va_astq (D := G.1) hx hb hK.1 hP hD hS 11 5 14 3 rfl rfl rfl rfl (vp_in_nI (n := 2) (by decide) (by decide)) dX5_init_61 (fun H locs hP hD hS => ?_)
  have hP : va_P G.1 vwCl (([(h, .inr (5, [.ref q1, .ref (su.1 5), .null, .null, .int 0, .int 0, .int 0, .int 0, .long 0, .null, .null, .null, .int 0])), (q1, .inr (4, [.ref (su.1 0), .ref (su.1 1), .int 0, .ref (su.1 2), .ref (su.1 3), .ref (su.1 4), .int 0, .ref (su.1 5), .ref (su.1 7), .int 0, .int 0, .int 0, .long 0])), ((su.1 5), .inr (3, [.ref (su.1 6), .int 0])), ((su.1 6), .inl (G.2 2, 8, .inl (fun _ => 0))), ((su.1 7), .inr (1, [.ref (su.1 8), .int 1, .int 0, .int 0, .long 0])), ((su.1 8), .inl (G.2 4, 32, .inr (.inr (.inr (.inr (nf su.2 32)))))), ((su.1 0), .inl (G.2 0, 256, .inl (fun _ => 0))), ((su.1 1), .inl (G.2 1, 256, .inr (.inl (fun _ => 0)))), ((su.1 2), .inl (G.2 1, 2048, .inr (.inl (fun _ => 0)))), ((su.1 3), .inl (G.2 1, 2048, .inr (.inl (fun _ => 0)))), ((su.1 4), .inl (G.2 0, 10, .inl (fun _ => 0))), (q2, .inl (G.2 5, 3, .inr (.inr (.inr (.inr (va_up (va_up (va_up (fun _ => none) 0 (some q3)) 1 (some (su.1 5))) 2 (some q4))))))), (q3, .inr (3, [.ref rc0, .int 0])), (rc0, .inl (G.2 2, 14, .inl (fun _ => 0))), (q4, .inr (3, [.ref rc2, .int 0])), (rc2, .inl (G.2 2, 8, .inl (fun _ => 0)))] : va_W) ++ np su.2 a0 z64 z64 32) H := hP
  have hD : va_D A (([(h, .inr (5, [.ref q1, .ref (su.1 5), .null, .null, .int 0, .int 0, .int 0, .int 0, .long 0, .null, .null, .null, .int 0])), (q1, .inr (4, [.ref (su.1 0), .ref (su.1 1), .int 0, .ref (su.1 2), .ref (su.1 3), .ref (su.1 4), .int 0, .ref (su.1 5), .ref (su.1 7), .int 0, .int 0, .int 0, .long 0])), ((su.1 5), .inr (3, [.ref (su.1 6), .int 0])), ((su.1 6), .inl (G.2 2, 8, .inl (fun _ => 0))), ((su.1 7), .inr (1, [.ref (su.1 8), .int 1, .int 0, .int 0, .long 0])), ((su.1 8), .inl (G.2 4, 32, .inr (.inr (.inr (.inr (nf su.2 32)))))), ((su.1 0), .inl (G.2 0, 256, .inl (fun _ => 0))), ((su.1 1), .inl (G.2 1, 256, .inr (.inl (fun _ => 0)))), ((su.1 2), .inl (G.2 1, 2048, .inr (.inl (fun _ => 0)))), ((su.1 3), .inl (G.2 1, 2048, .inr (.inl (fun _ => 0)))), ((su.1 4), .inl (G.2 0, 10, .inl (fun _ => 0))), (q2, .inl (G.2 5, 3, .inr (.inr (.inr (.inr (va_up (va_up (va_up (fun _ => none) 0 (some q3)) 1 (some (su.1 5))) 2 (some q4))))))), (q3, .inr (3, [.ref rc0, .int 0])), (rc0, .inl (G.2 2, 14, .inl (fun _ => 0))), (q4, .inr (3, [.ref rc2, .int 0])), (rc2, .inl (G.2 2, 8, .inl (fun _ => 0)))] : va_W) ++ np su.2 a0 z64 z64 32) := hD
  refine va_putF (D := G.1) (ci := 5) (v := .ref q2) (ty := .array (.object "PatternMatcher$Row")) (C := RX5) (T := TX5) (N := 13) hx hb hts inX5 tyX5 tyX5_ok nmX5 hown hK.1 hP hD hS 0 rfl rfl 2 (by decide) (hts _ w_192) (fun _ h9 => h9) rfl hin rfl (by decide +kernel) rfl rfl (Nat.le_of_ble_eq_true rfl) dX5_init_62 (fun H locs hP hD hS => ?_)
  have hP : va_P G.1 vwCl (([(h, .inr (5, [.ref q1, .ref (su.1 5), .ref q2, .null, .int 0, .int 0, .int 0, .int 0, .long 0, .null, .null, .null, .int 0])), (q1, .inr (4, [.ref (su.1 0), .ref (su.1 1), .int 0, .ref (su.1 2), .ref (su.1 3), .ref (su.1 4), .int 0, .ref (su.1 5), .ref (su.1 7), .int 0, .int 0, .int 0, .long 0])), ((su.1 5), .inr (3, [.ref (su.1 6), .int 0])), ((su.1 6), .inl (G.2 2, 8, .inl (fun _ => 0))), ((su.1 7), .inr (1, [.ref (su.1 8), .int 1, .int 0, .int 0, .long 0])), ((su.1 8), .inl (G.2 4, 32, .inr (.inr (.inr (.inr (nf su.2 32)))))), ((su.1 0), .inl (G.2 0, 256, .inl (fun _ => 0))), ((su.1 1), .inl (G.2 1, 256, .inr (.inl (fun _ => 0)))), ((su.1 2), .inl (G.2 1, 2048, .inr (.inl (fun _ => 0)))), ((su.1 3), .inl (G.2 1, 2048, .inr (.inl (fun _ => 0)))), ((su.1 4), .inl (G.2 0, 10, .inl (fun _ => 0))), (q2, .inl (G.2 5, 3, .inr (.inr (.inr (.inr (va_up (va_up (va_up (fun _ => none) 0 (some q3)) 1 (some (su.1 5))) 2 (some q4))))))), (q3, .inr (3, [.ref rc0, .int 0])), (rc0, .inl (G.2 2, 14, .inl (fun _ => 0))), (q4, .inr (3, [.ref rc2, .int 0])), (rc2, .inl (G.2 2, 8, .inl (fun _ => 0)))] : va_W) ++ np su.2 a0 z64 z64 32) H := hP
  have hD : va_D A (([(h, .inr (5, [.ref q1, .ref (su.1 5), .ref q2, .null, .int 0, .int 0, .int 0, .int 0, .long 0, .null, .null, .null, .int 0])), (q1, .inr (4, [.ref (su.1 0), .ref (su.1 1), .int 0, .ref (su.1 2), .ref (su.1 3), .ref (su.1 4), .int 0, .ref (su.1 5), .ref (su.1 7), .int 0, .int 0, .int 0, .long 0])), ((su.1 5), .inr (3, [.ref (su.1 6), .int 0])), ((su.1 6), .inl (G.2 2, 8, .inl (fun _ => 0))), ((su.1 7), .inr (1, [.ref (su.1 8), .int 1, .int 0, .int 0, .long 0])), ((su.1 8), .inl (G.2 4, 32, .inr (.inr (.inr (.inr (nf su.2 32)))))), ((su.1 0), .inl (G.2 0, 256, .inl (fun _ => 0))), ((su.1 1), .inl (G.2 1, 256, .inr (.inl (fun _ => 0)))), ((su.1 2), .inl (G.2 1, 2048, .inr (.inl (fun _ => 0)))), ((su.1 3), .inl (G.2 1, 2048, .inr (.inl (fun _ => 0)))), ((su.1 4), .inl (G.2 0, 10, .inl (fun _ => 0))), (q2, .inl (G.2 5, 3, .inr (.inr (.inr (.inr (va_up (va_up (va_up (fun _ => none) 0 (some q3)) 1 (some (su.1 5))) 2 (some q4))))))), (q3, .inr (3, [.ref rc0, .int 0])), (rc0, .inl (G.2 2, 14, .inl (fun _ => 0))), (q4, .inr (3, [.ref rc2, .int 0])), (rc2, .inl (G.2 2, 8, .inl (fun _ => 0)))] : va_W) ++ np su.2 a0 z64 z64 32) := hD
  refine lv_aload_n hx hb dX5_init_65 rfl (lv_at hl 0 rfl) ?_
  have hqc : 47 + 1 ≤ 85 := by omega
  have hqs : 5123 + 5 ≤ 5894 := by omega
  refine va_new (D := G.1) (ci := 1) (fs := [.null, .int 0, .int 0, .int 0, .long 0]) (C := RX1) (T := TX1) (N := 5) hx hb hts inX1 tyX1 tyX1_ok hown (hts _ w_188) (hts _ w_49) (hts _ w_4) hK.1 hP hD hS hA rfl (by decide +kernel) hqc hqs dX5_init_66 (fun q5 H hP hD hS => ?_)
  have hP : va_P G.1 vwCl ((([(h, .inr (5, [.ref q1, .ref (su.1 5), .ref q2, .null, .int 0, .int 0, .int 0, .int 0, .long 0, .null, .null, .null, .int 0])), (q1, .inr (4, [.ref (su.1 0), .ref (su.1 1), .int 0, .ref (su.1 2), .ref (su.1 3), .ref (su.1 4), .int 0, .ref (su.1 5), .ref (su.1 7), .int 0, .int 0, .int 0, .long 0])), ((su.1 5), .inr (3, [.ref (su.1 6), .int 0])), ((su.1 6), .inl (G.2 2, 8, .inl (fun _ => 0))), ((su.1 7), .inr (1, [.ref (su.1 8), .int 1, .int 0, .int 0, .long 0])), ((su.1 8), .inl (G.2 4, 32, .inr (.inr (.inr (.inr (nf su.2 32)))))), ((su.1 0), .inl (G.2 0, 256, .inl (fun _ => 0))), ((su.1 1), .inl (G.2 1, 256, .inr (.inl (fun _ => 0)))), ((su.1 2), .inl (G.2 1, 2048, .inr (.inl (fun _ => 0)))), ((su.1 3), .inl (G.2 1, 2048, .inr (.inl (fun _ => 0)))), ((su.1 4), .inl (G.2 0, 10, .inl (fun _ => 0))), (q2, .inl (G.2 5, 3, .inr (.inr (.inr (.inr (va_up (va_up (va_up (fun _ => none) 0 (some q3)) 1 (some (su.1 5))) 2 (some q4))))))), (q3, .inr (3, [.ref rc0, .int 0])), (rc0, .inl (G.2 2, 14, .inl (fun _ => 0))), (q4, .inr (3, [.ref rc2, .int 0])), (rc2, .inl (G.2 2, 8, .inl (fun _ => 0)))] : va_W) ++ np su.2 a0 z64 z64 32) ++ [(q5, .inr (1, [.null, .int 0, .int 0, .int 0, .long 0]))]) H := hP
  have hD : va_D A ((([(h, .inr (5, [.ref q1, .ref (su.1 5), .ref q2, .null, .int 0, .int 0, .int 0, .int 0, .long 0, .null, .null, .null, .int 0])), (q1, .inr (4, [.ref (su.1 0), .ref (su.1 1), .int 0, .ref (su.1 2), .ref (su.1 3), .ref (su.1 4), .int 0, .ref (su.1 5), .ref (su.1 7), .int 0, .int 0, .int 0, .long 0])), ((su.1 5), .inr (3, [.ref (su.1 6), .int 0])), ((su.1 6), .inl (G.2 2, 8, .inl (fun _ => 0))), ((su.1 7), .inr (1, [.ref (su.1 8), .int 1, .int 0, .int 0, .long 0])), ((su.1 8), .inl (G.2 4, 32, .inr (.inr (.inr (.inr (nf su.2 32)))))), ((su.1 0), .inl (G.2 0, 256, .inl (fun _ => 0))), ((su.1 1), .inl (G.2 1, 256, .inr (.inl (fun _ => 0)))), ((su.1 2), .inl (G.2 1, 2048, .inr (.inl (fun _ => 0)))), ((su.1 3), .inl (G.2 1, 2048, .inr (.inl (fun _ => 0)))), ((su.1 4), .inl (G.2 0, 10, .inl (fun _ => 0))), (q2, .inl (G.2 5, 3, .inr (.inr (.inr (.inr (va_up (va_up (va_up (fun _ => none) 0 (some q3)) 1 (some (su.1 5))) 2 (some q4))))))), (q3, .inr (3, [.ref rc0, .int 0])), (rc0, .inl (G.2 2, 14, .inl (fun _ => 0))), (q4, .inr (3, [.ref rc2, .int 0])), (rc2, .inl (G.2 2, 8, .inl (fun _ => 0)))] : va_W) ++ np su.2 a0 z64 z64 32) ++ [(q5, .inr (1, [.null, .int 0, .int 0, .int 0, .long 0]))]) := hD
  have hP := hP.swap; have hD := hD.swap
  have hP : va_P G.1 vwCl (([(h, .inr (5, [.ref q1, .ref (su.1 5), .ref q2, .null, .int 0, .int 0, .int 0, .int 0, .long 0, .null, .null, .null, .int 0])), (q1, .inr (4, [.ref (su.1 0), .ref (su.1 1), .int 0, .ref (su.1 2), .ref (su.1 3), .ref (su.1 4), .int 0, .ref (su.1 5), .ref (su.1 7), .int 0, .int 0, .int 0, .long 0])), ((su.1 5), .inr (3, [.ref (su.1 6), .int 0])), ((su.1 6), .inl (G.2 2, 8, .inl (fun _ => 0))), ((su.1 7), .inr (1, [.ref (su.1 8), .int 1, .int 0, .int 0, .long 0])), ((su.1 8), .inl (G.2 4, 32, .inr (.inr (.inr (.inr (nf su.2 32)))))), ((su.1 0), .inl (G.2 0, 256, .inl (fun _ => 0))), ((su.1 1), .inl (G.2 1, 256, .inr (.inl (fun _ => 0)))), ((su.1 2), .inl (G.2 1, 2048, .inr (.inl (fun _ => 0)))), ((su.1 3), .inl (G.2 1, 2048, .inr (.inl (fun _ => 0)))), ((su.1 4), .inl (G.2 0, 10, .inl (fun _ => 0))), (q2, .inl (G.2 5, 3, .inr (.inr (.inr (.inr (va_up (va_up (va_up (fun _ => none) 0 (some q3)) 1 (some (su.1 5))) 2 (some q4))))))), (q3, .inr (3, [.ref rc0, .int 0])), (rc0, .inl (G.2 2, 14, .inl (fun _ => 0))), (q4, .inr (3, [.ref rc2, .int 0])), (rc2, .inl (G.2 2, 8, .inl (fun _ => 0))), (q5, .inr (1, [.null, .int 0, .int 0, .int 0, .long 0]))] : va_W) ++ np su.2 a0 z64 z64 32) H := hP
  have hD : va_D A (([(h, .inr (5, [.ref q1, .ref (su.1 5), .ref q2, .null, .int 0, .int 0, .int 0, .int 0, .long 0, .null, .null, .null, .int 0])), (q1, .inr (4, [.ref (su.1 0), .ref (su.1 1), .int 0, .ref (su.1 2), .ref (su.1 3), .ref (su.1 4), .int 0, .ref (su.1 5), .ref (su.1 7), .int 0, .int 0, .int 0, .long 0])), ((su.1 5), .inr (3, [.ref (su.1 6), .int 0])), ((su.1 6), .inl (G.2 2, 8, .inl (fun _ => 0))), ((su.1 7), .inr (1, [.ref (su.1 8), .int 1, .int 0, .int 0, .long 0])), ((su.1 8), .inl (G.2 4, 32, .inr (.inr (.inr (.inr (nf su.2 32)))))), ((su.1 0), .inl (G.2 0, 256, .inl (fun _ => 0))), ((su.1 1), .inl (G.2 1, 256, .inr (.inl (fun _ => 0)))), ((su.1 2), .inl (G.2 1, 2048, .inr (.inl (fun _ => 0)))), ((su.1 3), .inl (G.2 1, 2048, .inr (.inl (fun _ => 0)))), ((su.1 4), .inl (G.2 0, 10, .inl (fun _ => 0))), (q2, .inl (G.2 5, 3, .inr (.inr (.inr (.inr (va_up (va_up (va_up (fun _ => none) 0 (some q3)) 1 (some (su.1 5))) 2 (some q4))))))), (q3, .inr (3, [.ref rc0, .int 0])), (rc0, .inl (G.2 2, 14, .inl (fun _ => 0))), (q4, .inr (3, [.ref rc2, .int 0])), (rc2, .inl (G.2 2, 8, .inl (fun _ => 0))), (q5, .inr (1, [.null, .int 0, .int 0, .int 0, .long 0]))] : va_W) ++ np su.2 a0 z64 z64 32) := hD
  refine W.widen (k := 48) (n := 5128) (by omega) (by omega) ?_
  refine lv_dup hx hb dX5_init_69 rfl ?_
  have hPc := hP.sub (ws' := [(q5, .inr (1, [.null, .int 0, .int 0, .int 0, .long 0]))]) [16] rfl
  have hDc := hD.sub (ws' := [(q5, .inr (1, [.null, .int 0, .int 0, .int 0, .long 0]))]) [16] (by decide) rfl
  have hqc : 48 + 33 ≤ 85 ∧ 5128 + 448 ≤ 5894 := ⟨by omega, by omega⟩
  refine kl_vQ (wr := [(h, .inr (5, [.ref q1, .ref (su.1 5), .ref q2, .null, .int 0, .int 0, .int 0, .int 0, .long 0, .null, .null, .null, .int 0])), (q1, .inr (4, [.ref (su.1 0), .ref (su.1 1), .int 0, .ref (su.1 2), .ref (su.1 3), .ref (su.1 4), .int 0, .ref (su.1 5), .ref (su.1 7), .int 0, .int 0, .int 0, .long 0])), ((su.1 5), .inr (3, [.ref (su.1 6), .int 0])), ((su.1 6), .inl (G.2 2, 8, .inl (fun _ => 0))), ((su.1 7), .inr (1, [.ref (su.1 8), .int 1, .int 0, .int 0, .long 0])), ((su.1 8), .inl (G.2 4, 32, .inr (.inr (.inr (.inr (nf su.2 32)))))), ((su.1 0), .inl (G.2 0, 256, .inl (fun _ => 0))), ((su.1 1), .inl (G.2 1, 256, .inr (.inl (fun _ => 0)))), ((su.1 2), .inl (G.2 1, 2048, .inr (.inl (fun _ => 0)))), ((su.1 3), .inl (G.2 1, 2048, .inr (.inl (fun _ => 0)))), ((su.1 4), .inl (G.2 0, 10, .inl (fun _ => 0))), (q2, .inl (G.2 5, 3, .inr (.inr (.inr (.inr (va_up (va_up (va_up (fun _ => none) 0 (some q3)) 1 (some (su.1 5))) 2 (some q4))))))), (q3, .inr (3, [.ref rc0, .int 0])), (rc0, .inl (G.2 2, 14, .inl (fun _ => 0))), (q4, .inr (3, [.ref rc2, .int 0])), (rc2, .inl (G.2 2, 8, .inl (fun _ => 0)))]) (va_runI (As := []) (rest := [.ref q5, .ref h]) F.1 (c_prog_init l G _ _) (cwI 0 hts (aw_G w_52) rfl rfl rfl (hts _ w_4) (hts _ w_189) (hts _ w_51) rfl (by decide +kernel) ⟨by decide, by decide⟩) ⟨cS_blind, cS_pre hPc hDc hK⟩ rfl rfl hl.1 rfl (lv_room (Nat.le_of_ble_eq_true rfl)) dX5_init_70 hqc) hP hD hS hA [16] [0, 1, 2, 3, 4, 5, 6, 7, 8, 9, 10, 11, 12, 13, 14, 15] rfl rfl (by decide) (by decide) (fun pu H locs hp hP hD hS => ?_)
  have hP : va_P G.1 vwCl (([(h, .inr (5, [.ref q1, .ref (su.1 5), .ref q2, .null, .int 0, .int 0, .int 0, .int 0, .long 0, .null, .null, .null, .int 0])), (q1, .inr (4, [.ref (su.1 0), .ref (su.1 1), .int 0, .ref (su.1 2), .ref (su.1 3), .ref (su.1 4), .int 0, .ref (su.1 5), .ref (su.1 7), .int 0, .int 0, .int 0, .long 0])), ((su.1 5), .inr (3, [.ref (su.1 6), .int 0])), ((su.1 6), .inl (G.2 2, 8, .inl (fun _ => 0))), ((su.1 7), .inr (1, [.ref (su.1 8), .int 1, .int 0, .int 0, .long 0])), ((su.1 8), .inl (G.2 4, 32, .inr (.inr (.inr (.inr (nf su.2 32)))))), ((su.1 0), .inl (G.2 0, 256, .inl (fun _ => 0))), ((su.1 1), .inl (G.2 1, 256, .inr (.inl (fun _ => 0)))), ((su.1 2), .inl (G.2 1, 2048, .inr (.inl (fun _ => 0)))), ((su.1 3), .inl (G.2 1, 2048, .inr (.inl (fun _ => 0)))), ((su.1 4), .inl (G.2 0, 10, .inl (fun _ => 0))), (q2, .inl (G.2 5, 3, .inr (.inr (.inr (.inr (va_up (va_up (va_up (fun _ => none) 0 (some q3)) 1 (some (su.1 5))) 2 (some q4))))))), (q3, .inr (3, [.ref rc0, .int 0])), (rc0, .inl (G.2 2, 14, .inl (fun _ => 0))), (q4, .inr (3, [.ref rc2, .int 0])), (rc2, .inl (G.2 2, 8, .inl (fun _ => 0))), (q5, .inr (1, [.ref pu.1, .int 1, .int 0, .int 0, .long 0])), (pu.1, .inl (G.2 4, 32, .inr (.inr (.inr (.inr (nf pu.2 32))))))] : va_W) ++ np pu.2 a0 z64 z64 32 ++ np su.2 a0 z64 z64 32) H := hP
  have hD : va_D A (([(h, .inr (5, [.ref q1, .ref (su.1 5), .ref q2, .null, .int 0, .int 0, .int 0, .int 0, .long 0, .null, .null, .null, .int 0])), (q1, .inr (4, [.ref (su.1 0), .ref (su.1 1), .int 0, .ref (su.1 2), .ref (su.1 3), .ref (su.1 4), .int 0, .ref (su.1 5), .ref (su.1 7), .int 0, .int 0, .int 0, .long 0])), ((su.1 5), .inr (3, [.ref (su.1 6), .int 0])), ((su.1 6), .inl (G.2 2, 8, .inl (fun _ => 0))), ((su.1 7), .inr (1, [.ref (su.1 8), .int 1, .int 0, .int 0, .long 0])), ((su.1 8), .inl (G.2 4, 32, .inr (.inr (.inr (.inr (nf su.2 32)))))), ((su.1 0), .inl (G.2 0, 256, .inl (fun _ => 0))), ((su.1 1), .inl (G.2 1, 256, .inr (.inl (fun _ => 0)))), ((su.1 2), .inl (G.2 1, 2048, .inr (.inl (fun _ => 0)))), ((su.1 3), .inl (G.2 1, 2048, .inr (.inl (fun _ => 0)))), ((su.1 4), .inl (G.2 0, 10, .inl (fun _ => 0))), (q2, .inl (G.2 5, 3, .inr (.inr (.inr (.inr (va_up (va_up (va_up (fun _ => none) 0 (some q3)) 1 (some (su.1 5))) 2 (some q4))))))), (q3, .inr (3, [.ref rc0, .int 0])), (rc0, .inl (G.2 2, 14, .inl (fun _ => 0))), (q4, .inr (3, [.ref rc2, .int 0])), (rc2, .inl (G.2 2, 8, .inl (fun _ => 0))), (q5, .inr (1, [.ref pu.1, .int 1, .int 0, .int 0, .long 0])), (pu.1, .inl (G.2 4, 32, .inr (.inr (.inr (.inr (nf pu.2 32))))))] : va_W) ++ np pu.2 a0 z64 z64 32 ++ np su.2 a0 z64 z64 32) := hD
  refine va_put (D := G.1) (ci := 5) (v := .ref q5) (ty := .object "PatternMatcher$Program") (C := RX5) (T := TX5) (N := 13) hx hb hts inX5 tyX5 tyX5_ok nmX5 hown hK.1 hP hD hS 0 rfl rfl 3 (by decide) (hts _ w_193) (fun _ h9 => h9) rfl (by decide +kernel) rfl rfl (Nat.le_of_ble_eq_true rfl) dX5_init_73 (fun H locs hP hD hS => ?_)
  have hP : va_P G.1 vwCl (([(h, .inr (5, [.ref q1, .ref (su.1 5), .ref q2, .ref q5, .int 0, .int 0, .int 0, .int 0, .long 0, .null, .null, .null, .int 0])), (q1, .inr (4, [.ref (su.1 0), .ref (su.1 1), .int 0, .ref (su.1 2), .ref (su.1 3), .ref (su.1 4), .int 0, .ref (su.1 5), .ref (su.1 7), .int 0, .int 0, .int 0, .long 0])), ((su.1 5), .inr (3, [.ref (su.1 6), .int 0])), ((su.1 6), .inl (G.2 2, 8, .inl (fun _ => 0))), ((su.1 7), .inr (1, [.ref (su.1 8), .int 1, .int 0, .int 0, .long 0])), ((su.1 8), .inl (G.2 4, 32, .inr (.inr (.inr (.inr (nf su.2 32)))))), ((su.1 0), .inl (G.2 0, 256, .inl (fun _ => 0))), ((su.1 1), .inl (G.2 1, 256, .inr (.inl (fun _ => 0)))), ((su.1 2), .inl (G.2 1, 2048, .inr (.inl (fun _ => 0)))), ((su.1 3), .inl (G.2 1, 2048, .inr (.inl (fun _ => 0)))), ((su.1 4), .inl (G.2 0, 10, .inl (fun _ => 0))), (q2, .inl (G.2 5, 3, .inr (.inr (.inr (.inr (va_up (va_up (va_up (fun _ => none) 0 (some q3)) 1 (some (su.1 5))) 2 (some q4))))))), (q3, .inr (3, [.ref rc0, .int 0])), (rc0, .inl (G.2 2, 14, .inl (fun _ => 0))), (q4, .inr (3, [.ref rc2, .int 0])), (rc2, .inl (G.2 2, 8, .inl (fun _ => 0))), (q5, .inr (1, [.ref pu.1, .int 1, .int 0, .int 0, .long 0])), (pu.1, .inl (G.2 4, 32, .inr (.inr (.inr (.inr (nf pu.2 32))))))] : va_W) ++ np pu.2 a0 z64 z64 32 ++ np su.2 a0 z64 z64 32) H := hP
  have hD : va_D A (([(h, .inr (5, [.ref q1, .ref (su.1 5), .ref q2, .ref q5, .int 0, .int 0, .int 0, .int 0, .long 0, .null, .null, .null, .int 0])), (q1, .inr (4, [.ref (su.1 0), .ref (su.1 1), .int 0, .ref (su.1 2), .ref (su.1 3), .ref (su.1 4), .int 0, .ref (su.1 5), .ref (su.1 7), .int 0, .int 0, .int 0, .long 0])), ((su.1 5), .inr (3, [.ref (su.1 6), .int 0])), ((su.1 6), .inl (G.2 2, 8, .inl (fun _ => 0))), ((su.1 7), .inr (1, [.ref (su.1 8), .int 1, .int 0, .int 0, .long 0])), ((su.1 8), .inl (G.2 4, 32, .inr (.inr (.inr (.inr (nf su.2 32)))))), ((su.1 0), .inl (G.2 0, 256, .inl (fun _ => 0))), ((su.1 1), .inl (G.2 1, 256, .inr (.inl (fun _ => 0)))), ((su.1 2), .inl (G.2 1, 2048, .inr (.inl (fun _ => 0)))), ((su.1 3), .inl (G.2 1, 2048, .inr (.inl (fun _ => 0)))), ((su.1 4), .inl (G.2 0, 10, .inl (fun _ => 0))), (q2, .inl (G.2 5, 3, .inr (.inr (.inr (.inr (va_up (va_up (va_up (fun _ => none) 0 (some q3)) 1 (some (su.1 5))) 2 (some q4))))))), (q3, .inr (3, [.ref rc0, .int 0])), (rc0, .inl (G.2 2, 14, .inl (fun _ => 0))), (q4, .inr (3, [.ref rc2, .int 0])), (rc2, .inl (G.2 2, 8, .inl (fun _ => 0))), (q5, .inr (1, [.ref pu.1, .int 1, .int 0, .int 0, .long 0])), (pu.1, .inl (G.2 4, 32, .inr (.inr (.inr (.inr (nf pu.2 32))))))] : va_W) ++ np pu.2 a0 z64 z64 32 ++ np su.2 a0 z64 z64 32) := hD
  refine lv_aload_n hx hb dX5_init_76 rfl (lv_at hl 0 rfl) ?_
  have hqc : 81 + 1 ≤ 85 := by omega
  have hqs : 5576 + 2 ≤ 5894 := by omega
  refine va_new (D := G.1) (ci := 3) (fs := [.null, .int 0]) (C := RX3) (T := TX3) (N := 2) hx hb hts inX3 tyX3 tyX3_ok hown (hts _ w_185) (hts _ w_35) (hts _ w_3) hK.1 hP hD hS hA rfl (by decide +kernel) hqc hqs dX5_init_77 (fun q6 H hP hD hS => ?_)
  have hP : va_P G.1 vwCl ((((([(h, .inr (5, [.ref q1, .ref (su.1 5), .ref q2, .ref q5, .int 0, .int 0, .int 0, .int 0, .long 0, .null, .null, .null, .int 0])), (q1, .inr (4, [.ref (su.1 0), .ref (su.1 1), .int 0, .ref (su.1 2), .ref (su.1 3), .ref (su.1 4), .int 0, .ref (su.1 5), .ref (su.1 7), .int 0, .int 0, .int 0, .long 0])), ((su.1 5), .inr (3, [.ref (su.1 6), .int 0])), ((su.1 6), .inl (G.2 2, 8, .inl (fun _ => 0))), ((su.1 7), .inr (1, [.ref (su.1 8), .int 1, .int 0, .int 0, .long 0])), ((su.1 8), .inl (G.2 4, 32, .inr (.inr (.inr (.inr (nf su.2 32)))))), ((su.1 0), .inl (G.2 0, 256, .inl (fun _ => 0))), ((su.1 1), .inl (G.2 1, 256, .inr (.inl (fun _ => 0)))), ((su.1 2), .inl (G.2 1, 2048, .inr (.inl (fun _ => 0)))), ((su.1 3), .inl (G.2 1, 2048, .inr (.inl (fun _ => 0)))), ((su.1 4), .inl (G.2 0, 10, .inl (fun _ => 0))), (q2, .inl (G.2 5, 3, .inr (.inr (.inr (.inr (va_up (va_up (va_up (fun _ => none) 0 (some q3)) 1 (some (su.1 5))) 2 (some q4))))))), (q3, .inr (3, [.ref rc0, .int 0])), (rc0, .inl (G.2 2, 14, .inl (fun _ => 0))), (q4, .inr (3, [.ref rc2, .int 0])), (rc2, .inl (G.2 2, 8, .inl (fun _ => 0))), (q5, .inr (1, [.ref pu.1, .int 1, .int 0, .int 0, .long 0])), (pu.1, .inl (G.2 4, 32, .inr (.inr (.inr (.inr (nf pu.2 32))))))] : va_W) ++ np pu.2 a0 z64 z64 32) : va_W) ++ np su.2 a0 z64 z64 32) ++ [(q6, .inr (3, [.null, .int 0]))]) H := hP
  have hD : va_D A ((((([(h, .inr (5, [.ref q1, .ref (su.1 5), .ref q2, .ref q5, .int 0, .int 0, .int 0, .int 0, .long 0, .null, .null, .null, .int 0])), (q1, .inr (4, [.ref (su.1 0), .ref (su.1 1), .int 0, .ref (su.1 2), .ref (su.1 3), .ref (su.1 4), .int 0, .ref (su.1 5), .ref (su.1 7), .int 0, .int 0, .int 0, .long 0])), ((su.1 5), .inr (3, [.ref (su.1 6), .int 0])), ((su.1 6), .inl (G.2 2, 8, .inl (fun _ => 0))), ((su.1 7), .inr (1, [.ref (su.1 8), .int 1, .int 0, .int 0, .long 0])), ((su.1 8), .inl (G.2 4, 32, .inr (.inr (.inr (.inr (nf su.2 32)))))), ((su.1 0), .inl (G.2 0, 256, .inl (fun _ => 0))), ((su.1 1), .inl (G.2 1, 256, .inr (.inl (fun _ => 0)))), ((su.1 2), .inl (G.2 1, 2048, .inr (.inl (fun _ => 0)))), ((su.1 3), .inl (G.2 1, 2048, .inr (.inl (fun _ => 0)))), ((su.1 4), .inl (G.2 0, 10, .inl (fun _ => 0))), (q2, .inl (G.2 5, 3, .inr (.inr (.inr (.inr (va_up (va_up (va_up (fun _ => none) 0 (some q3)) 1 (some (su.1 5))) 2 (some q4))))))), (q3, .inr (3, [.ref rc0, .int 0])), (rc0, .inl (G.2 2, 14, .inl (fun _ => 0))), (q4, .inr (3, [.ref rc2, .int 0])), (rc2, .inl (G.2 2, 8, .inl (fun _ => 0))), (q5, .inr (1, [.ref pu.1, .int 1, .int 0, .int 0, .long 0])), (pu.1, .inl (G.2 4, 32, .inr (.inr (.inr (.inr (nf pu.2 32))))))] : va_W) ++ np pu.2 a0 z64 z64 32) : va_W) ++ np su.2 a0 z64 z64 32) ++ [(q6, .inr (3, [.null, .int 0]))]) := hD
  have hP := hP.swap; have hD := hD.swap
  have hP : va_P G.1 vwCl (([(h, .inr (5, [.ref q1, .ref (su.1 5), .ref q2, .ref q5, .int 0, .int 0, .int 0, .int 0, .long 0, .null, .null, .null, .int 0])), (q1, .inr (4, [.ref (su.1 0), .ref (su.1 1), .int 0, .ref (su.1 2), .ref (su.1 3), .ref (su.1 4), .int 0, .ref (su.1 5), .ref (su.1 7), .int 0, .int 0, .int 0, .long 0])), ((su.1 5), .inr (3, [.ref (su.1 6), .int 0])), ((su.1 6), .inl (G.2 2, 8, .inl (fun _ => 0))), ((su.1 7), .inr (1, [.ref (su.1 8), .int 1, .int 0, .int 0, .long 0])), ((su.1 8), .inl (G.2 4, 32, .inr (.inr (.inr (.inr (nf su.2 32)))))), ((su.1 0), .inl (G.2 0, 256, .inl (fun _ => 0))), ((su.1 1), .inl (G.2 1, 256, .inr (.inl (fun _ => 0)))), ((su.1 2), .inl (G.2 1, 2048, .inr (.inl (fun _ => 0)))), ((su.1 3), .inl (G.2 1, 2048, .inr (.inl (fun _ => 0)))), ((su.1 4), .inl (G.2 0, 10, .inl (fun _ => 0))), (q2, .inl (G.2 5, 3, .inr (.inr (.inr (.inr (va_up (va_up (va_up (fun _ => none) 0 (some q3)) 1 (some (su.1 5))) 2 (some q4))))))), (q3, .inr (3, [.ref rc0, .int 0])), (rc0, .inl (G.2 2, 14, .inl (fun _ => 0))), (q4, .inr (3, [.ref rc2, .int 0])), (rc2, .inl (G.2 2, 8, .inl (fun _ => 0))), (q5, .inr (1, [.ref pu.1, .int 1, .int 0, .int 0, .long 0])), (pu.1, .inl (G.2 4, 32, .inr (.inr (.inr (.inr (nf pu.2 32))))))] : va_W) ++ np pu.2 a0 z64 z64 32 ++ ([(q6, .inr (3, [.null, .int 0]))] : va_W) ++ np su.2 a0 z64 z64 32) H := hP
  have hD : va_D A (([(h, .inr (5, [.ref q1, .ref (su.1 5), .ref q2, .ref q5, .int 0, .int 0, .int 0, .int 0, .long 0, .null, .null, .null, .int 0])), (q1, .inr (4, [.ref (su.1 0), .ref (su.1 1), .int 0, .ref (su.1 2), .ref (su.1 3), .ref (su.1 4), .int 0, .ref (su.1 5), .ref (su.1 7), .int 0, .int 0, .int 0, .long 0])), ((su.1 5), .inr (3, [.ref (su.1 6), .int 0])), ((su.1 6), .inl (G.2 2, 8, .inl (fun _ => 0))), ((su.1 7), .inr (1, [.ref (su.1 8), .int 1, .int 0, .int 0, .long 0])), ((su.1 8), .inl (G.2 4, 32, .inr (.inr (.inr (.inr (nf su.2 32)))))), ((su.1 0), .inl (G.2 0, 256, .inl (fun _ => 0))), ((su.1 1), .inl (G.2 1, 256, .inr (.inl (fun _ => 0)))), ((su.1 2), .inl (G.2 1, 2048, .inr (.inl (fun _ => 0)))), ((su.1 3), .inl (G.2 1, 2048, .inr (.inl (fun _ => 0)))), ((su.1 4), .inl (G.2 0, 10, .inl (fun _ => 0))), (q2, .inl (G.2 5, 3, .inr (.inr (.inr (.inr (va_up (va_up (va_up (fun _ => none) 0 (some q3)) 1 (some (su.1 5))) 2 (some q4))))))), (q3, .inr (3, [.ref rc0, .int 0])), (rc0, .inl (G.2 2, 14, .inl (fun _ => 0))), (q4, .inr (3, [.ref rc2, .int 0])), (rc2, .inl (G.2 2, 8, .inl (fun _ => 0))), (q5, .inr (1, [.ref pu.1, .int 1, .int 0, .int 0, .long 0])), (pu.1, .inl (G.2 4, 32, .inr (.inr (.inr (.inr (nf pu.2 32))))))] : va_W) ++ np pu.2 a0 z64 z64 32 ++ ([(q6, .inr (3, [.null, .int 0]))] : va_W) ++ np su.2 a0 z64 z64 32) := hD
  refine W.widen (k := 82) (n := 5578) (by omega) (by omega) ?_
  refine lv_dup hx hb dX5_init_80 rfl ?_
  refine lv_sipush (v := 296) hx hb dX5_init_81 (by decide) ?_
  have hPc := hP.sub (ws' := [(q6, .inr (3, [.null, .int 0]))]) [50] rfl
  have hDc := hD.sub (ws' := [(q6, .inr (3, [.null, .int 0]))]) [50] (by decide) rfl
  have hqc : 82 + 1 ≤ 85 ∧ 5578 + 296 ≤ 5894 := ⟨by omega, by omega⟩
  refine kl_vQ (wr := (([(h, .inr (5, [.ref q1, .ref (su.1 5), .ref q2, .ref q5, .int 0, .int 0, .int 0, .int 0, .long 0, .null, .null, .null, .int 0])), (q1, .inr (4, [.ref (su.1 0), .ref (su.1 1), .int 0, .ref (su.1 2), .ref (su.1 3), .ref (su.1 4), .int 0, .ref (su.1 5), .ref (su.1 7), .int 0, .int 0, .int 0, .long 0])), ((su.1 5), .inr (3, [.ref (su.1 6), .int 0])), ((su.1 6), .inl (G.2 2, 8, .inl (fun _ => 0))), ((su.1 7), .inr (1, [.ref (su.1 8), .int 1, .int 0, .int 0, .long 0])), ((su.1 8), .inl (G.2 4, 32, .inr (.inr (.inr (.inr (nf su.2 32)))))), ((su.1 0), .inl (G.2 0, 256, .inl (fun _ => 0))), ((su.1 1), .inl (G.2 1, 256, .inr (.inl (fun _ => 0)))), ((su.1 2), .inl (G.2 1, 2048, .inr (.inl (fun _ => 0)))), ((su.1 3), .inl (G.2 1, 2048, .inr (.inl (fun _ => 0)))), ((su.1 4), .inl (G.2 0, 10, .inl (fun _ => 0))), (q2, .inl (G.2 5, 3, .inr (.inr (.inr (.inr (va_up (va_up (va_up (fun _ => none) 0 (some q3)) 1 (some (su.1 5))) 2 (some q4))))))), (q3, .inr (3, [.ref rc0, .int 0])), (rc0, .inl (G.2 2, 14, .inl (fun _ => 0))), (q4, .inr (3, [.ref rc2, .int 0])), (rc2, .inl (G.2 2, 8, .inl (fun _ => 0))), (q5, .inr (1, [.ref pu.1, .int 1, .int 0, .int 0, .long 0])), (pu.1, .inl (G.2 4, 32, .inr (.inr (.inr (.inr (nf pu.2 32))))))] : va_W) ++ np pu.2 a0 z64 z64 32)) (va_runI (As := [.int 296]) (rest := [.ref q6, .ref h]) F.1 (c_row_init l G _ 296 (by decide) _) (cwI 1 hts (aw_G w_38) rfl rfl rfl (hts _ w_3) (hts _ w_187) (hts _ w_37) rfl (by decide +kernel) ⟨by decide, by decide⟩) ⟨cS_blind, cS_pre hPc hDc hK⟩ rfl rfl hl.1 rfl (lv_room (Nat.le_of_ble_eq_true rfl)) dX5_init_84 hqc) hP hD hS hA [50] [0, 1, 2, 3, 4, 5, 6, 7, 8, 9, 10, 11, 12, 13, 14, 15, 16, 17, 18, 19, 20, 21, 22, 23, 24, 25, 26, 27, 28, 29, 30, 31, 32, 33, 34, 35, 36, 37, 38, 39, 40, 41, 42, 43, 44, 45, 46, 47, 48, 49] rfl rfl (by decide) (by decide) (fun rc3 H locs hp hP hD hS => ?_)
  have hP : va_P G.1 vwCl (([(h, .inr (5, [.ref q1, .ref (su.1 5), .ref q2, .ref q5, .int 0, .int 0, .int 0, .int 0, .long 0, .null, .null, .null, .int 0])), (q1, .inr (4, [.ref (su.1 0), .ref (su.1 1), .int 0, .ref (su.1 2), .ref (su.1 3), .ref (su.1 4), .int 0, .ref (su.1 5), .ref (su.1 7), .int 0, .int 0, .int 0, .long 0])), ((su.1 5), .inr (3, [.ref (su.1 6), .int 0])), ((su.1 6), .inl (G.2 2, 8, .inl (fun _ => 0))), ((su.1 7), .inr (1, [.ref (su.1 8), .int 1, .int 0, .int 0, .long 0])), ((su.1 8), .inl (G.2 4, 32, .inr (.inr (.inr (.inr (nf su.2 32)))))), ((su.1 0), .inl (G.2 0, 256, .inl (fun _ => 0))), ((su.1 1), .inl (G.2 1, 256, .inr (.inl (fun _ => 0)))), ((su.1 2), .inl (G.2 1, 2048, .inr (.inl (fun _ => 0)))), ((su.1 3), .inl (G.2 1, 2048, .inr (.inl (fun _ => 0)))), ((su.1 4), .inl (G.2 0, 10, .inl (fun _ => 0))), (q2, .inl (G.2 5, 3, .inr (.inr (.inr (.inr (va_up (va_up (va_up (fun _ => none) 0 (some q3)) 1 (some (su.1 5))) 2 (some q4))))))), (q3, .inr (3, [.ref rc0, .int 0])), (rc0, .inl (G.2 2, 14, .inl (fun _ => 0))), (q4, .inr (3, [.ref rc2, .int 0])), (rc2, .inl (G.2 2, 8, .inl (fun _ => 0))), (q5, .inr (1, [.ref pu.1, .int 1, .int 0, .int 0, .long 0])), (pu.1, .inl (G.2 4, 32, .inr (.inr (.inr (.inr (nf pu.2 32))))))] : va_W) ++ np pu.2 a0 z64 z64 32 ++ ([(q6, .inr (3, [.ref rc3, .int 0])), (rc3, .inl (G.2 2, 296, .inl (fun _ => 0)))] : va_W) ++ np su.2 a0 z64 z64 32) H := hP
  have hD : va_D A (([(h, .inr (5, [.ref q1, .ref (su.1 5), .ref q2, .ref q5, .int 0, .int 0, .int 0, .int 0, .long 0, .null, .null, .null, .int 0])), (q1, .inr (4, [.ref (su.1 0), .ref (su.1 1), .int 0, .ref (su.1 2), .ref (su.1 3), .ref (su.1 4), .int 0, .ref (su.1 5), .ref (su.1 7), .int 0, .int 0, .int 0, .long 0])), ((su.1 5), .inr (3, [.ref (su.1 6), .int 0])), ((su.1 6), .inl (G.2 2, 8, .inl (fun _ => 0))), ((su.1 7), .inr (1, [.ref (su.1 8), .int 1, .int 0, .int 0, .long 0])), ((su.1 8), .inl (G.2 4, 32, .inr (.inr (.inr (.inr (nf su.2 32)))))), ((su.1 0), .inl (G.2 0, 256, .inl (fun _ => 0))), ((su.1 1), .inl (G.2 1, 256, .inr (.inl (fun _ => 0)))), ((su.1 2), .inl (G.2 1, 2048, .inr (.inl (fun _ => 0)))), ((su.1 3), .inl (G.2 1, 2048, .inr (.inl (fun _ => 0)))), ((su.1 4), .inl (G.2 0, 10, .inl (fun _ => 0))), (q2, .inl (G.2 5, 3, .inr (.inr (.inr (.inr (va_up (va_up (va_up (fun _ => none) 0 (some q3)) 1 (some (su.1 5))) 2 (some q4))))))), (q3, .inr (3, [.ref rc0, .int 0])), (rc0, .inl (G.2 2, 14, .inl (fun _ => 0))), (q4, .inr (3, [.ref rc2, .int 0])), (rc2, .inl (G.2 2, 8, .inl (fun _ => 0))), (q5, .inr (1, [.ref pu.1, .int 1, .int 0, .int 0, .long 0])), (pu.1, .inl (G.2 4, 32, .inr (.inr (.inr (.inr (nf pu.2 32))))))] : va_W) ++ np pu.2 a0 z64 z64 32 ++ ([(q6, .inr (3, [.ref rc3, .int 0])), (rc3, .inl (G.2 2, 296, .inl (fun _ => 0)))] : va_W) ++ np su.2 a0 z64 z64 32) := hD
  refine va_putF (D := G.1) (ci := 5) (v := .ref q6) (ty := .object "PatternMatcher$Row") (C := RX5) (T := TX5) (N := 13) hx hb hts inX5 tyX5 tyX5_ok nmX5 hown hK.1 hP hD hS 0 rfl rfl 9 (by decide) (hts _ w_199) (fun _ h9 => h9) rfl hin rfl (by decide +kernel) rfl rfl (Nat.le_of_ble_eq_true rfl) dX5_init_87 (fun H locs hP hD hS => ?_)
  have hP : va_P G.1 vwCl (([(h, .inr (5, [.ref q1, .ref (su.1 5), .ref q2, .ref q5, .int 0, .int 0, .int 0, .int 0, .long 0, .ref q6, .null, .null, .int 0])), (q1, .inr (4, [.ref (su.1 0), .ref (su.1 1), .int 0, .ref (su.1 2), .ref (su.1 3), .ref (su.1 4), .int 0, .ref (su.1 5), .ref (su.1 7), .int 0, .int 0, .int 0, .long 0])), ((su.1 5), .inr (3, [.ref (su.1 6), .int 0])), ((su.1 6), .inl (G.2 2, 8, .inl (fun _ => 0))), ((su.1 7), .inr (1, [.ref (su.1 8), .int 1, .int 0, .int 0, .long 0])), ((su.1 8), .inl (G.2 4, 32, .inr (.inr (.inr (.inr (nf su.2 32)))))), ((su.1 0), .inl (G.2 0, 256, .inl (fun _ => 0))), ((su.1 1), .inl (G.2 1, 256, .inr (.inl (fun _ => 0)))), ((su.1 2), .inl (G.2 1, 2048, .inr (.inl (fun _ => 0)))), ((su.1 3), .inl (G.2 1, 2048, .inr (.inl (fun _ => 0)))), ((su.1 4), .inl (G.2 0, 10, .inl (fun _ => 0))), (q2, .inl (G.2 5, 3, .inr (.inr (.inr (.inr (va_up (va_up (va_up (fun _ => none) 0 (some q3)) 1 (some (su.1 5))) 2 (some q4))))))), (q3, .inr (3, [.ref rc0, .int 0])), (rc0, .inl (G.2 2, 14, .inl (fun _ => 0))), (q4, .inr (3, [.ref rc2, .int 0])), (rc2, .inl (G.2 2, 8, .inl (fun _ => 0))), (q5, .inr (1, [.ref pu.1, .int 1, .int 0, .int 0, .long 0])), (pu.1, .inl (G.2 4, 32, .inr (.inr (.inr (.inr (nf pu.2 32))))))] : va_W) ++ np pu.2 a0 z64 z64 32 ++ ([(q6, .inr (3, [.ref rc3, .int 0])), (rc3, .inl (G.2 2, 296, .inl (fun _ => 0)))] : va_W) ++ np su.2 a0 z64 z64 32) H := hP
  have hD : va_D A (([(h, .inr (5, [.ref q1, .ref (su.1 5), .ref q2, .ref q5, .int 0, .int 0, .int 0, .int 0, .long 0, .ref q6, .null, .null, .int 0])), (q1, .inr (4, [.ref (su.1 0), .ref (su.1 1), .int 0, .ref (su.1 2), .ref (su.1 3), .ref (su.1 4), .int 0, .ref (su.1 5), .ref (su.1 7), .int 0, .int 0, .int 0, .long 0])), ((su.1 5), .inr (3, [.ref (su.1 6), .int 0])), ((su.1 6), .inl (G.2 2, 8, .inl (fun _ => 0))), ((su.1 7), .inr (1, [.ref (su.1 8), .int 1, .int 0, .int 0, .long 0])), ((su.1 8), .inl (G.2 4, 32, .inr (.inr (.inr (.inr (nf su.2 32)))))), ((su.1 0), .inl (G.2 0, 256, .inl (fun _ => 0))), ((su.1 1), .inl (G.2 1, 256, .inr (.inl (fun _ => 0)))), ((su.1 2), .inl (G.2 1, 2048, .inr (.inl (fun _ => 0)))), ((su.1 3), .inl (G.2 1, 2048, .inr (.inl (fun _ => 0)))), ((su.1 4), .inl (G.2 0, 10, .inl (fun _ => 0))), (q2, .inl (G.2 5, 3, .inr (.inr (.inr (.inr (va_up (va_up (va_up (fun _ => none) 0 (some q3)) 1 (some (su.1 5))) 2 (some q4))))))), (q3, .inr (3, [.ref rc0, .int 0])), (rc0, .inl (G.2 2, 14, .inl (fun _ => 0))), (q4, .inr (3, [.ref rc2, .int 0])), (rc2, .inl (G.2 2, 8, .inl (fun _ => 0))), (q5, .inr (1, [.ref pu.1, .int 1, .int 0, .int 0, .long 0])), (pu.1, .inl (G.2 4, 32, .inr (.inr (.inr (.inr (nf pu.2 32))))))] : va_W) ++ np pu.2 a0 z64 z64 32 ++ ([(q6, .inr (3, [.ref rc3, .int 0])), (rc3, .inl (G.2 2, 296, .inl (fun _ => 0)))] : va_W) ++ np su.2 a0 z64 z64 32) := hD
  refine lv_aload_n hx hb dX5_init_90 rfl (lv_at hl 0 rfl) ?_
  refine lv_bipush (v := 10) hx hb dX5_init_91 (by decide) ?_
  have hqc : 83 + 1 ≤ 85 := by omega
  have hqs : 5874 + 10 ≤ 5894 := by omega
  refine pg_newa (atype := .int) (i := 0) (ty := .int) (N' := 10) (a0 := (10, .inl (fun _ => 0))) hx hb (hts _ w_183) rfl hK rfl hP hD hS hA (fun _ => rfl) (by decide) (by decide) (by decide) hqc hqs dX5_init_93 (fun qa H hP hD hS => ?_)
  have hP : va_P G.1 vwCl ((((([(h, .inr (5, [.ref q1, .ref (su.1 5), .ref q2, .ref q5, .int 0, .int 0, .int 0, .int 0, .long 0, .ref q6, .null, .null, .int 0])), (q1, .inr (4, [.ref (su.1 0), .ref (su.1 1), .int 0, .ref (su.1 2), .ref (su.1 3), .ref (su.1 4), .int 0, .ref (su.1 5), .ref (su.1 7), .int 0, .int 0, .int 0, .long 0])), ((su.1 5), .inr (3, [.ref (su.1 6), .int 0])), ((su.1 6), .inl (G.2 2, 8, .inl (fun _ => 0))), ((su.1 7), .inr (1, [.ref (su.1 8), .int 1, .int 0, .int 0, .long 0])), ((su.1 8), .inl (G.2 4, 32, .inr (.inr (.inr (.inr (nf su.2 32)))))), ((su.1 0), .inl (G.2 0, 256, .inl (fun _ => 0))), ((su.1 1), .inl (G.2 1, 256, .inr (.inl (fun _ => 0)))), ((su.1 2), .inl (G.2 1, 2048, .inr (.inl (fun _ => 0)))), ((su.1 3), .inl (G.2 1, 2048, .inr (.inl (fun _ => 0)))), ((su.1 4), .inl (G.2 0, 10, .inl (fun _ => 0))), (q2, .inl (G.2 5, 3, .inr (.inr (.inr (.inr (va_up (va_up (va_up (fun _ => none) 0 (some q3)) 1 (some (su.1 5))) 2 (some q4))))))), (q3, .inr (3, [.ref rc0, .int 0])), (rc0, .inl (G.2 2, 14, .inl (fun _ => 0))), (q4, .inr (3, [.ref rc2, .int 0])), (rc2, .inl (G.2 2, 8, .inl (fun _ => 0))), (q5, .inr (1, [.ref pu.1, .int 1, .int 0, .int 0, .long 0])), (pu.1, .inl (G.2 4, 32, .inr (.inr (.inr (.inr (nf pu.2 32))))))] : va_W) ++ np pu.2 a0 z64 z64 32 ++ ([(q6, .inr (3, [.ref rc3, .int 0])), (rc3, .inl (G.2 2, 296, .inl (fun _ => 0)))] : va_W)) : va_W) ++ np su.2 a0 z64 z64 32) ++ [(qa, .inl (G.2 0, 10, .inl (fun _ => 0)))]) H := hP
  have hD : va_D A ((((([(h, .inr (5, [.ref q1, .ref (su.1 5), .ref q2, .ref q5, .int 0, .int 0, .int 0, .int 0, .long 0, .ref q6, .null, .null, .int 0])), (q1, .inr (4, [.ref (su.1 0), .ref (su.1 1), .int 0, .ref (su.1 2), .ref (su.1 3), .ref (su.1 4), .int 0, .ref (su.1 5), .ref (su.1 7), .int 0, .int 0, .int 0, .long 0])), ((su.1 5), .inr (3, [.ref (su.1 6), .int 0])), ((su.1 6), .inl (G.2 2, 8, .inl (fun _ => 0))), ((su.1 7), .inr (1, [.ref (su.1 8), .int 1, .int 0, .int 0, .long 0])), ((su.1 8), .inl (G.2 4, 32, .inr (.inr (.inr (.inr (nf su.2 32)))))), ((su.1 0), .inl (G.2 0, 256, .inl (fun _ => 0))), ((su.1 1), .inl (G.2 1, 256, .inr (.inl (fun _ => 0)))), ((su.1 2), .inl (G.2 1, 2048, .inr (.inl (fun _ => 0)))), ((su.1 3), .inl (G.2 1, 2048, .inr (.inl (fun _ => 0)))), ((su.1 4), .inl (G.2 0, 10, .inl (fun _ => 0))), (q2, .inl (G.2 5, 3, .inr (.inr (.inr (.inr (va_up (va_up (va_up (fun _ => none) 0 (some q3)) 1 (some (su.1 5))) 2 (some q4))))))), (q3, .inr (3, [.ref rc0, .int 0])), (rc0, .inl (G.2 2, 14, .inl (fun _ => 0))), (q4, .inr (3, [.ref rc2, .int 0])), (rc2, .inl (G.2 2, 8, .inl (fun _ => 0))), (q5, .inr (1, [.ref pu.1, .int 1, .int 0, .int 0, .long 0])), (pu.1, .inl (G.2 4, 32, .inr (.inr (.inr (.inr (nf pu.2 32))))))] : va_W) ++ np pu.2 a0 z64 z64 32 ++ ([(q6, .inr (3, [.ref rc3, .int 0])), (rc3, .inl (G.2 2, 296, .inl (fun _ => 0)))] : va_W)) : va_W) ++ np su.2 a0 z64 z64 32) ++ [(qa, .inl (G.2 0, 10, .inl (fun _ => 0)))]) := hD
  have hP := hP.swap; have hD := hD.swap
  have hP : va_P G.1 vwCl (([(h, .inr (5, [.ref q1, .ref (su.1 5), .ref q2, .ref q5, .int 0, .int 0, .int 0, .int 0, .long 0, .ref q6, .null, .null, .int 0])), (q1, .inr (4, [.ref (su.1 0), .ref (su.1 1), .int 0, .ref (su.1 2), .ref (su.1 3), .ref (su.1 4), .int 0, .ref (su.1 5), .ref (su.1 7), .int 0, .int 0, .int 0, .long 0])), ((su.1 5), .inr (3, [.ref (su.1 6), .int 0])), ((su.1 6), .inl (G.2 2, 8, .inl (fun _ => 0))), ((su.1 7), .inr (1, [.ref (su.1 8), .int 1, .int 0, .int 0, .long 0])), ((su.1 8), .inl (G.2 4, 32, .inr (.inr (.inr (.inr (nf su.2 32)))))), ((su.1 0), .inl (G.2 0, 256, .inl (fun _ => 0))), ((su.1 1), .inl (G.2 1, 256, .inr (.inl (fun _ => 0)))), ((su.1 2), .inl (G.2 1, 2048, .inr (.inl (fun _ => 0)))), ((su.1 3), .inl (G.2 1, 2048, .inr (.inl (fun _ => 0)))), ((su.1 4), .inl (G.2 0, 10, .inl (fun _ => 0))), (q2, .inl (G.2 5, 3, .inr (.inr (.inr (.inr (va_up (va_up (va_up (fun _ => none) 0 (some q3)) 1 (some (su.1 5))) 2 (some q4))))))), (q3, .inr (3, [.ref rc0, .int 0])), (rc0, .inl (G.2 2, 14, .inl (fun _ => 0))), (q4, .inr (3, [.ref rc2, .int 0])), (rc2, .inl (G.2 2, 8, .inl (fun _ => 0))), (q5, .inr (1, [.ref pu.1, .int 1, .int 0, .int 0, .long 0])), (pu.1, .inl (G.2 4, 32, .inr (.inr (.inr (.inr (nf pu.2 32))))))] : va_W) ++ np pu.2 a0 z64 z64 32 ++ ([(q6, .inr (3, [.ref rc3, .int 0])), (rc3, .inl (G.2 2, 296, .inl (fun _ => 0))), (qa, .inl (G.2 0, 10, .inl (fun _ => 0)))] : va_W) ++ np su.2 a0 z64 z64 32) H := hP
  have hD : va_D A (([(h, .inr (5, [.ref q1, .ref (su.1 5), .ref q2, .ref q5, .int 0, .int 0, .int 0, .int 0, .long 0, .ref q6, .null, .null, .int 0])), (q1, .inr (4, [.ref (su.1 0), .ref (su.1 1), .int 0, .ref (su.1 2), .ref (su.1 3), .ref (su.1 4), .int 0, .ref (su.1 5), .ref (su.1 7), .int 0, .int 0, .int 0, .long 0])), ((su.1 5), .inr (3, [.ref (su.1 6), .int 0])), ((su.1 6), .inl (G.2 2, 8, .inl (fun _ => 0))), ((su.1 7), .inr (1, [.ref (su.1 8), .int 1, .int 0, .int 0, .long 0])), ((su.1 8), .inl (G.2 4, 32, .inr (.inr (.inr (.inr (nf su.2 32)))))), ((su.1 0), .inl (G.2 0, 256, .inl (fun _ => 0))), ((su.1 1), .inl (G.2 1, 256, .inr (.inl (fun _ => 0)))), ((su.1 2), .inl (G.2 1, 2048, .inr (.inl (fun _ => 0)))), ((su.1 3), .inl (G.2 1, 2048, .inr (.inl (fun _ => 0)))), ((su.1 4), .inl (G.2 0, 10, .inl (fun _ => 0))), (q2, .inl (G.2 5, 3, .inr (.inr (.inr (.inr (va_up (va_up (va_up (fun _ => none) 0 (some q3)) 1 (some (su.1 5))) 2 (some q4))))))), (q3, .inr (3, [.ref rc0, .int 0])), (rc0, .inl (G.2 2, 14, .inl (fun _ => 0))), (q4, .inr (3, [.ref rc2, .int 0])), (rc2, .inl (G.2 2, 8, .inl (fun _ => 0))), (q5, .inr (1, [.ref pu.1, .int 1, .int 0, .int 0, .long 0])), (pu.1, .inl (G.2 4, 32, .inr (.inr (.inr (.inr (nf pu.2 32))))))] : va_W) ++ np pu.2 a0 z64 z64 32 ++ ([(q6, .inr (3, [.ref rc3, .int 0])), (rc3, .inl (G.2 2, 296, .inl (fun _ => 0))), (qa, .inl (G.2 0, 10, .inl (fun _ => 0)))] : va_W) ++ np su.2 a0 z64 z64 32) := hD
  refine W.widen (k := 84) (n := 5884) (by omega) (by omega) ?_
  refine va_putF (D := G.1) (ci := 5) (v := .ref qa) (ty := .array .int) (C := RX5) (T := TX5) (N := 13) hx hb hts inX5 tyX5 tyX5_ok nmX5 hown hK.1 hP hD hS 0 rfl rfl 10 (by decide) (hts _ w_200) (fun _ h9 => h9) rfl hin rfl (by decide +kernel) rfl rfl (Nat.le_of_ble_eq_true rfl) dX5_init_95 (fun H locs hP hD hS => ?_)
  have hP : va_P G.1 vwCl (([(h, .inr (5, [.ref q1, .ref (su.1 5), .ref q2, .ref q5, .int 0, .int 0, .int 0, .int 0, .long 0, .ref q6, .ref qa, .null, .int 0])), (q1, .inr (4, [.ref (su.1 0), .ref (su.1 1), .int 0, .ref (su.1 2), .ref (su.1 3), .ref (su.1 4), .int 0, .ref (su.1 5), .ref (su.1 7), .int 0, .int 0, .int 0, .long 0])), ((su.1 5), .inr (3, [.ref (su.1 6), .int 0])), ((su.1 6), .inl (G.2 2, 8, .inl (fun _ => 0))), ((su.1 7), .inr (1, [.ref (su.1 8), .int 1, .int 0, .int 0, .long 0])), ((su.1 8), .inl (G.2 4, 32, .inr (.inr (.inr (.inr (nf su.2 32)))))), ((su.1 0), .inl (G.2 0, 256, .inl (fun _ => 0))), ((su.1 1), .inl (G.2 1, 256, .inr (.inl (fun _ => 0)))), ((su.1 2), .inl (G.2 1, 2048, .inr (.inl (fun _ => 0)))), ((su.1 3), .inl (G.2 1, 2048, .inr (.inl (fun _ => 0)))), ((su.1 4), .inl (G.2 0, 10, .inl (fun _ => 0))), (q2, .inl (G.2 5, 3, .inr (.inr (.inr (.inr (va_up (va_up (va_up (fun _ => none) 0 (some q3)) 1 (some (su.1 5))) 2 (some q4))))))), (q3, .inr (3, [.ref rc0, .int 0])), (rc0, .inl (G.2 2, 14, .inl (fun _ => 0))), (q4, .inr (3, [.ref rc2, .int 0])), (rc2, .inl (G.2 2, 8, .inl (fun _ => 0))), (q5, .inr (1, [.ref pu.1, .int 1, .int 0, .int 0, .long 0])), (pu.1, .inl (G.2 4, 32, .inr (.inr (.inr (.inr (nf pu.2 32))))))] : va_W) ++ np pu.2 a0 z64 z64 32 ++ ([(q6, .inr (3, [.ref rc3, .int 0])), (rc3, .inl (G.2 2, 296, .inl (fun _ => 0))), (qa, .inl (G.2 0, 10, .inl (fun _ => 0)))] : va_W) ++ np su.2 a0 z64 z64 32) H := hP
  have hD : va_D A (([(h, .inr (5, [.ref q1, .ref (su.1 5), .ref q2, .ref q5, .int 0, .int 0, .int 0, .int 0, .long 0, .ref q6, .ref qa, .null, .int 0])), (q1, .inr (4, [.ref (su.1 0), .ref (su.1 1), .int 0, .ref (su.1 2), .ref (su.1 3), .ref (su.1 4), .int 0, .ref (su.1 5), .ref (su.1 7), .int 0, .int 0, .int 0, .long 0])), ((su.1 5), .inr (3, [.ref (su.1 6), .int 0])), ((su.1 6), .inl (G.2 2, 8, .inl (fun _ => 0))), ((su.1 7), .inr (1, [.ref (su.1 8), .int 1, .int 0, .int 0, .long 0])), ((su.1 8), .inl (G.2 4, 32, .inr (.inr (.inr (.inr (nf su.2 32)))))), ((su.1 0), .inl (G.2 0, 256, .inl (fun _ => 0))), ((su.1 1), .inl (G.2 1, 256, .inr (.inl (fun _ => 0)))), ((su.1 2), .inl (G.2 1, 2048, .inr (.inl (fun _ => 0)))), ((su.1 3), .inl (G.2 1, 2048, .inr (.inl (fun _ => 0)))), ((su.1 4), .inl (G.2 0, 10, .inl (fun _ => 0))), (q2, .inl (G.2 5, 3, .inr (.inr (.inr (.inr (va_up (va_up (va_up (fun _ => none) 0 (some q3)) 1 (some (su.1 5))) 2 (some q4))))))), (q3, .inr (3, [.ref rc0, .int 0])), (rc0, .inl (G.2 2, 14, .inl (fun _ => 0))), (q4, .inr (3, [.ref rc2, .int 0])), (rc2, .inl (G.2 2, 8, .inl (fun _ => 0))), (q5, .inr (1, [.ref pu.1, .int 1, .int 0, .int 0, .long 0])), (pu.1, .inl (G.2 4, 32, .inr (.inr (.inr (.inr (nf pu.2 32))))))] : va_W) ++ np pu.2 a0 z64 z64 32 ++ ([(q6, .inr (3, [.ref rc3, .int 0])), (rc3, .inl (G.2 2, 296, .inl (fun _ => 0))), (qa, .inl (G.2 0, 10, .inl (fun _ => 0)))] : va_W) ++ np su.2 a0 z64 z64 32) := hD
  refine lv_aload_n hx hb dX5_init_98 rfl (lv_at hl 0 rfl) ?_
  refine lv_bipush (v := 10) hx hb dX5_init_99 (by decide) ?_
  have hqc : 84 + 1 ≤ 85 := by omega
  have hqs : 5884 + 10 ≤ 5894 := by omega
  refine pg_newa (atype := .int) (i := 0) (ty := .int) (N' := 10) (a0 := (10, .inl (fun _ => 0))) hx hb (hts _ w_183) rfl hK rfl hP hD hS hA (fun _ => rfl) (by decide) (by decide) (by decide) hqc hqs dX5_init_101 (fun qb H hP hD hS => ?_)
  have hP : va_P G.1 vwCl ((((([(h, .inr (5, [.ref q1, .ref (su.1 5), .ref q2, .ref q5, .int 0, .int 0, .int 0, .int 0, .long 0, .ref q6, .ref qa, .null, .int 0])), (q1, .inr (4, [.ref (su.1 0), .ref (su.1 1), .int 0, .ref (su.1 2), .ref (su.1 3), .ref (su.1 4), .int 0, .ref (su.1 5), .ref (su.1 7), .int 0, .int 0, .int 0, .long 0])), ((su.1 5), .inr (3, [.ref (su.1 6), .int 0])), ((su.1 6), .inl (G.2 2, 8, .inl (fun _ => 0))), ((su.1 7), .inr (1, [.ref (su.1 8), .int 1, .int 0, .int 0, .long 0])), ((su.1 8), .inl (G.2 4, 32, .inr (.inr (.inr (.inr (nf su.2 32)))))), ((su.1 0), .inl (G.2 0, 256, .inl (fun _ => 0))), ((su.1 1), .inl (G.2 1, 256, .inr (.inl (fun _ => 0)))), ((su.1 2), .inl (G.2 1, 2048, .inr (.inl (fun _ => 0)))), ((su.1 3), .inl (G.2 1, 2048, .inr (.inl (fun _ => 0)))), ((su.1 4), .inl (G.2 0, 10, .inl (fun _ => 0))), (q2, .inl (G.2 5, 3, .inr (.inr (.inr (.inr (va_up (va_up (va_up (fun _ => none) 0 (some q3)) 1 (some (su.1 5))) 2 (some q4))))))), (q3, .inr (3, [.ref rc0, .int 0])), (rc0, .inl (G.2 2, 14, .inl (fun _ => 0))), (q4, .inr (3, [.ref rc2, .int 0])), (rc2, .inl (G.2 2, 8, .inl (fun _ => 0))), (q5, .inr (1, [.ref pu.1, .int 1, .int 0, .int 0, .long 0])), (pu.1, .inl (G.2 4, 32, .inr (.inr (.inr (.inr (nf pu.2 32))))))] : va_W) ++ np pu.2 a0 z64 z64 32 ++ ([(q6, .inr (3, [.ref rc3, .int 0])), (rc3, .inl (G.2 2, 296, .inl (fun _ => 0))), (qa, .inl (G.2 0, 10, .inl (fun _ => 0)))] : va_W)) : va_W) ++ np su.2 a0 z64 z64 32) ++ [(qb, .inl (G.2 0, 10, .inl (fun _ => 0)))]) H := hP
  have hD : va_D A ((((([(h, .inr (5, [.ref q1, .ref (su.1 5), .ref q2, .ref q5, .int 0, .int 0, .int 0, .int 0, .long 0, .ref q6, .ref qa, .null, .int 0])), (q1, .inr (4, [.ref (su.1 0), .ref (su.1 1), .int 0, .ref (su.1 2), .ref (su.1 3), .ref (su.1 4), .int 0, .ref (su.1 5), .ref (su.1 7), .int 0, .int 0, .int 0, .long 0])), ((su.1 5), .inr (3, [.ref (su.1 6), .int 0])), ((su.1 6), .inl (G.2 2, 8, .inl (fun _ => 0))), ((su.1 7), .inr (1, [.ref (su.1 8), .int 1, .int 0, .int 0, .long 0])), ((su.1 8), .inl (G.2 4, 32, .inr (.inr (.inr (.inr (nf su.2 32)))))), ((su.1 0), .inl (G.2 0, 256, .inl (fun _ => 0))), ((su.1 1), .inl (G.2 1, 256, .inr (.inl (fun _ => 0)))), ((su.1 2), .inl (G.2 1, 2048, .inr (.inl (fun _ => 0)))), ((su.1 3), .inl (G.2 1, 2048, .inr (.inl (fun _ => 0)))), ((su.1 4), .inl (G.2 0, 10, .inl (fun _ => 0))), (q2, .inl (G.2 5, 3, .inr (.inr (.inr (.inr (va_up (va_up (va_up (fun _ => none) 0 (some q3)) 1 (some (su.1 5))) 2 (some q4))))))), (q3, .inr (3, [.ref rc0, .int 0])), (rc0, .inl (G.2 2, 14, .inl (fun _ => 0))), (q4, .inr (3, [.ref rc2, .int 0])), (rc2, .inl (G.2 2, 8, .inl (fun _ => 0))), (q5, .inr (1, [.ref pu.1, .int 1, .int 0, .int 0, .long 0])), (pu.1, .inl (G.2 4, 32, .inr (.inr (.inr (.inr (nf pu.2 32))))))] : va_W) ++ np pu.2 a0 z64 z64 32 ++ ([(q6, .inr (3, [.ref rc3, .int 0])), (rc3, .inl (G.2 2, 296, .inl (fun _ => 0))), (qa, .inl (G.2 0, 10, .inl (fun _ => 0)))] : va_W)) : va_W) ++ np su.2 a0 z64 z64 32) ++ [(qb, .inl (G.2 0, 10, .inl (fun _ => 0)))]) := hD
  have hP := hP.swap; have hD := hD.swap
  have hP : va_P G.1 vwCl (([(h, .inr (5, [.ref q1, .ref (su.1 5), .ref q2, .ref q5, .int 0, .int 0, .int 0, .int 0, .long 0, .ref q6, .ref qa, .null, .int 0])), (q1, .inr (4, [.ref (su.1 0), .ref (su.1 1), .int 0, .ref (su.1 2), .ref (su.1 3), .ref (su.1 4), .int 0, .ref (su.1 5), .ref (su.1 7), .int 0, .int 0, .int 0, .long 0])), ((su.1 5), .inr (3, [.ref (su.1 6), .int 0])), ((su.1 6), .inl (G.2 2, 8, .inl (fun _ => 0))), ((su.1 7), .inr (1, [.ref (su.1 8), .int 1, .int 0, .int 0, .long 0])), ((su.1 8), .inl (G.2 4, 32, .inr (.inr (.inr (.inr (nf su.2 32)))))), ((su.1 0), .inl (G.2 0, 256, .inl (fun _ => 0))), ((su.1 1), .inl (G.2 1, 256, .inr (.inl (fun _ => 0)))), ((su.1 2), .inl (G.2 1, 2048, .inr (.inl (fun _ => 0)))), ((su.1 3), .inl (G.2 1, 2048, .inr (.inl (fun _ => 0)))), ((su.1 4), .inl (G.2 0, 10, .inl (fun _ => 0))), (q2, .inl (G.2 5, 3, .inr (.inr (.inr (.inr (va_up (va_up (va_up (fun _ => none) 0 (some q3)) 1 (some (su.1 5))) 2 (some q4))))))), (q3, .inr (3, [.ref rc0, .int 0])), (rc0, .inl (G.2 2, 14, .inl (fun _ => 0))), (q4, .inr (3, [.ref rc2, .int 0])), (rc2, .inl (G.2 2, 8, .inl (fun _ => 0))), (q5, .inr (1, [.ref pu.1, .int 1, .int 0, .int 0, .long 0])), (pu.1, .inl (G.2 4, 32, .inr (.inr (.inr (.inr (nf pu.2 32))))))] : va_W) ++ np pu.2 a0 z64 z64 32 ++ ([(q6, .inr (3, [.ref rc3, .int 0])), (rc3, .inl (G.2 2, 296, .inl (fun _ => 0))), (qa, .inl (G.2 0, 10, .inl (fun _ => 0))), (qb, .inl (G.2 0, 10, .inl (fun _ => 0)))] : va_W) ++ np su.2 a0 z64 z64 32) H := hP
  have hD : va_D A (([(h, .inr (5, [.ref q1, .ref (su.1 5), .ref q2, .ref q5, .int 0, .int 0, .int 0, .int 0, .long 0, .ref q6, .ref qa, .null, .int 0])), (q1, .inr (4, [.ref (su.1 0), .ref (su.1 1), .int 0, .ref (su.1 2), .ref (su.1 3), .ref (su.1 4), .int 0, .ref (su.1 5), .ref (su.1 7), .int 0, .int 0, .int 0, .long 0])), ((su.1 5), .inr (3, [.ref (su.1 6), .int 0])), ((su.1 6), .inl (G.2 2, 8, .inl (fun _ => 0))), ((su.1 7), .inr (1, [.ref (su.1 8), .int 1, .int 0, .int 0, .long 0])), ((su.1 8), .inl (G.2 4, 32, .inr (.inr (.inr (.inr (nf su.2 32)))))), ((su.1 0), .inl (G.2 0, 256, .inl (fun _ => 0))), ((su.1 1), .inl (G.2 1, 256, .inr (.inl (fun _ => 0)))), ((su.1 2), .inl (G.2 1, 2048, .inr (.inl (fun _ => 0)))), ((su.1 3), .inl (G.2 1, 2048, .inr (.inl (fun _ => 0)))), ((su.1 4), .inl (G.2 0, 10, .inl (fun _ => 0))), (q2, .inl (G.2 5, 3, .inr (.inr (.inr (.inr (va_up (va_up (va_up (fun _ => none) 0 (some q3)) 1 (some (su.1 5))) 2 (some q4))))))), (q3, .inr (3, [.ref rc0, .int 0])), (rc0, .inl (G.2 2, 14, .inl (fun _ => 0))), (q4, .inr (3, [.ref rc2, .int 0])), (rc2, .inl (G.2 2, 8, .inl (fun _ => 0))), (q5, .inr (1, [.ref pu.1, .int 1, .int 0, .int 0, .long 0])), (pu.1, .inl (G.2 4, 32, .inr (.inr (.inr (.inr (nf pu.2 32))))))] : va_W) ++ np pu.2 a0 z64 z64 32 ++ ([(q6, .inr (3, [.ref rc3, .int 0])), (rc3, .inl (G.2 2, 296, .inl (fun _ => 0))), (qa, .inl (G.2 0, 10, .inl (fun _ => 0))), (qb, .inl (G.2 0, 10, .inl (fun _ => 0)))] : va_W) ++ np su.2 a0 z64 z64 32) := hD
  refine W.widen (k := 85) (n := 5894) (by omega) (by omega) ?_
  refine va_putF (D := G.1) (ci := 5) (v := .ref qb) (ty := .array .int) (C := RX5) (T := TX5) (N := 13) hx hb hts inX5 tyX5 tyX5_ok nmX5 hown hK.1 hP hD hS 0 rfl rfl 11 (by decide) (hts _ w_201) (fun _ h9 => h9) rfl hin rfl (by decide +kernel) rfl rfl (Nat.le_of_ble_eq_true rfl) dX5_init_103 (fun H locs hP hD hS => ?_)
  have hP : va_P G.1 vwCl (([(h, .inr (5, [.ref q1, .ref (su.1 5), .ref q2, .ref q5, .int 0, .int 0, .int 0, .int 0, .long 0, .ref q6, .ref qa, .ref qb, .int 0])), (q1, .inr (4, [.ref (su.1 0), .ref (su.1 1), .int 0, .ref (su.1 2), .ref (su.1 3), .ref (su.1 4), .int 0, .ref (su.1 5), .ref (su.1 7), .int 0, .int 0, .int 0, .long 0])), ((su.1 5), .inr (3, [.ref (su.1 6), .int 0])), ((su.1 6), .inl (G.2 2, 8, .inl (fun _ => 0))), ((su.1 7), .inr (1, [.ref (su.1 8), .int 1, .int 0, .int 0, .long 0])), ((su.1 8), .inl (G.2 4, 32, .inr (.inr (.inr (.inr (nf su.2 32)))))), ((su.1 0), .inl (G.2 0, 256, .inl (fun _ => 0))), ((su.1 1), .inl (G.2 1, 256, .inr (.inl (fun _ => 0)))), ((su.1 2), .inl (G.2 1, 2048, .inr (.inl (fun _ => 0)))), ((su.1 3), .inl (G.2 1, 2048, .inr (.inl (fun _ => 0)))), ((su.1 4), .inl (G.2 0, 10, .inl (fun _ => 0))), (q2, .inl (G.2 5, 3, .inr (.inr (.inr (.inr (va_up (va_up (va_up (fun _ => none) 0 (some q3)) 1 (some (su.1 5))) 2 (some q4))))))), (q3, .inr (3, [.ref rc0, .int 0])), (rc0, .inl (G.2 2, 14, .inl (fun _ => 0))), (q4, .inr (3, [.ref rc2, .int 0])), (rc2, .inl (G.2 2, 8, .inl (fun _ => 0))), (q5, .inr (1, [.ref pu.1, .int 1, .int 0, .int 0, .long 0])), (pu.1, .inl (G.2 4, 32, .inr (.inr (.inr (.inr (nf pu.2 32))))))] : va_W) ++ np pu.2 a0 z64 z64 32 ++ ([(q6, .inr (3, [.ref rc3, .int 0])), (rc3, .inl (G.2 2, 296, .inl (fun _ => 0))), (qa, .inl (G.2 0, 10, .inl (fun _ => 0))), (qb, .inl (G.2 0, 10, .inl (fun _ => 0)))] : va_W) ++ np su.2 a0 z64 z64 32) H := hP
  have hD : va_D A (([(h, .inr (5, [.ref q1, .ref (su.1 5), .ref q2, .ref q5, .int 0, .int 0, .int 0, .int 0, .long 0, .ref q6, .ref qa, .ref qb, .int 0])), (q1, .inr (4, [.ref (su.1 0), .ref (su.1 1), .int 0, .ref (su.1 2), .ref (su.1 3), .ref (su.1 4), .int 0, .ref (su.1 5), .ref (su.1 7), .int 0, .int 0, .int 0, .long 0])), ((su.1 5), .inr (3, [.ref (su.1 6), .int 0])), ((su.1 6), .inl (G.2 2, 8, .inl (fun _ => 0))), ((su.1 7), .inr (1, [.ref (su.1 8), .int 1, .int 0, .int 0, .long 0])), ((su.1 8), .inl (G.2 4, 32, .inr (.inr (.inr (.inr (nf su.2 32)))))), ((su.1 0), .inl (G.2 0, 256, .inl (fun _ => 0))), ((su.1 1), .inl (G.2 1, 256, .inr (.inl (fun _ => 0)))), ((su.1 2), .inl (G.2 1, 2048, .inr (.inl (fun _ => 0)))), ((su.1 3), .inl (G.2 1, 2048, .inr (.inl (fun _ => 0)))), ((su.1 4), .inl (G.2 0, 10, .inl (fun _ => 0))), (q2, .inl (G.2 5, 3, .inr (.inr (.inr (.inr (va_up (va_up (va_up (fun _ => none) 0 (some q3)) 1 (some (su.1 5))) 2 (some q4))))))), (q3, .inr (3, [.ref rc0, .int 0])), (rc0, .inl (G.2 2, 14, .inl (fun _ => 0))), (q4, .inr (3, [.ref rc2, .int 0])), (rc2, .inl (G.2 2, 8, .inl (fun _ => 0))), (q5, .inr (1, [.ref pu.1, .int 1, .int 0, .int 0, .long 0])), (pu.1, .inl (G.2 4, 32, .inr (.inr (.inr (.inr (nf pu.2 32))))))] : va_W) ++ np pu.2 a0 z64 z64 32 ++ ([(q6, .inr (3, [.ref rc3, .int 0])), (rc3, .inl (G.2 2, 296, .inl (fun _ => 0))), (qa, .inl (G.2 0, 10, .inl (fun _ => 0))), (qb, .inl (G.2 0, 10, .inl (fun _ => 0)))] : va_W) ++ np su.2 a0 z64 z64 32) := hD
  exact en_v F hS (fun k => [su.1 0, su.1 1, su.1 2, su.1 3, su.1 4, su.1 5, su.1 6, su.1 7, su.1 8, q1, q2, q3, rc0, q4, rc2, q5, pu.1, q6, rc3, qa, qb].getD k 0, su.2, pu.2) trivial hP hD (by omega) (by omega) dX5_init_106
end
section
/-! PatternMatcher: rows, matches forgotten -/
def isRowV (r : Int32) : Int32 := if r < 0 ∨ (3 : Int32) ≤ r then 0 else 1
theorem dX5_isRow_0 : decode cX5_isRow 0 = .ok (.iload_n 0, 1) := by decide +kernel
theorem dX5_isRow_1 : decode cX5_isRow 1 = .ok (.ifCond .lt 12, 3) := by decide +kernel
theorem dX5_isRow_4 : decode cX5_isRow 4 = .ok (.iload_n 0, 1) := by decide +kernel
theorem dX5_isRow_5 : decode cX5_isRow 5 = .ok (.iconst 3, 1) := by decide +kernel
theorem dX5_isRow_6 : decode cX5_isRow 6 = .ok (.if_icmp .ge 7, 3) := by decide +kernel
theorem dX5_isRow_9 : decode cX5_isRow 9 = .ok (.iconst 1, 1) := by decide +kernel
theorem dX5_isRow_10 : decode cX5_isRow 10 = .ok (.goto 4, 3) := by decide +kernel
theorem dX5_isRow_13 : decode cX5_isRow 13 = .ok (.iconst 0, 1) := by decide +kernel
theorem dX5_isRow_14 : decode cX5_isRow 14 = .ok (.ireturn, 1) := by decide +kernel
set_option maxHeartbeats 4000000 in
set_option maxRecDepth 100000 in
theorem c_isRow (l : Launch) (G : PG) (r : Int32) : Ci l yX5_isRow (Cond.code yX5_isRow cX5_isRow 1 (some .boolean) :: aW) { frames := 0, cells := 0, slots := 0, locals := 0 } G [] [.int r] (S := Unit) (fun (r9 : Int32) (_ : Unit) => r9 = isRowV r) (fun (_ : Unit) => []) 0 0 := by
  refine ofB (y := yX5_isRow) (G := G) (cc := cX5_isRow) (maxL := 1) (ret := (some .boolean)) (Qc := fun A => va_Qi (fun (r9 : Int32) (_ : Unit) => r9 = isRowV r) (oB G A (fun (_ : Unit) => [])) A) (by decide) rfl ?_
  intro p e s m below meth c A F hK hA hP hD
  have hx := F.1.1; have hb := F.1.2.1; have hml := F.1.2.2.1; have hts := F.1.2.2.2.2
  have hown : s.vm.findClass RX5 = some m.cls := F.1.2.2.2.1
  have hS : va_S A s.heap s.heap [] := va_S.rf
  have hl := lv_entry ([.int r]) (n := 1) (Nat.le_of_ble_eq_true rfl)
  rw [lg_entry_eq]
  generalize (lg_sl ([.int r]) ++ List.replicate (1 - (lg_sl ([.int r])).length) Slot.unset).toArray = ls at hl ⊢
  have hl : lv_has ls 1 [(0, .int r)] := hl
  refine lv_iload_n hx hb dX5_isRow_0 rfl (lv_at hl 0 rfl) ?_
  refine lv_if_lt (tgt := 13) hx hb dX5_isRow_1 (by decide) (fun h1 => ?_) (fun h1 => ?_)
  ·
    refine lv_iconst (v := 0) hx hb dX5_isRow_13 (by decide) ?_
    exact en_i F hS 0 () (by rfl) ((if_pos (Or.inl h1)).symm) hP hD (by omega) (by omega) dX5_isRow_14
  ·
    refine lv_iload_n hx hb dX5_isRow_4 rfl (lv_at hl 0 rfl) ?_
    refine lv_iconst (v := 3) hx hb dX5_isRow_5 (by decide) ?_
    refine lv_icmp_ge (tgt := 13) hx hb dX5_isRow_6 (by decide) (fun h2 => ?_) (fun h2 => ?_)
    ·
      refine lv_iconst (v := 0) hx hb dX5_isRow_13 (by decide) ?_
      exact en_i F hS 0 () (by rfl) ((if_pos (Or.inr h2)).symm) hP hD (by omega) (by omega) dX5_isRow_14
    ·
      refine lv_iconst (v := 1) hx hb dX5_isRow_9 (by decide) ?_
      refine lv_goto (tgt := 14) hx hb dX5_isRow_10 (by decide) ?_
      exact en_i F hS 1 () (by rfl) ((if_neg (fun z => z.elim h1 h2)).symm) hP hD (by omega) (by omega) dX5_isRow_14

theorem dX5_forgetMatchIfText_0 : decode cX5_forgetMatchIfText 0 = .ok (.iload_n 1, 1) := by decide +kernel
theorem dX5_forgetMatchIfText_1 : decode cX5_forgetMatchIfText 1 = .ok (.iconst 1, 1) := by decide +kernel
theorem dX5_forgetMatchIfText_2 : decode cX5_forgetMatchIfText 2 = .ok (.if_icmp .ne 8, 3) := by decide +kernel
theorem dX5_forgetMatchIfText_5 : decode cX5_forgetMatchIfText 5 = .ok (.aload_n 0, 1) := by decide +kernel
theorem dX5_forgetMatchIfText_6 : decode cX5_forgetMatchIfText 6 = .ok (.iconst 0, 1) := by decide +kernel
theorem dX5_forgetMatchIfText_7 : decode cX5_forgetMatchIfText 7 = .ok (.putfield 80, 3) := by decide +kernel
theorem dX5_forgetMatchIfText_10 : decode cX5_forgetMatchIfText 10 = .ok (.return_, 1) := by decide +kernel
set_option maxHeartbeats 4000000 in
set_option maxRecDepth 100000 in
theorem c_forget1 (l : Launch) (G : PG) (h se tx rs sp md pf pt : Nat) (cp mt mf mo pcs : Int32) (msp : Int64) : Cv l yX5_forgetMatchIfText (Cond.code yX5_forgetMatchIfText cX5_forgetMatchIfText 2 none :: aW) { frames := 0, cells := 0, slots := 0, locals := 0 } G [(h, .inr (5, [.ref se, .ref tx, .ref rs, .ref sp, .int cp, .int mt, .int mf, .int mo, .long msp, .ref md, .ref pf, .ref pt, .int pcs]))] [.ref h, .int 1] (S := Unit) (fun (_ : Unit) => True) (fun (_ : Unit) => [(h, .inr (5, [.ref se, .ref tx, .ref rs, .ref sp, .int cp, .int 0, .int mf, .int mo, .long msp, .ref md, .ref pf, .ref pt, .int pcs]))]) 0 0 := by
  refine ofB (y := yX5_forgetMatchIfText) (G := G) (cc := cX5_forgetMatchIfText) (maxL := 2) (ret := none) (Qc := fun A => va_Qv (fun (_ : Unit) => True) (oB G A (fun (_ : Unit) => [(h, .inr (5, [.ref se, .ref tx, .ref rs, .ref sp, .int cp, .int 0, .int mf, .int mo, .long msp, .ref md, .ref pf, .ref pt, .int pcs]))])) A) (by decide) rfl ?_
  intro p e s m below meth c A F hK hA hP hD
  have hx := F.1.1; have hb := F.1.2.1; have hml := F.1.2.2.1; have hts := F.1.2.2.2.2
  have hown : s.vm.findClass RX5 = some m.cls := F.1.2.2.2.1
  have hS : va_S A s.heap s.heap [] := va_S.rf
  have hl := lv_entry ([.ref h, .int 1]) (n := 2) (Nat.le_of_ble_eq_true rfl)
  rw [lg_entry_eq]
  generalize (lg_sl ([.ref h, .int 1]) ++ List.replicate (2 - (lg_sl ([.ref h, .int 1])).length) Slot.unset).toArray = ls at hl ⊢
  have hl : lv_has ls 2 [(0, .ref h), (1, .int 1)] := hl
  refine lv_iload_n hx hb dX5_forgetMatchIfText_0 rfl (lv_at hl 1 rfl) ?_
  refine lv_iconst (v := 1) hx hb dX5_forgetMatchIfText_1 (by decide) ?_
  refine lv_icmp_ne (tgt := 10) hx hb dX5_forgetMatchIfText_2 (by decide) (fun h => absurd rfl h) (fun _ => ?_)
  refine lv_aload_n hx hb dX5_forgetMatchIfText_5 rfl (lv_at hl 0 rfl) ?_
  refine lv_iconst (v := 0) hx hb dX5_forgetMatchIfText_6 (by decide) ?_
  refine va_put (D := G.1) (ci := 5) (v := .int 0) (ty := .boolean) (C := RX5) (T := TX5) (N := 13) hx hb hts inX5 tyX5 tyX5_ok nmX5 hown hK.1 hP hD hS 0 rfl rfl 5 (by decide) (hts _ w_195) (fun _ h9 => h9) rfl (by decide +kernel) rfl rfl (Nat.le_of_ble_eq_true rfl) dX5_forgetMatchIfText_7 (fun H locs hP hD hS => ?_)
  have hP : va_P G.1 vwCl [(h, .inr (5, [.ref se, .ref tx, .ref rs, .ref sp, .int cp, .int 0, .int mf, .int mo, .long msp, .ref md, .ref pf, .ref pt, .int pcs]))] H := hP
  have hD : va_D A [(h, .inr (5, [.ref se, .ref tx, .ref rs, .ref sp, .int cp, .int 0, .int mf, .int mo, .long msp, .ref md, .ref pf, .ref pt, .int pcs]))] := hD
  exact en_v F hS () trivial hP hD (by omega) (by omega) dX5_forgetMatchIfText_10

set_option maxHeartbeats 4000000 in
set_option maxRecDepth 100000 in
theorem c_forgetN (l : Launch) (G : PG) (h se tx rs sp md pf pt : Nat) (cp mt mf mo pcs : Int32) (msp : Int64) (r : Int32) (hr : ¬ r = 1) : Cv l yX5_forgetMatchIfText (Cond.code yX5_forgetMatchIfText cX5_forgetMatchIfText 2 none :: aW) { frames := 0, cells := 0, slots := 0, locals := 0 } G [(h, .inr (5, [.ref se, .ref tx, .ref rs, .ref sp, .int cp, .int mt, .int mf, .int mo, .long msp, .ref md, .ref pf, .ref pt, .int pcs]))] [.ref h, .int r] (S := Unit) (fun (_ : Unit) => True) (fun (_ : Unit) => [(h, .inr (5, [.ref se, .ref tx, .ref rs, .ref sp, .int cp, .int mt, .int mf, .int mo, .long msp, .ref md, .ref pf, .ref pt, .int pcs]))]) 0 0 := by
  refine ofB (y := yX5_forgetMatchIfText) (G := G) (cc := cX5_forgetMatchIfText) (maxL := 2) (ret := none) (Qc := fun A => va_Qv (fun (_ : Unit) => True) (oB G A (fun (_ : Unit) => [(h, .inr (5, [.ref se, .ref tx, .ref rs, .ref sp, .int cp, .int mt, .int mf, .int mo, .long msp, .ref md, .ref pf, .ref pt, .int pcs]))])) A) (by decide) rfl ?_
  intro p e s m below meth c A F hK hA hP hD
  have hx := F.1.1; have hb := F.1.2.1; have hml := F.1.2.2.1; have hts := F.1.2.2.2.2
  have hown : s.vm.findClass RX5 = some m.cls := F.1.2.2.2.1
  have hS : va_S A s.heap s.heap [] := va_S.rf
  have hl := lv_entry ([.ref h, .int r]) (n := 2) (Nat.le_of_ble_eq_true rfl)
  rw [lg_entry_eq]
  generalize (lg_sl ([.ref h, .int r]) ++ List.replicate (2 - (lg_sl ([.ref h, .int r])).length) Slot.unset).toArray = ls at hl ⊢
  have hl : lv_has ls 2 [(0, .ref h), (1, .int r)] := hl
  refine lv_iload_n hx hb dX5_forgetMatchIfText_0 rfl (lv_at hl 1 rfl) ?_
  refine lv_iconst (v := 1) hx hb dX5_forgetMatchIfText_1 (by decide) ?_
  refine lv_icmp_ne (tgt := 10) hx hb dX5_forgetMatchIfText_2 (by decide) (fun _ => ?_) (fun h => absurd h hr)
  exact en_v F hS () trivial hP hD (by omega) (by omega) dX5_forgetMatchIfText_10

theorem tb_3 {r ch : Int32} (hbad : r < 0 ∨ (3 : Int32) ≤ r ∨ ch < 32 ∨ (126 : Int32) < ch) (h1 : ¬ isRowV r = 0) (h2 : ¬ ch < 32) : (126 : Int32) < ch := by
  rcases hbad with h | h | h | h
  · exact absurd (if_pos (Or.inl h)) h1
  · exact absurd (if_pos (Or.inr h)) h1
  · exact absurd h h2
  · exact h
theorem dX5_type_0 : decode cX5_type 0 = .ok (.iload_n 1, 1) := by decide +kernel
theorem dX5_type_1 : decode cX5_type 1 = .ok (.invokestatic 47, 3) := by decide +kernel
theorem dX5_type_4 : decode cX5_type 4 = .ok (.ifCond .eq 28, 3) := by decide +kernel
theorem dX5_type_7 : decode cX5_type 7 = .ok (.iload_n 2, 1) := by decide +kernel
theorem dX5_type_8 : decode cX5_type 8 = .ok (.bipush 32, 2) := by decide +kernel
theorem dX5_type_10 : decode cX5_type 10 = .ok (.if_icmp .lt 22, 3) := by decide +kernel
theorem dX5_type_13 : decode cX5_type 13 = .ok (.iload_n 2, 1) := by decide +kernel
theorem dX5_type_14 : decode cX5_type 14 = .ok (.bipush 126, 2) := by decide +kernel
theorem dX5_type_16 : decode cX5_type 16 = .ok (.if_icmp .gt 16, 3) := by decide +kernel
theorem dX5_type_32 : decode cX5_type 32 = .ok (.iconst 0, 1) := by decide +kernel
theorem dX5_type_33 : decode cX5_type 33 = .ok (.ireturn, 1) := by decide +kernel
set_option maxHeartbeats 4000000 in
set_option maxRecDepth 100000 in
theorem c_type_bad (l : Launch) (G : PG) (h se tx rs sp md pf pt : Nat) (cp mt mf mo pcs : Int32) (msp : Int64) (r0 c0 r2 c2 tc : Nat) (f : Nat → Option Nat) (hf0 : f 0 = some r0) (hf1 : f 1 = some tx) (hf2 : f 2 = some r2) (j0 j1 j2 : Nat) (g0 g1 g2 : Nat → Int32) (r ch : Int32) (hbad : r < 0 ∨ (3 : Int32) ≤ r ∨ ch < 32 ∨ (126 : Int32) < ch) : Ci l yX5_type (Cond.code yX5_type cX5_type 3 (some .boolean) :: aW) { frames := 1, cells := 0, slots := 0, locals := 21 } G [(h, .inr (5, [.ref se, .ref tx, .ref rs, .ref sp, .int cp, .int mt, .int mf, .int mo, .long msp, .ref md, .ref pf, .ref pt, .int pcs])), (rs, .inl (G.2 5, 3, .inr (.inr (.inr (.inr f))))), (r0, .inr (3, [.ref c0, .int (nI j0)])), (c0, .inl (G.2 2, 14, .inl g0)), (tx, .inr (3, [.ref tc, .int (nI j1)])), (tc, .inl (G.2 2, 8, .inl g1)), (r2, .inr (3, [.ref c2, .int (nI j2)])), (c2, .inl (G.2 2, 8, .inl g2))] [.ref h, .int r, .int ch] (S := Unit) (fun (r9 : Int32) (_ : Unit) => r9 = 0) (fun (_ : Unit) => [(h, .inr (5, [.ref se, .ref tx, .ref rs, .ref sp, .int cp, .int mt, .int mf, .int mo, .long msp, .ref md, .ref pf, .ref pt, .int pcs])), (rs, .inl (G.2 5, 3, .inr (.inr (.inr (.inr f))))), (r0, .inr (3, [.ref c0, .int (nI j0)])), (c0, .inl (G.2 2, 14, .inl g0)), (tx, .inr (3, [.ref tc, .int (nI j1)])), (tc, .inl (G.2 2, 8, .inl g1)), (r2, .inr (3, [.ref c2, .int (nI j2)])), (c2, .inl (G.2 2, 8, .inl g2))]) 0 0 := by
  refine ofB (y := yX5_type) (G := G) (cc := cX5_type) (maxL := 3) (ret := (some .boolean)) (Qc := fun A => va_Qi (fun (r9 : Int32) (_ : Unit) => r9 = 0) (oB G A (fun (_ : Unit) => [(h, .inr (5, [.ref se, .ref tx, .ref rs, .ref sp, .int cp, .int mt, .int mf, .int mo, .long msp, .ref md, .ref pf, .ref pt, .int pcs])), (rs, .inl (G.2 5, 3, .inr (.inr (.inr (.inr f))))), (r0, .inr (3, [.ref c0, .int (nI j0)])), (c0, .inl (G.2 2, 14, .inl g0)), (tx, .inr (3, [.ref tc, .int (nI j1)])), (tc, .inl (G.2 2, 8, .inl g1)), (r2, .inr (3, [.ref c2, .int (nI j2)])), (c2, .inl (G.2 2, 8, .inl g2))])) A) (by decide) rfl ?_
  intro p e s m below meth c A F hK hA hP hD
  have hx := F.1.1; have hb := F.1.2.1; have hml := F.1.2.2.1; have hts := F.1.2.2.2.2
  have hown : s.vm.findClass RX5 = some m.cls := F.1.2.2.2.1
  have hS : va_S A s.heap s.heap [] := va_S.rf
  have hl := lv_entry ([.ref h, .int r, .int ch]) (n := 3) (Nat.le_of_ble_eq_true rfl)
  rw [lg_entry_eq]
  generalize (lg_sl ([.ref h, .int r, .int ch]) ++ List.replicate (3 - (lg_sl ([.ref h, .int r, .int ch])).length) Slot.unset).toArray = ls at hl ⊢
  have hl : lv_has ls 3 [(0, .ref h), (1, .int r), (2, .int ch)] := hl
  refine lv_iload_n hx hb dX5_type_0 rfl (lv_at hl 1 rfl) ?_
  have hPc := hP.sub (ws' := []) [] rfl
  have hDc := hD.sub (ws' := []) [] (by decide) rfl
  have hqc : 0 + 0 ≤ 0 ∧ 0 + 0 ≤ 0 := ⟨by omega, by omega⟩
  refine kl_i (wr := [(h, .inr (5, [.ref se, .ref tx, .ref rs, .ref sp, .int cp, .int mt, .int mf, .int mo, .long msp, .ref md, .ref pf, .ref pt, .int pcs])), (rs, .inl (G.2 5, 3, .inr (.inr (.inr (.inr f))))), (r0, .inr (3, [.ref c0, .int (nI j0)])), (c0, .inl (G.2 2, 14, .inl g0)), (tx, .inr (3, [.ref tc, .int (nI j1)])), (tc, .inl (G.2 2, 8, .inl g1)), (r2, .inr (3, [.ref c2, .int (nI j2)])), (c2, .inl (G.2 2, 8, .inl g2))]) (va_runS (As := [.int r]) (rest := []) F.1 (c_isRow l G r _) (va_cwS 1 hts (aw_S w_234 w_235 w_1 w_236) rfl rfl rfl (by decide +kernel) ⟨by decide, by decide⟩) ⟨cS_blind, cS_pre hPc hDc hK⟩ rfl rfl hl.1 rfl (lv_room (Nat.le_of_ble_eq_true rfl)) dX5_type_1 hqc) hP hD hS hA [] [0, 1, 2, 3, 4, 5, 6, 7] rfl rfl (by decide) (by decide) (fun r u H locs hp hP hD hS => ?_)
  subst hp
  have hP : va_P G.1 vwCl [(h, .inr (5, [.ref se, .ref tx, .ref rs, .ref sp, .int cp, .int mt, .int mf, .int mo, .long msp, .ref md, .ref pf, .ref pt, .int pcs])), (rs, .inl (G.2 5, 3, .inr (.inr (.inr (.inr f))))), (r0, .inr (3, [.ref c0, .int (nI j0)])), (c0, .inl (G.2 2, 14, .inl g0)), (tx, .inr (3, [.ref tc, .int (nI j1)])), (tc, .inl (G.2 2, 8, .inl g1)), (r2, .inr (3, [.ref c2, .int (nI j2)])), (c2, .inl (G.2 2, 8, .inl g2))] H := hP
  have hD : va_D A [(h, .inr (5, [.ref se, .ref tx, .ref rs, .ref sp, .int cp, .int mt, .int mf, .int mo, .long msp, .ref md, .ref pf, .ref pt, .int pcs])), (rs, .inl (G.2 5, 3, .inr (.inr (.inr (.inr f))))), (r0, .inr (3, [.ref c0, .int (nI j0)])), (c0, .inl (G.2 2, 14, .inl g0)), (tx, .inr (3, [.ref tc, .int (nI j1)])), (tc, .inl (G.2 2, 8, .inl g1)), (r2, .inr (3, [.ref c2, .int (nI j2)])), (c2, .inl (G.2 2, 8, .inl g2))] := hD
  refine lv_if_eq (tgt := 32) hx hb dX5_type_4 (by decide) (fun h1 => ?_) (fun h1 => ?_)
  ·
    refine lv_iconst (v := 0) hx hb dX5_type_32 (by decide) ?_
    exact en_i F hS 0 () (by rfl) rfl hP hD (by omega) (by omega) dX5_type_33
  ·
    refine lv_iload_n hx hb dX5_type_7 rfl (lv_at hl 2 rfl) ?_
    refine lv_bipush (v := 32) hx hb dX5_type_8 (by decide) ?_
    refine lv_icmp_lt (tgt := 32) hx hb dX5_type_10 (by decide) (fun h2 => ?_) (fun h2 => ?_)
    ·
      refine lv_iconst (v := 0) hx hb dX5_type_32 (by decide) ?_
      exact en_i F hS 0 () (by rfl) rfl hP hD (by omega) (by omega) dX5_type_33
    ·
      refine lv_iload_n hx hb dX5_type_13 rfl (lv_at hl 2 rfl) ?_
      refine lv_bipush (v := 126) hx hb dX5_type_14 (by decide) ?_
      refine lv_icmp_gt (tgt := 32) hx hb dX5_type_16 (by decide) (fun _ => ?_) (fun h => absurd (tb_3 hbad h1 h2) h)
      refine lv_iconst (v := 0) hx hb dX5_type_32 (by decide) ?_
      exact en_i F hS 0 () (by rfl) rfl hP hD (by omega) (by omega) dX5_type_33

theorem dX5_type_19 : decode cX5_type 19 = .ok (.aload_n 0, 1) := by decide +kernel
theorem dX5_type_20 : decode cX5_type 20 = .ok (.getfield 26, 3) := by decide +kernel
theorem dX5_type_23 : decode cX5_type 23 = .ok (.iload_n 1, 1) := by decide +kernel
theorem dX5_type_24 : decode cX5_type 24 = .ok (.aaload, 1) := by decide +kernel
theorem dX5_type_25 : decode cX5_type 25 = .ok (.iload_n 2, 1) := by decide +kernel
theorem dX5_type_26 : decode cX5_type 26 = .ok (.invokevirtual 51, 3) := by decide +kernel
theorem dX5_type_29 : decode cX5_type 29 = .ok (.ifCond .ne 5, 3) := by decide +kernel
theorem dX5_type_34 : decode cX5_type 34 = .ok (.aload_n 0, 1) := by decide +kernel
theorem dX5_type_35 : decode cX5_type 35 = .ok (.iload_n 1, 1) := by decide +kernel
theorem dX5_type_36 : decode cX5_type 36 = .ok (.invokevirtual 55, 3) := by decide +kernel
theorem dX5_type_39 : decode cX5_type 39 = .ok (.iconst 1, 1) := by decide +kernel
theorem dX5_type_40 : decode cX5_type 40 = .ok (.ireturn, 1) := by decide +kernel
set_option maxHeartbeats 4000000 in
set_option maxRecDepth 100000 in
theorem c_type0 (l : Launch) (G : PG) (h se tx rs sp md pf pt : Nat) (cp mt mf mo pcs : Int32) (msp : Int64) (r0 c0 r2 c2 tc : Nat) (f : Nat → Option Nat) (hf0 : f 0 = some r0) (hf1 : f 1 = some tx) (hf2 : f 2 = some r2) (j0 j1 j2 : Nat) (g0 g1 g2 : Nat → Int32) (ch : Int32) (h32 : ¬ ch < 32) (h126 : ¬ (126 : Int32) < ch) (hj : j0 < 14) : Ci l yX5_type (Cond.code yX5_type cX5_type 3 (some .boolean) :: aW) { frames := 1, cells := 0, slots := 0, locals := 21 } G [(h, .inr (5, [.ref se, .ref tx, .ref rs, .ref sp, .int cp, .int mt, .int mf, .int mo, .long msp, .ref md, .ref pf, .ref pt, .int pcs])), (rs, .inl (G.2 5, 3, .inr (.inr (.inr (.inr f))))), (r0, .inr (3, [.ref c0, .int (nI j0)])), (c0, .inl (G.2 2, 14, .inl g0)), (tx, .inr (3, [.ref tc, .int (nI j1)])), (tc, .inl (G.2 2, 8, .inl g1)), (r2, .inr (3, [.ref c2, .int (nI j2)])), (c2, .inl (G.2 2, 8, .inl g2))] [.ref h, .int 0, .int ch] (S := Unit) (fun (r9 : Int32) (_ : Unit) => r9 = 1) (fun (_ : Unit) => [(h, .inr (5, [.ref se, .ref tx, .ref rs, .ref sp, .int cp, .int mt, .int mf, .int mo, .long msp, .ref md, .ref pf, .ref pt, .int pcs])), (rs, .inl (G.2 5, 3, .inr (.inr (.inr (.inr f))))), (r0, .inr (3, [.ref c0, .int (nI (j0 + 1))])), (c0, .inl (G.2 2, 14, .inl (upd g0 j0 (vp_nar .char ch)))), (tx, .inr (3, [.ref tc, .int (nI j1)])), (tc, .inl (G.2 2, 8, .inl g1)), (r2, .inr (3, [.ref c2, .int (nI j2)])), (c2, .inl (G.2 2, 8, .inl g2))]) 0 0 := by
  refine ofB (y := yX5_type) (G := G) (cc := cX5_type) (maxL := 3) (ret := (some .boolean)) (Qc := fun A => va_Qi (fun (r9 : Int32) (_ : Unit) => r9 = 1) (oB G A (fun (_ : Unit) => [(h, .inr (5, [.ref se, .ref tx, .ref rs, .ref sp, .int cp, .int mt, .int mf, .int mo, .long msp, .ref md, .ref pf, .ref pt, .int pcs])), (rs, .inl (G.2 5, 3, .inr (.inr (.inr (.inr f))))), (r0, .inr (3, [.ref c0, .int (nI (j0 + 1))])), (c0, .inl (G.2 2, 14, .inl (upd g0 j0 (vp_nar .char ch)))), (tx, .inr (3, [.ref tc, .int (nI j1)])), (tc, .inl (G.2 2, 8, .inl g1)), (r2, .inr (3, [.ref c2, .int (nI j2)])), (c2, .inl (G.2 2, 8, .inl g2))])) A) (by decide) rfl ?_
  intro p e s m below meth c A F hK hA hP hD
  have hx := F.1.1; have hb := F.1.2.1; have hml := F.1.2.2.1; have hts := F.1.2.2.2.2
  have hown : s.vm.findClass RX5 = some m.cls := F.1.2.2.2.1
  have hS : va_S A s.heap s.heap [] := va_S.rf
  have hl := lv_entry ([.ref h, .int 0, .int ch]) (n := 3) (Nat.le_of_ble_eq_true rfl)
  rw [lg_entry_eq]
  generalize (lg_sl ([.ref h, .int 0, .int ch]) ++ List.replicate (3 - (lg_sl ([.ref h, .int 0, .int ch])).length) Slot.unset).toArray = ls at hl ⊢
  have hl : lv_has ls 3 [(0, .ref h), (1, .int 0), (2, .int ch)] := hl
  refine lv_iload_n hx hb dX5_type_0 rfl (lv_at hl 1 rfl) ?_
  have hPc := hP.sub (ws' := []) [] rfl
  have hDc := hD.sub (ws' := []) [] (by decide) rfl
  have hqc : 0 + 0 ≤ 0 ∧ 0 + 0 ≤ 0 := ⟨by omega, by omega⟩
  refine kl_i (wr := [(h, .inr (5, [.ref se, .ref tx, .ref rs, .ref sp, .int cp, .int mt, .int mf, .int mo, .long msp, .ref md, .ref pf, .ref pt, .int pcs])), (rs, .inl (G.2 5, 3, .inr (.inr (.inr (.inr f))))), (r0, .inr (3, [.ref c0, .int (nI j0)])), (c0, .inl (G.2 2, 14, .inl g0)), (tx, .inr (3, [.ref tc, .int (nI j1)])), (tc, .inl (G.2 2, 8, .inl g1)), (r2, .inr (3, [.ref c2, .int (nI j2)])), (c2, .inl (G.2 2, 8, .inl g2))]) (va_runS (As := [.int 0]) (rest := []) F.1 (c_isRow l G 0 _) (va_cwS 1 hts (aw_S w_234 w_235 w_1 w_236) rfl rfl rfl (by decide +kernel) ⟨by decide, by decide⟩) ⟨cS_blind, cS_pre hPc hDc hK⟩ rfl rfl hl.1 rfl (lv_room (Nat.le_of_ble_eq_true rfl)) dX5_type_1 hqc) hP hD hS hA [] [0, 1, 2, 3, 4, 5, 6, 7] rfl rfl (by decide) (by decide) (fun r u H locs hp hP hD hS => ?_)
  subst hp
  have hP : va_P G.1 vwCl [(h, .inr (5, [.ref se, .ref tx, .ref rs, .ref sp, .int cp, .int mt, .int mf, .int mo, .long msp, .ref md, .ref pf, .ref pt, .int pcs])), (rs, .inl (G.2 5, 3, .inr (.inr (.inr (.inr f))))), (r0, .inr (3, [.ref c0, .int (nI j0)])), (c0, .inl (G.2 2, 14, .inl g0)), (tx, .inr (3, [.ref tc, .int (nI j1)])), (tc, .inl (G.2 2, 8, .inl g1)), (r2, .inr (3, [.ref c2, .int (nI j2)])), (c2, .inl (G.2 2, 8, .inl g2))] H := hP
  have hD : va_D A [(h, .inr (5, [.ref se, .ref tx, .ref rs, .ref sp, .int cp, .int mt, .int mf, .int mo, .long msp, .ref md, .ref pf, .ref pt, .int pcs])), (rs, .inl (G.2 5, 3, .inr (.inr (.inr (.inr f))))), (r0, .inr (3, [.ref c0, .int (nI j0)])), (c0, .inl (G.2 2, 14, .inl g0)), (tx, .inr (3, [.ref tc, .int (nI j1)])), (tc, .inl (G.2 2, 8, .inl g1)), (r2, .inr (3, [.ref c2, .int (nI j2)])), (c2, .inl (G.2 2, 8, .inl g2))] := hD
  refine lv_if_eq (tgt := 32) hx hb dX5_type_4 (by decide) (fun h => absurd h (by decide : ¬ isRowV 0 = 0)) (fun _ => ?_)
  refine lv_iload_n hx hb dX5_type_7 rfl (lv_at hl 2 rfl) ?_
  refine lv_bipush (v := 32) hx hb dX5_type_8 (by decide) ?_
  refine lv_icmp_lt (tgt := 32) hx hb dX5_type_10 (by decide) (fun h => absurd h h32) (fun _ => ?_)
  refine lv_iload_n hx hb dX5_type_13 rfl (lv_at hl 2 rfl) ?_
  refine lv_bipush (v := 126) hx hb dX5_type_14 (by decide) ?_
  refine lv_icmp_gt (tgt := 32) hx hb dX5_type_16 (by decide) (fun h => absurd h h126) (fun _ => ?_)
  refine lv_aload_n hx hb dX5_type_19 rfl (lv_at hl 0 rfl) ?_
  refine va_get (D := G.1) (ci := 5) (v := .ref rs) (C := RX5) (T := TX5) (N := 13) hx hb hts inX5 hown hK.1 hP 0 rfl rfl 2 (by decide) (hts _ w_192) (fun _ h9 => h9) rfl dX5_type_20 ?_
  refine lv_iload_n hx hb dX5_type_23 rfl (lv_at hl 1 rfl) ?_
  refine va_aldq (D := G.1) hx hb hK.1 hP 1 5 rfl rfl (vp_in_nI (n := 0) (by decide) (by decide)) dX5_type_24 ?_
  refine tp_v (.ref r0) (show va_rf (f 0) = .ref r0 by rw [hf0]; rfl) ?_
  refine lv_iload_n hx hb dX5_type_25 rfl (lv_at hl 2 rfl) ?_
  have hPc := hP.sub (ws' := [(r0, .inr (3, [.ref c0, .int (nI j0)])), (c0, .inl (G.2 2, 14, .inl g0))]) [2, 3] rfl
  have hDc := hD.sub (ws' := [(r0, .inr (3, [.ref c0, .int (nI j0)])), (c0, .inl (G.2 2, 14, .inl g0))]) [2, 3] (by decide) rfl
  have hqc : 0 + 0 ≤ 0 ∧ 0 + 0 ≤ 0 := ⟨by omega, by omega⟩
  refine kl_i (wr := [(h, .inr (5, [.ref se, .ref tx, .ref rs, .ref sp, .int cp, .int mt, .int mf, .int mo, .long msp, .ref md, .ref pf, .ref pt, .int pcs])), (rs, .inl (G.2 5, 3, .inr (.inr (.inr (.inr f))))), (tx, .inr (3, [.ref tc, .int (nI j1)])), (tc, .inl (G.2 2, 8, .inl g1)), (r2, .inr (3, [.ref c2, .int (nI j2)])), (c2, .inl (G.2 2, 8, .inl g2))]) (va_runV (As := [.int ch]) (rest := []) F.1 (c_row_add l G _ _ 14 j0 g0 ch hj (by decide) _) (cwV 1 hts (aw_V w_237 w_238 w_239 w_3 w_240) rfl rfl rfl (by decide +kernel) ⟨by decide, by decide⟩) ⟨cS_blind, va_recv (q := (RX3, TX3, 2)) (ci := 3) (q0 := 0) hK.1 hPc rfl rfl, cS_pre hPc hDc hK⟩ rfl rfl hl.1 rfl (lv_room (Nat.le_of_ble_eq_true rfl)) dX5_type_26 hqc) hP hD hS hA [2, 3] [0, 1, 4, 5, 6, 7] rfl rfl (by decide) (by decide) (fun r u H locs hp hP hD hS => ?_)
  subst hp
  have hP : va_P G.1 vwCl [(h, .inr (5, [.ref se, .ref tx, .ref rs, .ref sp, .int cp, .int mt, .int mf, .int mo, .long msp, .ref md, .ref pf, .ref pt, .int pcs])), (rs, .inl (G.2 5, 3, .inr (.inr (.inr (.inr f))))), (tx, .inr (3, [.ref tc, .int (nI j1)])), (tc, .inl (G.2 2, 8, .inl g1)), (r2, .inr (3, [.ref c2, .int (nI j2)])), (c2, .inl (G.2 2, 8, .inl g2)), (r0, .inr (3, [.ref c0, .int (nI (j0 + 1))])), (c0, .inl (G.2 2, 14, .inl (upd g0 j0 (vp_nar .char ch))))] H := hP
  have hD : va_D A [(h, .inr (5, [.ref se, .ref tx, .ref rs, .ref sp, .int cp, .int mt, .int mf, .int mo, .long msp, .ref md, .ref pf, .ref pt, .int pcs])), (rs, .inl (G.2 5, 3, .inr (.inr (.inr (.inr f))))), (tx, .inr (3, [.ref tc, .int (nI j1)])), (tc, .inl (G.2 2, 8, .inl g1)), (r2, .inr (3, [.ref c2, .int (nI j2)])), (c2, .inl (G.2 2, 8, .inl g2)), (r0, .inr (3, [.ref c0, .int (nI (j0 + 1))])), (c0, .inl (G.2 2, 14, .inl (upd g0 j0 (vp_nar .char ch))))] := hD
  refine lv_if_ne (tgt := 34) hx hb dX5_type_29 (by decide) (fun _ => ?_) (fun h => absurd h (by decide : ¬ (1 : Int32) = 0))
  refine lv_aload_n hx hb dX5_type_34 rfl (lv_at hl 0 rfl) ?_
  refine lv_iload_n hx hb dX5_type_35 rfl (lv_at hl 1 rfl) ?_
  have hPc := hP.sub (ws' := [(h, .inr (5, [.ref se, .ref tx, .ref rs, .ref sp, .int cp, .int mt, .int mf, .int mo, .long msp, .ref md, .ref pf, .ref pt, .int pcs]))]) [0] rfl
  have hDc := hD.sub (ws' := [(h, .inr (5, [.ref se, .ref tx, .ref rs, .ref sp, .int cp, .int mt, .int mf, .int mo, .long msp, .ref md, .ref pf, .ref pt, .int pcs]))]) [0] (by decide) rfl
  have hqc : 0 + 0 ≤ 0 ∧ 0 + 0 ≤ 0 := ⟨by omega, by omega⟩
  refine kl_v (wr := [(rs, .inl (G.2 5, 3, .inr (.inr (.inr (.inr f))))), (tx, .inr (3, [.ref tc, .int (nI j1)])), (tc, .inl (G.2 2, 8, .inl g1)), (r2, .inr (3, [.ref c2, .int (nI j2)])), (c2, .inl (G.2 2, 8, .inl g2)), (r0, .inr (3, [.ref c0, .int (nI (j0 + 1))])), (c0, .inl (G.2 2, 14, .inl (upd g0 j0 (vp_nar .char ch))))]) (va_runV (As := [.int 0]) (rest := []) F.1 (c_forgetN l G _ _ _ _ _ _ _ _ _ _ _ _ _ _ 0 (by decide) _) (cwV 1 hts (aw_V w_241 w_243 ws_X5_forgetMatchIfText w_1 w_244) rfl rfl rfl (by decide +kernel) ⟨by decide, by decide⟩) ⟨cS_blind, va_recv (q := (RX5, TX5, 13)) (ci := 5) (q0 := 0) hK.1 hPc rfl rfl, cS_pre hPc hDc hK⟩ rfl rfl hl.1 rfl (lv_room (Nat.le_of_ble_eq_true rfl)) dX5_type_36 hqc) hP hD hS hA [0] [1, 2, 3, 4, 5, 6, 7] rfl rfl (by decide) (by decide) (fun u H locs hp hP hD hS => ?_)
  have hP : va_P G.1 vwCl [(rs, .inl (G.2 5, 3, .inr (.inr (.inr (.inr f))))), (tx, .inr (3, [.ref tc, .int (nI j1)])), (tc, .inl (G.2 2, 8, .inl g1)), (r2, .inr (3, [.ref c2, .int (nI j2)])), (c2, .inl (G.2 2, 8, .inl g2)), (r0, .inr (3, [.ref c0, .int (nI (j0 + 1))])), (c0, .inl (G.2 2, 14, .inl (upd g0 j0 (vp_nar .char ch)))), (h, .inr (5, [.ref se, .ref tx, .ref rs, .ref sp, .int cp, .int mt, .int mf, .int mo, .long msp, .ref md, .ref pf, .ref pt, .int pcs]))] H := hP
  have hD : va_D A [(rs, .inl (G.2 5, 3, .inr (.inr (.inr (.inr f))))), (tx, .inr (3, [.ref tc, .int (nI j1)])), (tc, .inl (G.2 2, 8, .inl g1)), (r2, .inr (3, [.ref c2, .int (nI j2)])), (c2, .inl (G.2 2, 8, .inl g2)), (r0, .inr (3, [.ref c0, .int (nI (j0 + 1))])), (c0, .inl (G.2 2, 14, .inl (upd g0 j0 (vp_nar .char ch)))), (h, .inr (5, [.ref se, .ref tx, .ref rs, .ref sp, .int cp, .int mt, .int mf, .int mo, .long msp, .ref md, .ref pf, .ref pt, .int pcs]))] := hD
  refine lv_iconst (v := 1) hx hb dX5_type_39 (by decide) ?_
  have hP := hP.sub (ws' := [(h, .inr (5, [.ref se, .ref tx, .ref rs, .ref sp, .int cp, .int mt, .int mf, .int mo, .long msp, .ref md, .ref pf, .ref pt, .int pcs])), (rs, .inl (G.2 5, 3, .inr (.inr (.inr (.inr f))))), (r0, .inr (3, [.ref c0, .int (nI (j0 + 1))])), (c0, .inl (G.2 2, 14, .inl (upd g0 j0 (vp_nar .char ch)))), (tx, .inr (3, [.ref tc, .int (nI j1)])), (tc, .inl (G.2 2, 8, .inl g1)), (r2, .inr (3, [.ref c2, .int (nI j2)])), (c2, .inl (G.2 2, 8, .inl g2))]) [7, 0, 5, 6, 1, 2, 3, 4] rfl
  have hD := hD.sub (ws' := [(h, .inr (5, [.ref se, .ref tx, .ref rs, .ref sp, .int cp, .int mt, .int mf, .int mo, .long msp, .ref md, .ref pf, .ref pt, .int pcs])), (rs, .inl (G.2 5, 3, .inr (.inr (.inr (.inr f))))), (r0, .inr (3, [.ref c0, .int (nI (j0 + 1))])), (c0, .inl (G.2 2, 14, .inl (upd g0 j0 (vp_nar .char ch)))), (tx, .inr (3, [.ref tc, .int (nI j1)])), (tc, .inl (G.2 2, 8, .inl g1)), (r2, .inr (3, [.ref c2, .int (nI j2)])), (c2, .inl (G.2 2, 8, .inl g2))]) [7, 0, 5, 6, 1, 2, 3, 4] (by decide) rfl
  exact en_i F hS 1 () (by rfl) rfl hP hD (by omega) (by omega) dX5_type_40

set_option maxHeartbeats 4000000 in
set_option maxRecDepth 100000 in
theorem c_typeF0 (l : Launch) (G : PG) (h se tx rs sp md pf pt : Nat) (cp mt mf mo pcs : Int32) (msp : Int64) (r0 c0 r2 c2 tc : Nat) (f : Nat → Option Nat) (hf0 : f 0 = some r0) (hf1 : f 1 = some tx) (hf2 : f 2 = some r2) (j0 j1 j2 : Nat) (g0 g1 g2 : Nat → Int32) (ch : Int32) (h32 : ¬ ch < 32) (h126 : ¬ (126 : Int32) < ch) : Ci l yX5_type (Cond.code yX5_type cX5_type 3 (some .boolean) :: aW) { frames := 1, cells := 0, slots := 0, locals := 21 } G [(h, .inr (5, [.ref se, .ref tx, .ref rs, .ref sp, .int cp, .int mt, .int mf, .int mo, .long msp, .ref md, .ref pf, .ref pt, .int pcs])), (rs, .inl (G.2 5, 3, .inr (.inr (.inr (.inr f))))), (r0, .inr (3, [.ref c0, .int (nI 14)])), (c0, .inl (G.2 2, 14, .inl g0)), (tx, .inr (3, [.ref tc, .int (nI j1)])), (tc, .inl (G.2 2, 8, .inl g1)), (r2, .inr (3, [.ref c2, .int (nI j2)])), (c2, .inl (G.2 2, 8, .inl g2))] [.ref h, .int 0, .int ch] (S := Unit) (fun (r9 : Int32) (_ : Unit) => r9 = 0) (fun (_ : Unit) => [(h, .inr (5, [.ref se, .ref tx, .ref rs, .ref sp, .int cp, .int mt, .int mf, .int mo, .long msp, .ref md, .ref pf, .ref pt, .int pcs])), (rs, .inl (G.2 5, 3, .inr (.inr (.inr (.inr f))))), (r0, .inr (3, [.ref c0, .int (nI 14)])), (c0, .inl (G.2 2, 14, .inl g0)), (tx, .inr (3, [.ref tc, .int (nI j1)])), (tc, .inl (G.2 2, 8, .inl g1)), (r2, .inr (3, [.ref c2, .int (nI j2)])), (c2, .inl (G.2 2, 8, .inl g2))]) 0 0 := by
  refine ofB (y := yX5_type) (G := G) (cc := cX5_type) (maxL := 3) (ret := (some .boolean)) (Qc := fun A => va_Qi (fun (r9 : Int32) (_ : Unit) => r9 = 0) (oB G A (fun (_ : Unit) => [(h, .inr (5, [.ref se, .ref tx, .ref rs, .ref sp, .int cp, .int mt, .int mf, .int mo, .long msp, .ref md, .ref pf, .ref pt, .int pcs])), (rs, .inl (G.2 5, 3, .inr (.inr (.inr (.inr f))))), (r0, .inr (3, [.ref c0, .int (nI 14)])), (c0, .inl (G.2 2, 14, .inl g0)), (tx, .inr (3, [.ref tc, .int (nI j1)])), (tc, .inl (G.2 2, 8, .inl g1)), (r2, .inr (3, [.ref c2, .int (nI j2)])), (c2, .inl (G.2 2, 8, .inl g2))])) A) (by decide) rfl ?_
  intro p e s m below meth c A F hK hA hP hD
  have hx := F.1.1; have hb := F.1.2.1; have hml := F.1.2.2.1; have hts := F.1.2.2.2.2
  have hown : s.vm.findClass RX5 = some m.cls := F.1.2.2.2.1
  have hS : va_S A s.heap s.heap [] := va_S.rf
  have hl := lv_entry ([.ref h, .int 0, .int ch]) (n := 3) (Nat.le_of_ble_eq_true rfl)
  rw [lg_entry_eq]
  generalize (lg_sl ([.ref h, .int 0, .int ch]) ++ List.replicate (3 - (lg_sl ([.ref h, .int 0, .int ch])).length) Slot.unset).toArray = ls at hl ⊢
  have hl : lv_has ls 3 [(0, .ref h), (1, .int 0), (2, .int ch)] := hl
  refine lv_iload_n hx hb dX5_type_0 rfl (lv_at hl 1 rfl) ?_
  have hPc := hP.sub (ws' := []) [] rfl
  have hDc := hD.sub (ws' := []) [] (by decide) rfl
  have hqc : 0 + 0 ≤ 0 ∧ 0 + 0 ≤ 0 := ⟨by omega, by omega⟩
  refine kl_i (wr := [(h, .inr (5, [.ref se, .ref tx, .ref rs, .ref sp, .int cp, .int mt, .int mf, .int mo, .long msp, .ref md, .ref pf, .ref pt, .int pcs])), (rs, .inl (G.2 5, 3, .inr (.inr (.inr (.inr f))))), (r0, .inr (3, [.ref c0, .int (nI 14)])), (c0, .inl (G.2 2, 14, .inl g0)), (tx, .inr (3, [.ref tc, .int (nI j1)])), (tc, .inl (G.2 2, 8, .inl g1)), (r2, .inr (3, [.ref c2, .int (nI j2)])), (c2, .inl (G.2 2, 8, .inl g2))]) (va_runS (As := [.int 0]) (rest := []) F.1 (c_isRow l G 0 _) (va_cwS 1 hts (aw_S w_234 w_235 w_1 w_236) rfl rfl rfl (by decide +kernel) ⟨by decide, by decide⟩) ⟨cS_blind, cS_pre hPc hDc hK⟩ rfl rfl hl.1 rfl (lv_room (Nat.le_of_ble_eq_true rfl)) dX5_type_1 hqc) hP hD hS hA [] [0, 1, 2, 3, 4, 5, 6, 7] rfl rfl (by decide) (by decide) (fun r u H locs hp hP hD hS => ?_)
  subst hp
  have hP : va_P G.1 vwCl [(h, .inr (5, [.ref se, .ref tx, .ref rs, .ref sp, .int cp, .int mt, .int mf, .int mo, .long msp, .ref md, .ref pf, .ref pt, .int pcs])), (rs, .inl (G.2 5, 3, .inr (.inr (.inr (.inr f))))), (r0, .inr (3, [.ref c0, .int (nI 14)])), (c0, .inl (G.2 2, 14, .inl g0)), (tx, .inr (3, [.ref tc, .int (nI j1)])), (tc, .inl (G.2 2, 8, .inl g1)), (r2, .inr (3, [.ref c2, .int (nI j2)])), (c2, .inl (G.2 2, 8, .inl g2))] H := hP
  have hD : va_D A [(h, .inr (5, [.ref se, .ref tx, .ref rs, .ref sp, .int cp, .int mt, .int mf, .int mo, .long msp, .ref md, .ref pf, .ref pt, .int pcs])), (rs, .inl (G.2 5, 3, .inr (.inr (.inr (.inr f))))), (r0, .inr (3, [.ref c0, .int (nI 14)])), (c0, .inl (G.2 2, 14, .inl g0)), (tx, .inr (3, [.ref tc, .int (nI j1)])), (tc, .inl (G.2 2, 8, .inl g1)), (r2, .inr (3, [.ref c2, .int (nI j2)])), (c2, .inl (G.2 2, 8, .inl g2))] := hD
  refine lv_if_eq (tgt := 32) hx hb dX5_type_4 (by decide) (fun h => absurd h (by decide : ¬ isRowV 0 = 0)) (fun _ => ?_)
  refine lv_iload_n hx hb dX5_type_7 rfl (lv_at hl 2 rfl) ?_
  refine lv_bipush (v := 32) hx hb dX5_type_8 (by decide) ?_
  refine lv_icmp_lt (tgt := 32) hx hb dX5_type_10 (by decide) (fun h => absurd h h32) (fun _ => ?_)
  refine lv_iload_n hx hb dX5_type_13 rfl (lv_at hl 2 rfl) ?_
  refine lv_bipush (v := 126) hx hb dX5_type_14 (by decide) ?_
  refine lv_icmp_gt (tgt := 32) hx hb dX5_type_16 (by decide) (fun h => absurd h h126) (fun _ => ?_)
  refine lv_aload_n hx hb dX5_type_19 rfl (lv_at hl 0 rfl) ?_
  refine va_get (D := G.1) (ci := 5) (v := .ref rs) (C := RX5) (T := TX5) (N := 13) hx hb hts inX5 hown hK.1 hP 0 rfl rfl 2 (by decide) (hts _ w_192) (fun _ h9 => h9) rfl dX5_type_20 ?_
  refine lv_iload_n hx hb dX5_type_23 rfl (lv_at hl 1 rfl) ?_
  refine va_aldq (D := G.1) hx hb hK.1 hP 1 5 rfl rfl (vp_in_nI (n := 0) (by decide) (by decide)) dX5_type_24 ?_
  refine tp_v (.ref r0) (show va_rf (f 0) = .ref r0 by rw [hf0]; rfl) ?_
  refine lv_iload_n hx hb dX5_type_25 rfl (lv_at hl 2 rfl) ?_
  have hPc := hP.sub (ws' := [(r0, .inr (3, [.ref c0, .int (nI 14)])), (c0, .inl (G.2 2, 14, .inl g0))]) [2, 3] rfl
  have hDc := hD.sub (ws' := [(r0, .inr (3, [.ref c0, .int (nI 14)])), (c0, .inl (G.2 2, 14, .inl g0))]) [2, 3] (by decide) rfl
  have hqc : 0 + 0 ≤ 0 ∧ 0 + 0 ≤ 0 := ⟨by omega, by omega⟩
  refine kl_i (wr := [(h, .inr (5, [.ref se, .ref tx, .ref rs, .ref sp, .int cp, .int mt, .int mf, .int mo, .long msp, .ref md, .ref pf, .ref pt, .int pcs])), (rs, .inl (G.2 5, 3, .inr (.inr (.inr (.inr f))))), (tx, .inr (3, [.ref tc, .int (nI j1)])), (tc, .inl (G.2 2, 8, .inl g1)), (r2, .inr (3, [.ref c2, .int (nI j2)])), (c2, .inl (G.2 2, 8, .inl g2))]) (va_runV (As := [.int ch]) (rest := []) F.1 (c_row_addF l G _ _ 14 g0 ch (by decide) _) (cwV 1 hts (aw_V w_237 w_238 w_239 w_3 w_240) rfl rfl rfl (by decide +kernel) ⟨by decide, by decide⟩) ⟨cS_blind, va_recv (q := (RX3, TX3, 2)) (ci := 3) (q0 := 0) hK.1 hPc rfl rfl, cS_pre hPc hDc hK⟩ rfl rfl hl.1 rfl (lv_room (Nat.le_of_ble_eq_true rfl)) dX5_type_26 hqc) hP hD hS hA [2, 3] [0, 1, 4, 5, 6, 7] rfl rfl (by decide) (by decide) (fun r u H locs hp hP hD hS => ?_)
  subst hp
  have hP : va_P G.1 vwCl [(h, .inr (5, [.ref se, .ref tx, .ref rs, .ref sp, .int cp, .int mt, .int mf, .int mo, .long msp, .ref md, .ref pf, .ref pt, .int pcs])), (rs, .inl (G.2 5, 3, .inr (.inr (.inr (.inr f))))), (tx, .inr (3, [.ref tc, .int (nI j1)])), (tc, .inl (G.2 2, 8, .inl g1)), (r2, .inr (3, [.ref c2, .int (nI j2)])), (c2, .inl (G.2 2, 8, .inl g2)), (r0, .inr (3, [.ref c0, .int (nI 14)])), (c0, .inl (G.2 2, 14, .inl g0))] H := hP
  have hD : va_D A [(h, .inr (5, [.ref se, .ref tx, .ref rs, .ref sp, .int cp, .int mt, .int mf, .int mo, .long msp, .ref md, .ref pf, .ref pt, .int pcs])), (rs, .inl (G.2 5, 3, .inr (.inr (.inr (.inr f))))), (tx, .inr (3, [.ref tc, .int (nI j1)])), (tc, .inl (G.2 2, 8, .inl g1)), (r2, .inr (3, [.ref c2, .int (nI j2)])), (c2, .inl (G.2 2, 8, .inl g2)), (r0, .inr (3, [.ref c0, .int (nI 14)])), (c0, .inl (G.2 2, 14, .inl g0))] := hD
  refine lv_if_ne (tgt := 34) hx hb dX5_type_29 (by decide) (fun h => absurd rfl h) (fun _ => ?_)
  refine lv_iconst (v := 0) hx hb dX5_type_32 (by decide) ?_
  have hP := hP.sub (ws' := [(h, .inr (5, [.ref se, .ref tx, .ref rs, .ref sp, .int cp, .int mt, .int mf, .int mo, .long msp, .ref md, .ref pf, .ref pt, .int pcs])), (rs, .inl (G.2 5, 3, .inr (.inr (.inr (.inr f))))), (r0, .inr (3, [.ref c0, .int (nI 14)])), (c0, .inl (G.2 2, 14, .inl g0)), (tx, .inr (3, [.ref tc, .int (nI j1)])), (tc, .inl (G.2 2, 8, .inl g1)), (r2, .inr (3, [.ref c2, .int (nI j2)])), (c2, .inl (G.2 2, 8, .inl g2))]) [0, 1, 6, 7, 2, 3, 4, 5] rfl
  have hD := hD.sub (ws' := [(h, .inr (5, [.ref se, .ref tx, .ref rs, .ref sp, .int cp, .int mt, .int mf, .int mo, .long msp, .ref md, .ref pf, .ref pt, .int pcs])), (rs, .inl (G.2 5, 3, .inr (.inr (.inr (.inr f))))), (r0, .inr (3, [.ref c0, .int (nI 14)])), (c0, .inl (G.2 2, 14, .inl g0)), (tx, .inr (3, [.ref tc, .int (nI j1)])), (tc, .inl (G.2 2, 8, .inl g1)), (r2, .inr (3, [.ref c2, .int (nI j2)])), (c2, .inl (G.2 2, 8, .inl g2))]) [0, 1, 6, 7, 2, 3, 4, 5] (by decide) rfl
  exact en_i F hS 0 () (by rfl) rfl hP hD (by omega) (by omega) dX5_type_33

theorem dX5_clear_0 : decode cX5_clear 0 = .ok (.iload_n 1, 1) := by decide +kernel
theorem dX5_clear_1 : decode cX5_clear 1 = .ok (.invokestatic 47, 3) := by decide +kernel
theorem dX5_clear_4 : decode cX5_clear 4 = .ok (.ifCond .ne 5, 3) := by decide +kernel
theorem dX5_clear_9 : decode cX5_clear 9 = .ok (.aload_n 0, 1) := by decide +kernel
theorem dX5_clear_10 : decode cX5_clear 10 = .ok (.getfield 26, 3) := by decide +kernel
theorem dX5_clear_13 : decode cX5_clear 13 = .ok (.iload_n 1, 1) := by decide +kernel
theorem dX5_clear_14 : decode cX5_clear 14 = .ok (.aaload, 1) := by decide +kernel
theorem dX5_clear_15 : decode cX5_clear 15 = .ok (.invokevirtual 58, 3) := by decide +kernel
theorem dX5_clear_18 : decode cX5_clear 18 = .ok (.aload_n 0, 1) := by decide +kernel
theorem dX5_clear_19 : decode cX5_clear 19 = .ok (.iload_n 1, 1) := by decide +kernel
theorem dX5_clear_20 : decode cX5_clear 20 = .ok (.invokevirtual 55, 3) := by decide +kernel
theorem dX5_clear_23 : decode cX5_clear 23 = .ok (.iconst 1, 1) := by decide +kernel
theorem dX5_clear_24 : decode cX5_clear 24 = .ok (.ireturn, 1) := by decide +kernel
set_option maxHeartbeats 4000000 in
set_option maxRecDepth 100000 in
theorem c_clear0 (l : Launch) (G : PG) (h se tx rs sp md pf pt : Nat) (cp mt mf mo pcs : Int32) (msp : Int64) (r0 c0 r2 c2 tc : Nat) (f : Nat → Option Nat) (hf0 : f 0 = some r0) (hf1 : f 1 = some tx) (hf2 : f 2 = some r2) (j0 j1 j2 : Nat) (g0 g1 g2 : Nat → Int32) : Ci l yX5_clear (Cond.code yX5_clear cX5_clear 2 (some .boolean) :: aW) { frames := 1, cells := 0, slots := 0, locals := 21 } G [(h, .inr (5, [.ref se, .ref tx, .ref rs, .ref sp, .int cp, .int mt, .int mf, .int mo, .long msp, .ref md, .ref pf, .ref pt, .int pcs])), (rs, .inl (G.2 5, 3, .inr (.inr (.inr (.inr f))))), (r0, .inr (3, [.ref c0, .int (nI j0)])), (c0, .inl (G.2 2, 14, .inl g0)), (tx, .inr (3, [.ref tc, .int (nI j1)])), (tc, .inl (G.2 2, 8, .inl g1)), (r2, .inr (3, [.ref c2, .int (nI j2)])), (c2, .inl (G.2 2, 8, .inl g2))] [.ref h, .int 0] (S := Unit) (fun (r9 : Int32) (_ : Unit) => r9 = 1) (fun (_ : Unit) => [(h, .inr (5, [.ref se, .ref tx, .ref rs, .ref sp, .int cp, .int mt, .int mf, .int mo, .long msp, .ref md, .ref pf, .ref pt, .int pcs])), (rs, .inl (G.2 5, 3, .inr (.inr (.inr (.inr f))))), (r0, .inr (3, [.ref c0, .int (nI 0)])), (c0, .inl (G.2 2, 14, .inl g0)), (tx, .inr (3, [.ref tc, .int (nI j1)])), (tc, .inl (G.2 2, 8, .inl g1)), (r2, .inr (3, [.ref c2, .int (nI j2)])), (c2, .inl (G.2 2, 8, .inl g2))]) 0 0 := by
  refine ofB (y := yX5_clear) (G := G) (cc := cX5_clear) (maxL := 2) (ret := (some .boolean)) (Qc := fun A => va_Qi (fun (r9 : Int32) (_ : Unit) => r9 = 1) (oB G A (fun (_ : Unit) => [(h, .inr (5, [.ref se, .ref tx, .ref rs, .ref sp, .int cp, .int mt, .int mf, .int mo, .long msp, .ref md, .ref pf, .ref pt, .int pcs])), (rs, .inl (G.2 5, 3, .inr (.inr (.inr (.inr f))))), (r0, .inr (3, [.ref c0, .int (nI 0)])), (c0, .inl (G.2 2, 14, .inl g0)), (tx, .inr (3, [.ref tc, .int (nI j1)])), (tc, .inl (G.2 2, 8, .inl g1)), (r2, .inr (3, [.ref c2, .int (nI j2)])), (c2, .inl (G.2 2, 8, .inl g2))])) A) (by decide) rfl ?_
  intro p e s m below meth c A F hK hA hP hD
  have hx := F.1.1; have hb := F.1.2.1; have hml := F.1.2.2.1; have hts := F.1.2.2.2.2
  have hown : s.vm.findClass RX5 = some m.cls := F.1.2.2.2.1
  have hS : va_S A s.heap s.heap [] := va_S.rf
  have hl := lv_entry ([.ref h, .int 0]) (n := 2) (Nat.le_of_ble_eq_true rfl)
  rw [lg_entry_eq]
  generalize (lg_sl ([.ref h, .int 0]) ++ List.replicate (2 - (lg_sl ([.ref h, .int 0])).length) Slot.unset).toArray = ls at hl ⊢
  have hl : lv_has ls 2 [(0, .ref h), (1, .int 0)] := hl
  refine lv_iload_n hx hb dX5_clear_0 rfl (lv_at hl 1 rfl) ?_
  have hPc := hP.sub (ws' := []) [] rfl
  have hDc := hD.sub (ws' := []) [] (by decide) rfl
  have hqc : 0 + 0 ≤ 0 ∧ 0 + 0 ≤ 0 := ⟨by omega, by omega⟩
  refine kl_i (wr := [(h, .inr (5, [.ref se, .ref tx, .ref rs, .ref sp, .int cp, .int mt, .int mf, .int mo, .long msp, .ref md, .ref pf, .ref pt, .int pcs])), (rs, .inl (G.2 5, 3, .inr (.inr (.inr (.inr f))))), (r0, .inr (3, [.ref c0, .int (nI j0)])), (c0, .inl (G.2 2, 14, .inl g0)), (tx, .inr (3, [.ref tc, .int (nI j1)])), (tc, .inl (G.2 2, 8, .inl g1)), (r2, .inr (3, [.ref c2, .int (nI j2)])), (c2, .inl (G.2 2, 8, .inl g2))]) (va_runS (As := [.int 0]) (rest := []) F.1 (c_isRow l G 0 _) (va_cwS 1 hts (aw_S w_234 w_235 w_1 w_236) rfl rfl rfl (by decide +kernel) ⟨by decide, by decide⟩) ⟨cS_blind, cS_pre hPc hDc hK⟩ rfl rfl hl.1 rfl (lv_room (Nat.le_of_ble_eq_true rfl)) dX5_clear_1 hqc) hP hD hS hA [] [0, 1, 2, 3, 4, 5, 6, 7] rfl rfl (by decide) (by decide) (fun r u H locs hp hP hD hS => ?_)
  subst hp
  have hP : va_P G.1 vwCl [(h, .inr (5, [.ref se, .ref tx, .ref rs, .ref sp, .int cp, .int mt, .int mf, .int mo, .long msp, .ref md, .ref pf, .ref pt, .int pcs])), (rs, .inl (G.2 5, 3, .inr (.inr (.inr (.inr f))))), (r0, .inr (3, [.ref c0, .int (nI j0)])), (c0, .inl (G.2 2, 14, .inl g0)), (tx, .inr (3, [.ref tc, .int (nI j1)])), (tc, .inl (G.2 2, 8, .inl g1)), (r2, .inr (3, [.ref c2, .int (nI j2)])), (c2, .inl (G.2 2, 8, .inl g2))] H := hP
  have hD : va_D A [(h, .inr (5, [.ref se, .ref tx, .ref rs, .ref sp, .int cp, .int mt, .int mf, .int mo, .long msp, .ref md, .ref pf, .ref pt, .int pcs])), (rs, .inl (G.2 5, 3, .inr (.inr (.inr (.inr f))))), (r0, .inr (3, [.ref c0, .int (nI j0)])), (c0, .inl (G.2 2, 14, .inl g0)), (tx, .inr (3, [.ref tc, .int (nI j1)])), (tc, .inl (G.2 2, 8, .inl g1)), (r2, .inr (3, [.ref c2, .int (nI j2)])), (c2, .inl (G.2 2, 8, .inl g2))] := hD
  refine lv_if_ne (tgt := 9) hx hb dX5_clear_4 (by decide) (fun _ => ?_) (fun h => absurd h (by decide : ¬ isRowV 0 = 0))
  refine lv_aload_n hx hb dX5_clear_9 rfl (lv_at hl 0 rfl) ?_
  refine va_get (D := G.1) (ci := 5) (v := .ref rs) (C := RX5) (T := TX5) (N := 13) hx hb hts inX5 hown hK.1 hP 0 rfl rfl 2 (by decide) (hts _ w_192) (fun _ h9 => h9) rfl dX5_clear_10 ?_
  refine lv_iload_n hx hb dX5_clear_13 rfl (lv_at hl 1 rfl) ?_
  refine va_aldq (D := G.1) hx hb hK.1 hP 1 5 rfl rfl (vp_in_nI (n := 0) (by decide) (by decide)) dX5_clear_14 ?_
  refine tp_v (.ref r0) (show va_rf (f 0) = .ref r0 by rw [hf0]; rfl) ?_
  have hPc := hP.sub (ws' := [(r0, .inr (3, [.ref c0, .int (nI j0)])), (c0, .inl (G.2 2, 14, .inl g0))]) [2, 3] rfl
  have hDc := hD.sub (ws' := [(r0, .inr (3, [.ref c0, .int (nI j0)])), (c0, .inl (G.2 2, 14, .inl g0))]) [2, 3] (by decide) rfl
  have hqc : 0 + 0 ≤ 0 ∧ 0 + 0 ≤ 0 := ⟨by omega, by omega⟩
  refine kl_v (wr := [(h, .inr (5, [.ref se, .ref tx, .ref rs, .ref sp, .int cp, .int mt, .int mf, .int mo, .long msp, .ref md, .ref pf, .ref pt, .int pcs])), (rs, .inl (G.2 5, 3, .inr (.inr (.inr (.inr f))))), (tx, .inr (3, [.ref tc, .int (nI j1)])), (tc, .inl (G.2 2, 8, .inl g1)), (r2, .inr (3, [.ref c2, .int (nI j2)])), (c2, .inl (G.2 2, 8, .inl g2))]) (va_runV (As := []) (rest := []) F.1 (c_row_empty l G _ _ _ _ _ _) (cwV 0 hts (aw_V w_249 w_250 w_251 w_3 w_252) rfl rfl rfl (by decide +kernel) ⟨by decide, by decide⟩) ⟨cS_blind, va_recv (q := (RX3, TX3, 2)) (ci := 3) (q0 := 0) hK.1 hPc rfl rfl, cS_pre hPc hDc hK⟩ rfl rfl hl.1 rfl (lv_room (Nat.le_of_ble_eq_true rfl)) dX5_clear_15 hqc) hP hD hS hA [2, 3] [0, 1, 4, 5, 6, 7] rfl rfl (by decide) (by decide) (fun u H locs hp hP hD hS => ?_)
  have hP : va_P G.1 vwCl [(h, .inr (5, [.ref se, .ref tx, .ref rs, .ref sp, .int cp, .int mt, .int mf, .int mo, .long msp, .ref md, .ref pf, .ref pt, .int pcs])), (rs, .inl (G.2 5, 3, .inr (.inr (.inr (.inr f))))), (tx, .inr (3, [.ref tc, .int (nI j1)])), (tc, .inl (G.2 2, 8, .inl g1)), (r2, .inr (3, [.ref c2, .int (nI j2)])), (c2, .inl (G.2 2, 8, .inl g2)), (r0, .inr (3, [.ref c0, .int 0])), (c0, .inl (G.2 2, 14, .inl g0))] H := hP
  have hD : va_D A [(h, .inr (5, [.ref se, .ref tx, .ref rs, .ref sp, .int cp, .int mt, .int mf, .int mo, .long msp, .ref md, .ref pf, .ref pt, .int pcs])), (rs, .inl (G.2 5, 3, .inr (.inr (.inr (.inr f))))), (tx, .inr (3, [.ref tc, .int (nI j1)])), (tc, .inl (G.2 2, 8, .inl g1)), (r2, .inr (3, [.ref c2, .int (nI j2)])), (c2, .inl (G.2 2, 8, .inl g2)), (r0, .inr (3, [.ref c0, .int 0])), (c0, .inl (G.2 2, 14, .inl g0))] := hD
  refine lv_aload_n hx hb dX5_clear_18 rfl (lv_at hl 0 rfl) ?_
  refine lv_iload_n hx hb dX5_clear_19 rfl (lv_at hl 1 rfl) ?_
  have hPc := hP.sub (ws' := [(h, .inr (5, [.ref se, .ref tx, .ref rs, .ref sp, .int cp, .int mt, .int mf, .int mo, .long msp, .ref md, .ref pf, .ref pt, .int pcs]))]) [0] rfl
  have hDc := hD.sub (ws' := [(h, .inr (5, [.ref se, .ref tx, .ref rs, .ref sp, .int cp, .int mt, .int mf, .int mo, .long msp, .ref md, .ref pf, .ref pt, .int pcs]))]) [0] (by decide) rfl
  have hqc : 0 + 0 ≤ 0 ∧ 0 + 0 ≤ 0 := ⟨by omega, by omega⟩
  refine kl_v (wr := [(rs, .inl (G.2 5, 3, .inr (.inr (.inr (.inr f))))), (tx, .inr (3, [.ref tc, .int (nI j1)])), (tc, .inl (G.2 2, 8, .inl g1)), (r2, .inr (3, [.ref c2, .int (nI j2)])), (c2, .inl (G.2 2, 8, .inl g2)), (r0, .inr (3, [.ref c0, .int 0])), (c0, .inl (G.2 2, 14, .inl g0))]) (va_runV (As := [.int 0]) (rest := []) F.1 (c_forgetN l G _ _ _ _ _ _ _ _ _ _ _ _ _ _ 0 (by decide) _) (cwV 1 hts (aw_V w_241 w_243 ws_X5_forgetMatchIfText w_1 w_244) rfl rfl rfl (by decide +kernel) ⟨by decide, by decide⟩) ⟨cS_blind, va_recv (q := (RX5, TX5, 13)) (ci := 5) (q0 := 0) hK.1 hPc rfl rfl, cS_pre hPc hDc hK⟩ rfl rfl hl.1 rfl (lv_room (Nat.le_of_ble_eq_true rfl)) dX5_clear_20 hqc) hP hD hS hA [0] [1, 2, 3, 4, 5, 6, 7] rfl rfl (by decide) (by decide) (fun u H locs hp hP hD hS => ?_)
  have hP : va_P G.1 vwCl [(rs, .inl (G.2 5, 3, .inr (.inr (.inr (.inr f))))), (tx, .inr (3, [.ref tc, .int (nI j1)])), (tc, .inl (G.2 2, 8, .inl g1)), (r2, .inr (3, [.ref c2, .int (nI j2)])), (c2, .inl (G.2 2, 8, .inl g2)), (r0, .inr (3, [.ref c0, .int 0])), (c0, .inl (G.2 2, 14, .inl g0)), (h, .inr (5, [.ref se, .ref tx, .ref rs, .ref sp, .int cp, .int mt, .int mf, .int mo, .long msp, .ref md, .ref pf, .ref pt, .int pcs]))] H := hP
  have hD : va_D A [(rs, .inl (G.2 5, 3, .inr (.inr (.inr (.inr f))))), (tx, .inr (3, [.ref tc, .int (nI j1)])), (tc, .inl (G.2 2, 8, .inl g1)), (r2, .inr (3, [.ref c2, .int (nI j2)])), (c2, .inl (G.2 2, 8, .inl g2)), (r0, .inr (3, [.ref c0, .int 0])), (c0, .inl (G.2 2, 14, .inl g0)), (h, .inr (5, [.ref se, .ref tx, .ref rs, .ref sp, .int cp, .int mt, .int mf, .int mo, .long msp, .ref md, .ref pf, .ref pt, .int pcs]))] := hD
  refine lv_iconst (v := 1) hx hb dX5_clear_23 (by decide) ?_
  have hP := hP.sub (ws' := [(h, .inr (5, [.ref se, .ref tx, .ref rs, .ref sp, .int cp, .int mt, .int mf, .int mo, .long msp, .ref md, .ref pf, .ref pt, .int pcs])), (rs, .inl (G.2 5, 3, .inr (.inr (.inr (.inr f))))), (r0, .inr (3, [.ref c0, .int (nI 0)])), (c0, .inl (G.2 2, 14, .inl g0)), (tx, .inr (3, [.ref tc, .int (nI j1)])), (tc, .inl (G.2 2, 8, .inl g1)), (r2, .inr (3, [.ref c2, .int (nI j2)])), (c2, .inl (G.2 2, 8, .inl g2))]) [7, 0, 5, 6, 1, 2, 3, 4] rfl
  have hD := hD.sub (ws' := [(h, .inr (5, [.ref se, .ref tx, .ref rs, .ref sp, .int cp, .int mt, .int mf, .int mo, .long msp, .ref md, .ref pf, .ref pt, .int pcs])), (rs, .inl (G.2 5, 3, .inr (.inr (.inr (.inr f))))), (r0, .inr (3, [.ref c0, .int (nI 0)])), (c0, .inl (G.2 2, 14, .inl g0)), (tx, .inr (3, [.ref tc, .int (nI j1)])), (tc, .inl (G.2 2, 8, .inl g1)), (r2, .inr (3, [.ref c2, .int (nI j2)])), (c2, .inl (G.2 2, 8, .inl g2))]) [7, 0, 5, 6, 1, 2, 3, 4] (by decide) rfl
  exact en_i F hS 1 () (by rfl) rfl hP hD (by omega) (by omega) dX5_clear_24

theorem dX5_length_0 : decode cX5_length 0 = .ok (.iload_n 1, 1) := by decide +kernel
theorem dX5_length_1 : decode cX5_length 1 = .ok (.invokestatic 47, 3) := by decide +kernel
theorem dX5_length_4 : decode cX5_length 4 = .ok (.ifCond .eq 15, 3) := by decide +kernel
theorem dX5_length_7 : decode cX5_length 7 = .ok (.aload_n 0, 1) := by decide +kernel
theorem dX5_length_8 : decode cX5_length 8 = .ok (.getfield 26, 3) := by decide +kernel
theorem dX5_length_11 : decode cX5_length 11 = .ok (.iload_n 1, 1) := by decide +kernel
theorem dX5_length_12 : decode cX5_length 12 = .ok (.aaload, 1) := by decide +kernel
theorem dX5_length_13 : decode cX5_length 13 = .ok (.invokevirtual 90, 3) := by decide +kernel
theorem dX5_length_16 : decode cX5_length 16 = .ok (.goto 4, 3) := by decide +kernel
theorem dX5_length_20 : decode cX5_length 20 = .ok (.ireturn, 1) := by decide +kernel
set_option maxHeartbeats 4000000 in
set_option maxRecDepth 100000 in
theorem c_len0 (l : Launch) (G : PG) (h se tx rs sp md pf pt : Nat) (cp mt mf mo pcs : Int32) (msp : Int64) (r0 c0 r2 c2 tc : Nat) (f : Nat → Option Nat) (hf0 : f 0 = some r0) (hf1 : f 1 = some tx) (hf2 : f 2 = some r2) (j0 j1 j2 : Nat) (g0 g1 g2 : Nat → Int32) : Ci l yX5_length (Cond.code yX5_length cX5_length 2 (some .int) :: aW) { frames := 1, cells := 0, slots := 0, locals := 21 } G [(h, .inr (5, [.ref se, .ref tx, .ref rs, .ref sp, .int cp, .int mt, .int mf, .int mo, .long msp, .ref md, .ref pf, .ref pt, .int pcs])), (rs, .inl (G.2 5, 3, .inr (.inr (.inr (.inr f))))), (r0, .inr (3, [.ref c0, .int (nI j0)])), (c0, .inl (G.2 2, 14, .inl g0)), (tx, .inr (3, [.ref tc, .int (nI j1)])), (tc, .inl (G.2 2, 8, .inl g1)), (r2, .inr (3, [.ref c2, .int (nI j2)])), (c2, .inl (G.2 2, 8, .inl g2))] [.ref h, .int 0] (S := Unit) (fun (r9 : Int32) (_ : Unit) => r9 = nI j0) (fun (_ : Unit) => [(h, .inr (5, [.ref se, .ref tx, .ref rs, .ref sp, .int cp, .int mt, .int mf, .int mo, .long msp, .ref md, .ref pf, .ref pt, .int pcs])), (rs, .inl (G.2 5, 3, .inr (.inr (.inr (.inr f))))), (r0, .inr (3, [.ref c0, .int (nI j0)])), (c0, .inl (G.2 2, 14, .inl g0)), (tx, .inr (3, [.ref tc, .int (nI j1)])), (tc, .inl (G.2 2, 8, .inl g1)), (r2, .inr (3, [.ref c2, .int (nI j2)])), (c2, .inl (G.2 2, 8, .inl g2))]) 0 0 := by
  refine ofB (y := yX5_length) (G := G) (cc := cX5_length) (maxL := 2) (ret := (some .int)) (Qc := fun A => va_Qi (fun (r9 : Int32) (_ : Unit) => r9 = nI j0) (oB G A (fun (_ : Unit) => [(h, .inr (5, [.ref se, .ref tx, .ref rs, .ref sp, .int cp, .int mt, .int mf, .int mo, .long msp, .ref md, .ref pf, .ref pt, .int pcs])), (rs, .inl (G.2 5, 3, .inr (.inr (.inr (.inr f))))), (r0, .inr (3, [.ref c0, .int (nI j0)])), (c0, .inl (G.2 2, 14, .inl g0)), (tx, .inr (3, [.ref tc, .int (nI j1)])), (tc, .inl (G.2 2, 8, .inl g1)), (r2, .inr (3, [.ref c2, .int (nI j2)])), (c2, .inl (G.2 2, 8, .inl g2))])) A) (by decide) rfl ?_
  intro p e s m below meth c A F hK hA hP hD
  have hx := F.1.1; have hb := F.1.2.1; have hml := F.1.2.2.1; have hts := F.1.2.2.2.2
  have hown : s.vm.findClass RX5 = some m.cls := F.1.2.2.2.1
  have hS : va_S A s.heap s.heap [] := va_S.rf
  have hl := lv_entry ([.ref h, .int 0]) (n := 2) (Nat.le_of_ble_eq_true rfl)
  rw [lg_entry_eq]
  generalize (lg_sl ([.ref h, .int 0]) ++ List.replicate (2 - (lg_sl ([.ref h, .int 0])).length) Slot.unset).toArray = ls at hl ⊢
  have hl : lv_has ls 2 [(0, .ref h), (1, .int 0)] := hl
  refine lv_iload_n hx hb dX5_length_0 rfl (lv_at hl 1 rfl) ?_
  have hPc := hP.sub (ws' := []) [] rfl
  have hDc := hD.sub (ws' := []) [] (by decide) rfl
  have hqc : 0 + 0 ≤ 0 ∧ 0 + 0 ≤ 0 := ⟨by omega, by omega⟩
  refine kl_i (wr := [(h, .inr (5, [.ref se, .ref tx, .ref rs, .ref sp, .int cp, .int mt, .int mf, .int mo, .long msp, .ref md, .ref pf, .ref pt, .int pcs])), (rs, .inl (G.2 5, 3, .inr (.inr (.inr (.inr f))))), (r0, .inr (3, [.ref c0, .int (nI j0)])), (c0, .inl (G.2 2, 14, .inl g0)), (tx, .inr (3, [.ref tc, .int (nI j1)])), (tc, .inl (G.2 2, 8, .inl g1)), (r2, .inr (3, [.ref c2, .int (nI j2)])), (c2, .inl (G.2 2, 8, .inl g2))]) (va_runS (As := [.int 0]) (rest := []) F.1 (c_isRow l G 0 _) (va_cwS 1 hts (aw_S w_234 w_235 w_1 w_236) rfl rfl rfl (by decide +kernel) ⟨by decide, by decide⟩) ⟨cS_blind, cS_pre hPc hDc hK⟩ rfl rfl hl.1 rfl (lv_room (Nat.le_of_ble_eq_true rfl)) dX5_length_1 hqc) hP hD hS hA [] [0, 1, 2, 3, 4, 5, 6, 7] rfl rfl (by decide) (by decide) (fun r u H locs hp hP hD hS => ?_)
  subst hp
  have hP : va_P G.1 vwCl [(h, .inr (5, [.ref se, .ref tx, .ref rs, .ref sp, .int cp, .int mt, .int mf, .int mo, .long msp, .ref md, .ref pf, .ref pt, .int pcs])), (rs, .inl (G.2 5, 3, .inr (.inr (.inr (.inr f))))), (r0, .inr (3, [.ref c0, .int (nI j0)])), (c0, .inl (G.2 2, 14, .inl g0)), (tx, .inr (3, [.ref tc, .int (nI j1)])), (tc, .inl (G.2 2, 8, .inl g1)), (r2, .inr (3, [.ref c2, .int (nI j2)])), (c2, .inl (G.2 2, 8, .inl g2))] H := hP
  have hD : va_D A [(h, .inr (5, [.ref se, .ref tx, .ref rs, .ref sp, .int cp, .int mt, .int mf, .int mo, .long msp, .ref md, .ref pf, .ref pt, .int pcs])), (rs, .inl (G.2 5, 3, .inr (.inr (.inr (.inr f))))), (r0, .inr (3, [.ref c0, .int (nI j0)])), (c0, .inl (G.2 2, 14, .inl g0)), (tx, .inr (3, [.ref tc, .int (nI j1)])), (tc, .inl (G.2 2, 8, .inl g1)), (r2, .inr (3, [.ref c2, .int (nI j2)])), (c2, .inl (G.2 2, 8, .inl g2))] := hD
  refine lv_if_eq (tgt := 19) hx hb dX5_length_4 (by decide) (fun h => absurd h (by decide : ¬ isRowV 0 = 0)) (fun _ => ?_)
  refine lv_aload_n hx hb dX5_length_7 rfl (lv_at hl 0 rfl) ?_
  refine va_get (D := G.1) (ci := 5) (v := .ref rs) (C := RX5) (T := TX5) (N := 13) hx hb hts inX5 hown hK.1 hP 0 rfl rfl 2 (by decide) (hts _ w_192) (fun _ h9 => h9) rfl dX5_length_8 ?_
  refine lv_iload_n hx hb dX5_length_11 rfl (lv_at hl 1 rfl) ?_
  refine va_aldq (D := G.1) hx hb hK.1 hP 1 5 rfl rfl (vp_in_nI (n := 0) (by decide) (by decide)) dX5_length_12 ?_
  refine tp_v (.ref r0) (show va_rf (f 0) = .ref r0 by rw [hf0]; rfl) ?_
  have hPc := hP.sub (ws' := [(r0, .inr (3, [.ref c0, .int (nI j0)])), (c0, .inl (G.2 2, 14, .inl g0))]) [2, 3] rfl
  have hDc := hD.sub (ws' := [(r0, .inr (3, [.ref c0, .int (nI j0)])), (c0, .inl (G.2 2, 14, .inl g0))]) [2, 3] (by decide) rfl
  have hqc : 0 + 0 ≤ 0 ∧ 0 + 0 ≤ 0 := ⟨by omega, by omega⟩
  refine kl_i (wr := [(h, .inr (5, [.ref se, .ref tx, .ref rs, .ref sp, .int cp, .int mt, .int mf, .int mo, .long msp, .ref md, .ref pf, .ref pt, .int pcs])), (rs, .inl (G.2 5, 3, .inr (.inr (.inr (.inr f))))), (tx, .inr (3, [.ref tc, .int (nI j1)])), (tc, .inl (G.2 2, 8, .inl g1)), (r2, .inr (3, [.ref c2, .int (nI j2)])), (c2, .inl (G.2 2, 8, .inl g2))]) (va_runV (As := []) (rest := []) F.1 (c_row_size l G _ _ _ _ _ _) (cwV 0 hts (aw_V w_257 w_258 w_259 w_3 w_260) rfl rfl rfl (by decide +kernel) ⟨by decide, by decide⟩) ⟨cS_blind, va_recv (q := (RX3, TX3, 2)) (ci := 3) (q0 := 0) hK.1 hPc rfl rfl, cS_pre hPc hDc hK⟩ rfl rfl hl.1 rfl (lv_room (Nat.le_of_ble_eq_true rfl)) dX5_length_13 hqc) hP hD hS hA [2, 3] [0, 1, 4, 5, 6, 7] rfl rfl (by decide) (by decide) (fun r u H locs hp hP hD hS => ?_)
  subst hp
  have hP : va_P G.1 vwCl [(h, .inr (5, [.ref se, .ref tx, .ref rs, .ref sp, .int cp, .int mt, .int mf, .int mo, .long msp, .ref md, .ref pf, .ref pt, .int pcs])), (rs, .inl (G.2 5, 3, .inr (.inr (.inr (.inr f))))), (tx, .inr (3, [.ref tc, .int (nI j1)])), (tc, .inl (G.2 2, 8, .inl g1)), (r2, .inr (3, [.ref c2, .int (nI j2)])), (c2, .inl (G.2 2, 8, .inl g2)), (r0, .inr (3, [.ref c0, .int (nI j0)])), (c0, .inl (G.2 2, 14, .inl g0))] H := hP
  have hD : va_D A [(h, .inr (5, [.ref se, .ref tx, .ref rs, .ref sp, .int cp, .int mt, .int mf, .int mo, .long msp, .ref md, .ref pf, .ref pt, .int pcs])), (rs, .inl (G.2 5, 3, .inr (.inr (.inr (.inr f))))), (tx, .inr (3, [.ref tc, .int (nI j1)])), (tc, .inl (G.2 2, 8, .inl g1)), (r2, .inr (3, [.ref c2, .int (nI j2)])), (c2, .inl (G.2 2, 8, .inl g2)), (r0, .inr (3, [.ref c0, .int (nI j0)])), (c0, .inl (G.2 2, 14, .inl g0))] := hD
  refine lv_goto (tgt := 20) hx hb dX5_length_16 (by decide) ?_
  have hP := hP.sub (ws' := [(h, .inr (5, [.ref se, .ref tx, .ref rs, .ref sp, .int cp, .int mt, .int mf, .int mo, .long msp, .ref md, .ref pf, .ref pt, .int pcs])), (rs, .inl (G.2 5, 3, .inr (.inr (.inr (.inr f))))), (r0, .inr (3, [.ref c0, .int (nI j0)])), (c0, .inl (G.2 2, 14, .inl g0)), (tx, .inr (3, [.ref tc, .int (nI j1)])), (tc, .inl (G.2 2, 8, .inl g1)), (r2, .inr (3, [.ref c2, .int (nI j2)])), (c2, .inl (G.2 2, 8, .inl g2))]) [0, 1, 6, 7, 2, 3, 4, 5] rfl
  have hD := hD.sub (ws' := [(h, .inr (5, [.ref se, .ref tx, .ref rs, .ref sp, .int cp, .int mt, .int mf, .int mo, .long msp, .ref md, .ref pf, .ref pt, .int pcs])), (rs, .inl (G.2 5, 3, .inr (.inr (.inr (.inr f))))), (r0, .inr (3, [.ref c0, .int (nI j0)])), (c0, .inl (G.2 2, 14, .inl g0)), (tx, .inr (3, [.ref tc, .int (nI j1)])), (tc, .inl (G.2 2, 8, .inl g1)), (r2, .inr (3, [.ref c2, .int (nI j2)])), (c2, .inl (G.2 2, 8, .inl g2))]) [0, 1, 6, 7, 2, 3, 4, 5] (by decide) rfl
  exact en_i F hS (nI j0) () (by rfl) rfl hP hD (by omega) (by omega) dX5_length_20

set_option maxHeartbeats 4000000 in
set_option maxRecDepth 100000 in
theorem c_type1 (l : Launch) (G : PG) (h se tx rs sp md pf pt : Nat) (cp mt mf mo pcs : Int32) (msp : Int64) (r0 c0 r2 c2 tc : Nat) (f : Nat → Option Nat) (hf0 : f 0 = some r0) (hf1 : f 1 = some tx) (hf2 : f 2 = some r2) (j0 j1 j2 : Nat) (g0 g1 g2 : Nat → Int32) (ch : Int32) (h32 : ¬ ch < 32) (h126 : ¬ (126 : Int32) < ch) (hj : j1 < 8) : Ci l yX5_type (Cond.code yX5_type cX5_type 3 (some .boolean) :: aW) { frames := 1, cells := 0, slots := 0, locals := 21 } G [(h, .inr (5, [.ref se, .ref tx, .ref rs, .ref sp, .int cp, .int mt, .int mf, .int mo, .long msp, .ref md, .ref pf, .ref pt, .int pcs])), (rs, .inl (G.2 5, 3, .inr (.inr (.inr (.inr f))))), (r0, .inr (3, [.ref c0, .int (nI j0)])), (c0, .inl (G.2 2, 14, .inl g0)), (tx, .inr (3, [.ref tc, .int (nI j1)])), (tc, .inl (G.2 2, 8, .inl g1)), (r2, .inr (3, [.ref c2, .int (nI j2)])), (c2, .inl (G.2 2, 8, .inl g2))] [.ref h, .int 1, .int ch] (S := Unit) (fun (r9 : Int32) (_ : Unit) => r9 = 1) (fun (_ : Unit) => [(h, .inr (5, [.ref se, .ref tx, .ref rs, .ref sp, .int cp, .int 0, .int mf, .int mo, .long msp, .ref md, .ref pf, .ref pt, .int pcs])), (rs, .inl (G.2 5, 3, .inr (.inr (.inr (.inr f))))), (r0, .inr (3, [.ref c0, .int (nI j0)])), (c0, .inl (G.2 2, 14, .inl g0)), (tx, .inr (3, [.ref tc, .int (nI (j1 + 1))])), (tc, .inl (G.2 2, 8, .inl (upd g1 j1 (vp_nar .char ch)))), (r2, .inr (3, [.ref c2, .int (nI j2)])), (c2, .inl (G.2 2, 8, .inl g2))]) 0 0 := by
  refine ofB (y := yX5_type) (G := G) (cc := cX5_type) (maxL := 3) (ret := (some .boolean)) (Qc := fun A => va_Qi (fun (r9 : Int32) (_ : Unit) => r9 = 1) (oB G A (fun (_ : Unit) => [(h, .inr (5, [.ref se, .ref tx, .ref rs, .ref sp, .int cp, .int 0, .int mf, .int mo, .long msp, .ref md, .ref pf, .ref pt, .int pcs])), (rs, .inl (G.2 5, 3, .inr (.inr (.inr (.inr f))))), (r0, .inr (3, [.ref c0, .int (nI j0)])), (c0, .inl (G.2 2, 14, .inl g0)), (tx, .inr (3, [.ref tc, .int (nI (j1 + 1))])), (tc, .inl (G.2 2, 8, .inl (upd g1 j1 (vp_nar .char ch)))), (r2, .inr (3, [.ref c2, .int (nI j2)])), (c2, .inl (G.2 2, 8, .inl g2))])) A) (by decide) rfl ?_
  intro p e s m below meth c A F hK hA hP hD
  have hx := F.1.1; have hb := F.1.2.1; have hml := F.1.2.2.1; have hts := F.1.2.2.2.2
  have hown : s.vm.findClass RX5 = some m.cls := F.1.2.2.2.1
  have hS : va_S A s.heap s.heap [] := va_S.rf
  have hl := lv_entry ([.ref h, .int 1, .int ch]) (n := 3) (Nat.le_of_ble_eq_true rfl)
  rw [lg_entry_eq]
  generalize (lg_sl ([.ref h, .int 1, .int ch]) ++ List.replicate (3 - (lg_sl ([.ref h, .int 1, .int ch])).length) Slot.unset).toArray = ls at hl ⊢
  have hl : lv_has ls 3 [(0, .ref h), (1, .int 1), (2, .int ch)] := hl
  refine lv_iload_n hx hb dX5_type_0 rfl (lv_at hl 1 rfl) ?_
  have hPc := hP.sub (ws' := []) [] rfl
  have hDc := hD.sub (ws' := []) [] (by decide) rfl
  have hqc : 0 + 0 ≤ 0 ∧ 0 + 0 ≤ 0 := ⟨by omega, by omega⟩
  refine kl_i (wr := [(h, .inr (5, [.ref se, .ref tx, .ref rs, .ref sp, .int cp, .int mt, .int mf, .int mo, .long msp, .ref md, .ref pf, .ref pt, .int pcs])), (rs, .inl (G.2 5, 3, .inr (.inr (.inr (.inr f))))), (r0, .inr (3, [.ref c0, .int (nI j0)])), (c0, .inl (G.2 2, 14, .inl g0)), (tx, .inr (3, [.ref tc, .int (nI j1)])), (tc, .inl (G.2 2, 8, .inl g1)), (r2, .inr (3, [.ref c2, .int (nI j2)])), (c2, .inl (G.2 2, 8, .inl g2))]) (va_runS (As := [.int 1]) (rest := []) F.1 (c_isRow l G 1 _) (va_cwS 1 hts (aw_S w_234 w_235 w_1 w_236) rfl rfl rfl (by decide +kernel) ⟨by decide, by decide⟩) ⟨cS_blind, cS_pre hPc hDc hK⟩ rfl rfl hl.1 rfl (lv_room (Nat.le_of_ble_eq_true rfl)) dX5_type_1 hqc) hP hD hS hA [] [0, 1, 2, 3, 4, 5, 6, 7] rfl rfl (by decide) (by decide) (fun r u H locs hp hP hD hS => ?_)
  subst hp
  have hP : va_P G.1 vwCl [(h, .inr (5, [.ref se, .ref tx, .ref rs, .ref sp, .int cp, .int mt, .int mf, .int mo, .long msp, .ref md, .ref pf, .ref pt, .int pcs])), (rs, .inl (G.2 5, 3, .inr (.inr (.inr (.inr f))))), (r0, .inr (3, [.ref c0, .int (nI j0)])), (c0, .inl (G.2 2, 14, .inl g0)), (tx, .inr (3, [.ref tc, .int (nI j1)])), (tc, .inl (G.2 2, 8, .inl g1)), (r2, .inr (3, [.ref c2, .int (nI j2)])), (c2, .inl (G.2 2, 8, .inl g2))] H := hP
  have hD : va_D A [(h, .inr (5, [.ref se, .ref tx, .ref rs, .ref sp, .int cp, .int mt, .int mf, .int mo, .long msp, .ref md, .ref pf, .ref pt, .int pcs])), (rs, .inl (G.2 5, 3, .inr (.inr (.inr (.inr f))))), (r0, .inr (3, [.ref c0, .int (nI j0)])), (c0, .inl (G.2 2, 14, .inl g0)), (tx, .inr (3, [.ref tc, .int (nI j1)])), (tc, .inl (G.2 2, 8, .inl g1)), (r2, .inr (3, [.ref c2, .int (nI j2)])), (c2, .inl (G.2 2, 8, .inl g2))] := hD
  refine lv_if_eq (tgt := 32) hx hb dX5_type_4 (by decide) (fun h => absurd h (by decide : ¬ isRowV 1 = 0)) (fun _ => ?_)
  refine lv_iload_n hx hb dX5_type_7 rfl (lv_at hl 2 rfl) ?_
  refine lv_bipush (v := 32) hx hb dX5_type_8 (by decide) ?_
  refine lv_icmp_lt (tgt := 32) hx hb dX5_type_10 (by decide) (fun h => absurd h h32) (fun _ => ?_)
  refine lv_iload_n hx hb dX5_type_13 rfl (lv_at hl 2 rfl) ?_
  refine lv_bipush (v := 126) hx hb dX5_type_14 (by decide) ?_
  refine lv_icmp_gt (tgt := 32) hx hb dX5_type_16 (by decide) (fun h => absurd h h126) (fun _ => ?_)
  refine lv_aload_n hx hb dX5_type_19 rfl (lv_at hl 0 rfl) ?_
  refine va_get (D := G.1) (ci := 5) (v := .ref rs) (C := RX5) (T := TX5) (N := 13) hx hb hts inX5 hown hK.1 hP 0 rfl rfl 2 (by decide) (hts _ w_192) (fun _ h9 => h9) rfl dX5_type_20 ?_
  refine lv_iload_n hx hb dX5_type_23 rfl (lv_at hl 1 rfl) ?_
  refine va_aldq (D := G.1) hx hb hK.1 hP 1 5 rfl rfl (vp_in_nI (n := 1) (by decide) (by decide)) dX5_type_24 ?_
  refine tp_v (.ref tx) (show va_rf (f 1) = .ref tx by rw [hf1]; rfl) ?_
  refine lv_iload_n hx hb dX5_type_25 rfl (lv_at hl 2 rfl) ?_
  have hPc := hP.sub (ws' := [(tx, .inr (3, [.ref tc, .int (nI j1)])), (tc, .inl (G.2 2, 8, .inl g1))]) [4, 5] rfl
  have hDc := hD.sub (ws' := [(tx, .inr (3, [.ref tc, .int (nI j1)])), (tc, .inl (G.2 2, 8, .inl g1))]) [4, 5] (by decide) rfl
  have hqc : 0 + 0 ≤ 0 ∧ 0 + 0 ≤ 0 := ⟨by omega, by omega⟩
  refine kl_i (wr := [(h, .inr (5, [.ref se, .ref tx, .ref rs, .ref sp, .int cp, .int mt, .int mf, .int mo, .long msp, .ref md, .ref pf, .ref pt, .int pcs])), (rs, .inl (G.2 5, 3, .inr (.inr (.inr (.inr f))))), (r0, .inr (3, [.ref c0, .int (nI j0)])), (c0, .inl (G.2 2, 14, .inl g0)), (r2, .inr (3, [.ref c2, .int (nI j2)])), (c2, .inl (G.2 2, 8, .inl g2))]) (va_runV (As := [.int ch]) (rest := []) F.1 (c_row_add l G _ _ 8 j1 g1 ch hj (by decide) _) (cwV 1 hts (aw_V w_237 w_238 w_239 w_3 w_240) rfl rfl rfl (by decide +kernel) ⟨by decide, by decide⟩) ⟨cS_blind, va_recv (q := (RX3, TX3, 2)) (ci := 3) (q0 := 0) hK.1 hPc rfl rfl, cS_pre hPc hDc hK⟩ rfl rfl hl.1 rfl (lv_room (Nat.le_of_ble_eq_true rfl)) dX5_type_26 hqc) hP hD hS hA [4, 5] [0, 1, 2, 3, 6, 7] rfl rfl (by decide) (by decide) (fun r u H locs hp hP hD hS => ?_)
  subst hp
  have hP : va_P G.1 vwCl [(h, .inr (5, [.ref se, .ref tx, .ref rs, .ref sp, .int cp, .int mt, .int mf, .int mo, .long msp, .ref md, .ref pf, .ref pt, .int pcs])), (rs, .inl (G.2 5, 3, .inr (.inr (.inr (.inr f))))), (r0, .inr (3, [.ref c0, .int (nI j0)])), (c0, .inl (G.2 2, 14, .inl g0)), (r2, .inr (3, [.ref c2, .int (nI j2)])), (c2, .inl (G.2 2, 8, .inl g2)), (tx, .inr (3, [.ref tc, .int (nI (j1 + 1))])), (tc, .inl (G.2 2, 8, .inl (upd g1 j1 (vp_nar .char ch))))] H := hP
  have hD : va_D A [(h, .inr (5, [.ref se, .ref tx, .ref rs, .ref sp, .int cp, .int mt, .int mf, .int mo, .long msp, .ref md, .ref pf, .ref pt, .int pcs])), (rs, .inl (G.2 5, 3, .inr (.inr (.inr (.inr f))))), (r0, .inr (3, [.ref c0, .int (nI j0)])), (c0, .inl (G.2 2, 14, .inl g0)), (r2, .inr (3, [.ref c2, .int (nI j2)])), (c2, .inl (G.2 2, 8, .inl g2)), (tx, .inr (3, [.ref tc, .int (nI (j1 + 1))])), (tc, .inl (G.2 2, 8, .inl (upd g1 j1 (vp_nar .char ch))))] := hD
  refine lv_if_ne (tgt := 34) hx hb dX5_type_29 (by decide) (fun _ => ?_) (fun h => absurd h (by decide : ¬ (1 : Int32) = 0))
  refine lv_aload_n hx hb dX5_type_34 rfl (lv_at hl 0 rfl) ?_
  refine lv_iload_n hx hb dX5_type_35 rfl (lv_at hl 1 rfl) ?_
  have hPc := hP.sub (ws' := [(h, .inr (5, [.ref se, .ref tx, .ref rs, .ref sp, .int cp, .int mt, .int mf, .int mo, .long msp, .ref md, .ref pf, .ref pt, .int pcs]))]) [0] rfl
  have hDc := hD.sub (ws' := [(h, .inr (5, [.ref se, .ref tx, .ref rs, .ref sp, .int cp, .int mt, .int mf, .int mo, .long msp, .ref md, .ref pf, .ref pt, .int pcs]))]) [0] (by decide) rfl
  have hqc : 0 + 0 ≤ 0 ∧ 0 + 0 ≤ 0 := ⟨by omega, by omega⟩
  refine kl_v (wr := [(rs, .inl (G.2 5, 3, .inr (.inr (.inr (.inr f))))), (r0, .inr (3, [.ref c0, .int (nI j0)])), (c0, .inl (G.2 2, 14, .inl g0)), (r2, .inr (3, [.ref c2, .int (nI j2)])), (c2, .inl (G.2 2, 8, .inl g2)), (tx, .inr (3, [.ref tc, .int (nI (j1 + 1))])), (tc, .inl (G.2 2, 8, .inl (upd g1 j1 (vp_nar .char ch))))]) (va_runV (As := [.int 1]) (rest := []) F.1 (c_forget1 l G _ _ _ _ _ _ _ _ _ _ _ _ _ _ _) (cwV 1 hts (aw_V w_241 w_243 ws_X5_forgetMatchIfText w_1 w_244) rfl rfl rfl (by decide +kernel) ⟨by decide, by decide⟩) ⟨cS_blind, va_recv (q := (RX5, TX5, 13)) (ci := 5) (q0 := 0) hK.1 hPc rfl rfl, cS_pre hPc hDc hK⟩ rfl rfl hl.1 rfl (lv_room (Nat.le_of_ble_eq_true rfl)) dX5_type_36 hqc) hP hD hS hA [0] [1, 2, 3, 4, 5, 6, 7] rfl rfl (by decide) (by decide) (fun u H locs hp hP hD hS => ?_)
  have hP : va_P G.1 vwCl [(rs, .inl (G.2 5, 3, .inr (.inr (.inr (.inr f))))), (r0, .inr (3, [.ref c0, .int (nI j0)])), (c0, .inl (G.2 2, 14, .inl g0)), (r2, .inr (3, [.ref c2, .int (nI j2)])), (c2, .inl (G.2 2, 8, .inl g2)), (tx, .inr (3, [.ref tc, .int (nI (j1 + 1))])), (tc, .inl (G.2 2, 8, .inl (upd g1 j1 (vp_nar .char ch)))), (h, .inr (5, [.ref se, .ref tx, .ref rs, .ref sp, .int cp, .int 0, .int mf, .int mo, .long msp, .ref md, .ref pf, .ref pt, .int pcs]))] H := hP
  have hD : va_D A [(rs, .inl (G.2 5, 3, .inr (.inr (.inr (.inr f))))), (r0, .inr (3, [.ref c0, .int (nI j0)])), (c0, .inl (G.2 2, 14, .inl g0)), (r2, .inr (3, [.ref c2, .int (nI j2)])), (c2, .inl (G.2 2, 8, .inl g2)), (tx, .inr (3, [.ref tc, .int (nI (j1 + 1))])), (tc, .inl (G.2 2, 8, .inl (upd g1 j1 (vp_nar .char ch)))), (h, .inr (5, [.ref se, .ref tx, .ref rs, .ref sp, .int cp, .int 0, .int mf, .int mo, .long msp, .ref md, .ref pf, .ref pt, .int pcs]))] := hD
  refine lv_iconst (v := 1) hx hb dX5_type_39 (by decide) ?_
  have hP := hP.sub (ws' := [(h, .inr (5, [.ref se, .ref tx, .ref rs, .ref sp, .int cp, .int 0, .int mf, .int mo, .long msp, .ref md, .ref pf, .ref pt, .int pcs])), (rs, .inl (G.2 5, 3, .inr (.inr (.inr (.inr f))))), (r0, .inr (3, [.ref c0, .int (nI j0)])), (c0, .inl (G.2 2, 14, .inl g0)), (tx, .inr (3, [.ref tc, .int (nI (j1 + 1))])), (tc, .inl (G.2 2, 8, .inl (upd g1 j1 (vp_nar .char ch)))), (r2, .inr (3, [.ref c2, .int (nI j2)])), (c2, .inl (G.2 2, 8, .inl g2))]) [7, 0, 1, 2, 5, 6, 3, 4] rfl
  have hD := hD.sub (ws' := [(h, .inr (5, [.ref se, .ref tx, .ref rs, .ref sp, .int cp, .int 0, .int mf, .int mo, .long msp, .ref md, .ref pf, .ref pt, .int pcs])), (rs, .inl (G.2 5, 3, .inr (.inr (.inr (.inr f))))), (r0, .inr (3, [.ref c0, .int (nI j0)])), (c0, .inl (G.2 2, 14, .inl g0)), (tx, .inr (3, [.ref tc, .int (nI (j1 + 1))])), (tc, .inl (G.2 2, 8, .inl (upd g1 j1 (vp_nar .char ch)))), (r2, .inr (3, [.ref c2, .int (nI j2)])), (c2, .inl (G.2 2, 8, .inl g2))]) [7, 0, 1, 2, 5, 6, 3, 4] (by decide) rfl
  exact en_i F hS 1 () (by rfl) rfl hP hD (by omega) (by omega) dX5_type_40

set_option maxHeartbeats 4000000 in
set_option maxRecDepth 100000 in
theorem c_typeF1 (l : Launch) (G : PG) (h se tx rs sp md pf pt : Nat) (cp mt mf mo pcs : Int32) (msp : Int64) (r0 c0 r2 c2 tc : Nat) (f : Nat → Option Nat) (hf0 : f 0 = some r0) (hf1 : f 1 = some tx) (hf2 : f 2 = some r2) (j0 j1 j2 : Nat) (g0 g1 g2 : Nat → Int32) (ch : Int32) (h32 : ¬ ch < 32) (h126 : ¬ (126 : Int32) < ch) : Ci l yX5_type (Cond.code yX5_type cX5_type 3 (some .boolean) :: aW) { frames := 1, cells := 0, slots := 0, locals := 21 } G [(h, .inr (5, [.ref se, .ref tx, .ref rs, .ref sp, .int cp, .int mt, .int mf, .int mo, .long msp, .ref md, .ref pf, .ref pt, .int pcs])), (rs, .inl (G.2 5, 3, .inr (.inr (.inr (.inr f))))), (r0, .inr (3, [.ref c0, .int (nI j0)])), (c0, .inl (G.2 2, 14, .inl g0)), (tx, .inr (3, [.ref tc, .int (nI 8)])), (tc, .inl (G.2 2, 8, .inl g1)), (r2, .inr (3, [.ref c2, .int (nI j2)])), (c2, .inl (G.2 2, 8, .inl g2))] [.ref h, .int 1, .int ch] (S := Unit) (fun (r9 : Int32) (_ : Unit) => r9 = 0) (fun (_ : Unit) => [(h, .inr (5, [.ref se, .ref tx, .ref rs, .ref sp, .int cp, .int mt, .int mf, .int mo, .long msp, .ref md, .ref pf, .ref pt, .int pcs])), (rs, .inl (G.2 5, 3, .inr (.inr (.inr (.inr f))))), (r0, .inr (3, [.ref c0, .int (nI j0)])), (c0, .inl (G.2 2, 14, .inl g0)), (tx, .inr (3, [.ref tc, .int (nI 8)])), (tc, .inl (G.2 2, 8, .inl g1)), (r2, .inr (3, [.ref c2, .int (nI j2)])), (c2, .inl (G.2 2, 8, .inl g2))]) 0 0 := by
  refine ofB (y := yX5_type) (G := G) (cc := cX5_type) (maxL := 3) (ret := (some .boolean)) (Qc := fun A => va_Qi (fun (r9 : Int32) (_ : Unit) => r9 = 0) (oB G A (fun (_ : Unit) => [(h, .inr (5, [.ref se, .ref tx, .ref rs, .ref sp, .int cp, .int mt, .int mf, .int mo, .long msp, .ref md, .ref pf, .ref pt, .int pcs])), (rs, .inl (G.2 5, 3, .inr (.inr (.inr (.inr f))))), (r0, .inr (3, [.ref c0, .int (nI j0)])), (c0, .inl (G.2 2, 14, .inl g0)), (tx, .inr (3, [.ref tc, .int (nI 8)])), (tc, .inl (G.2 2, 8, .inl g1)), (r2, .inr (3, [.ref c2, .int (nI j2)])), (c2, .inl (G.2 2, 8, .inl g2))])) A) (by decide) rfl ?_
  intro p e s m below meth c A F hK hA hP hD
  have hx := F.1.1; have hb := F.1.2.1; have hml := F.1.2.2.1; have hts := F.1.2.2.2.2
  have hown : s.vm.findClass RX5 = some m.cls := F.1.2.2.2.1
  have hS : va_S A s.heap s.heap [] := va_S.rf
  have hl := lv_entry ([.ref h, .int 1, .int ch]) (n := 3) (Nat.le_of_ble_eq_true rfl)
  rw [lg_entry_eq]
  generalize (lg_sl ([.ref h, .int 1, .int ch]) ++ List.replicate (3 - (lg_sl ([.ref h, .int 1, .int ch])).length) Slot.unset).toArray = ls at hl ⊢
  have hl : lv_has ls 3 [(0, .ref h), (1, .int 1), (2, .int ch)] := hl
  refine lv_iload_n hx hb dX5_type_0 rfl (lv_at hl 1 rfl) ?_
  have hPc := hP.sub (ws' := []) [] rfl
  have hDc := hD.sub (ws' := []) [] (by decide) rfl
  have hqc : 0 + 0 ≤ 0 ∧ 0 + 0 ≤ 0 := ⟨by omega, by omega⟩
  refine kl_i (wr := [(h, .inr (5, [.ref se, .ref tx, .ref rs, .ref sp, .int cp, .int mt, .int mf, .int mo, .long msp, .ref md, .ref pf, .ref pt, .int pcs])), (rs, .inl (G.2 5, 3, .inr (.inr (.inr (.inr f))))), (r0, .inr (3, [.ref c0, .int (nI j0)])), (c0, .inl (G.2 2, 14, .inl g0)), (tx, .inr (3, [.ref tc, .int (nI 8)])), (tc, .inl (G.2 2, 8, .inl g1)), (r2, .inr (3, [.ref c2, .int (nI j2)])), (c2, .inl (G.2 2, 8, .inl g2))]) (va_runS (As := [.int 1]) (rest := []) F.1 (c_isRow l G 1 _) (va_cwS 1 hts (aw_S w_234 w_235 w_1 w_236) rfl rfl rfl (by decide +kernel) ⟨by decide, by decide⟩) ⟨cS_blind, cS_pre hPc hDc hK⟩ rfl rfl hl.1 rfl (lv_room (Nat.le_of_ble_eq_true rfl)) dX5_type_1 hqc) hP hD hS hA [] [0, 1, 2, 3, 4, 5, 6, 7] rfl rfl (by decide) (by decide) (fun r u H locs hp hP hD hS => ?_)
  subst hp
  have hP : va_P G.1 vwCl [(h, .inr (5, [.ref se, .ref tx, .ref rs, .ref sp, .int cp, .int mt, .int mf, .int mo, .long msp, .ref md, .ref pf, .ref pt, .int pcs])), (rs, .inl (G.2 5, 3, .inr (.inr (.inr (.inr f))))), (r0, .inr (3, [.ref c0, .int (nI j0)])), (c0, .inl (G.2 2, 14, .inl g0)), (tx, .inr (3, [.ref tc, .int (nI 8)])), (tc, .inl (G.2 2, 8, .inl g1)), (r2, .inr (3, [.ref c2, .int (nI j2)])), (c2, .inl (G.2 2, 8, .inl g2))] H := hP
  have hD : va_D A [(h, .inr (5, [.ref se, .ref tx, .ref rs, .ref sp, .int cp, .int mt, .int mf, .int mo, .long msp, .ref md, .ref pf, .ref pt, .int pcs])), (rs, .inl (G.2 5, 3, .inr (.inr (.inr (.inr f))))), (r0, .inr (3, [.ref c0, .int (nI j0)])), (c0, .inl (G.2 2, 14, .inl g0)), (tx, .inr (3, [.ref tc, .int (nI 8)])), (tc, .inl (G.2 2, 8, .inl g1)), (r2, .inr (3, [.ref c2, .int (nI j2)])), (c2, .inl (G.2 2, 8, .inl g2))] := hD
  refine lv_if_eq (tgt := 32) hx hb dX5_type_4 (by decide) (fun h => absurd h (by decide : ¬ isRowV 1 = 0)) (fun _ => ?_)
  refine lv_iload_n hx hb dX5_type_7 rfl (lv_at hl 2 rfl) ?_
  refine lv_bipush (v := 32) hx hb dX5_type_8 (by decide) ?_
  refine lv_icmp_lt (tgt := 32) hx hb dX5_type_10 (by decide) (fun h => absurd h h32) (fun _ => ?_)
  refine lv_iload_n hx hb dX5_type_13 rfl (lv_at hl 2 rfl) ?_
  refine lv_bipush (v := 126) hx hb dX5_type_14 (by decide) ?_
  refine lv_icmp_gt (tgt := 32) hx hb dX5_type_16 (by decide) (fun h => absurd h h126) (fun _ => ?_)
  refine lv_aload_n hx hb dX5_type_19 rfl (lv_at hl 0 rfl) ?_
  refine va_get (D := G.1) (ci := 5) (v := .ref rs) (C := RX5) (T := TX5) (N := 13) hx hb hts inX5 hown hK.1 hP 0 rfl rfl 2 (by decide) (hts _ w_192) (fun _ h9 => h9) rfl dX5_type_20 ?_
  refine lv_iload_n hx hb dX5_type_23 rfl (lv_at hl 1 rfl) ?_
  refine va_aldq (D := G.1) hx hb hK.1 hP 1 5 rfl rfl (vp_in_nI (n := 1) (by decide) (by decide)) dX5_type_24 ?_
  refine tp_v (.ref tx) (show va_rf (f 1) = .ref tx by rw [hf1]; rfl) ?_
  refine lv_iload_n hx hb dX5_type_25 rfl (lv_at hl 2 rfl) ?_
  have hPc := hP.sub (ws' := [(tx, .inr (3, [.ref tc, .int (nI 8)])), (tc, .inl (G.2 2, 8, .inl g1))]) [4, 5] rfl
  have hDc := hD.sub (ws' := [(tx, .inr (3, [.ref tc, .int (nI 8)])), (tc, .inl (G.2 2, 8, .inl g1))]) [4, 5] (by decide) rfl
  have hqc : 0 + 0 ≤ 0 ∧ 0 + 0 ≤ 0 := ⟨by omega, by omega⟩
  refine kl_i (wr := [(h, .inr (5, [.ref se, .ref tx, .ref rs, .ref sp, .int cp, .int mt, .int mf, .int mo, .long msp, .ref md, .ref pf, .ref pt, .int pcs])), (rs, .inl (G.2 5, 3, .inr (.inr (.inr (.inr f))))), (r0, .inr (3, [.ref c0, .int (nI j0)])), (c0, .inl (G.2 2, 14, .inl g0)), (r2, .inr (3, [.ref c2, .int (nI j2)])), (c2, .inl (G.2 2, 8, .inl g2))]) (va_runV (As := [.int ch]) (rest := []) F.1 (c_row_addF l G _ _ 8 g1 ch (by decide) _) (cwV 1 hts (aw_V w_237 w_238 w_239 w_3 w_240) rfl rfl rfl (by decide +kernel) ⟨by decide, by decide⟩) ⟨cS_blind, va_recv (q := (RX3, TX3, 2)) (ci := 3) (q0 := 0) hK.1 hPc rfl rfl, cS_pre hPc hDc hK⟩ rfl rfl hl.1 rfl (lv_room (Nat.le_of_ble_eq_true rfl)) dX5_type_26 hqc) hP hD hS hA [4, 5] [0, 1, 2, 3, 6, 7] rfl rfl (by decide) (by decide) (fun r u H locs hp hP hD hS => ?_)
  subst hp
  have hP : va_P G.1 vwCl [(h, .inr (5, [.ref se, .ref tx, .ref rs, .ref sp, .int cp, .int mt, .int mf, .int mo, .long msp, .ref md, .ref pf, .ref pt, .int pcs])), (rs, .inl (G.2 5, 3, .inr (.inr (.inr (.inr f))))), (r0, .inr (3, [.ref c0, .int (nI j0)])), (c0, .inl (G.2 2, 14, .inl g0)), (r2, .inr (3, [.ref c2, .int (nI j2)])), (c2, .inl (G.2 2, 8, .inl g2)), (tx, .inr (3, [.ref tc, .int (nI 8)])), (tc, .inl (G.2 2, 8, .inl g1))] H := hP
  have hD : va_D A [(h, .inr (5, [.ref se, .ref tx, .ref rs, .ref sp, .int cp, .int mt, .int mf, .int mo, .long msp, .ref md, .ref pf, .ref pt, .int pcs])), (rs, .inl (G.2 5, 3, .inr (.inr (.inr (.inr f))))), (r0, .inr (3, [.ref c0, .int (nI j0)])), (c0, .inl (G.2 2, 14, .inl g0)), (r2, .inr (3, [.ref c2, .int (nI j2)])), (c2, .inl (G.2 2, 8, .inl g2)), (tx, .inr (3, [.ref tc, .int (nI 8)])), (tc, .inl (G.2 2, 8, .inl g1))] := hD
  refine lv_if_ne (tgt := 34) hx hb dX5_type_29 (by decide) (fun h => absurd rfl h) (fun _ => ?_)
  refine lv_iconst (v := 0) hx hb dX5_type_32 (by decide) ?_
  have hP := hP.sub (ws' := [(h, .inr (5, [.ref se, .ref tx, .ref rs, .ref sp, .int cp, .int mt, .int mf, .int mo, .long msp, .ref md, .ref pf, .ref pt, .int pcs])), (rs, .inl (G.2 5, 3, .inr (.inr (.inr (.inr f))))), (r0, .inr (3, [.ref c0, .int (nI j0)])), (c0, .inl (G.2 2, 14, .inl g0)), (tx, .inr (3, [.ref tc, .int (nI 8)])), (tc, .inl (G.2 2, 8, .inl g1)), (r2, .inr (3, [.ref c2, .int (nI j2)])), (c2, .inl (G.2 2, 8, .inl g2))]) [0, 1, 2, 3, 6, 7, 4, 5] rfl
  have hD := hD.sub (ws' := [(h, .inr (5, [.ref se, .ref tx, .ref rs, .ref sp, .int cp, .int mt, .int mf, .int mo, .long msp, .ref md, .ref pf, .ref pt, .int pcs])), (rs, .inl (G.2 5, 3, .inr (.inr (.inr (.inr f))))), (r0, .inr (3, [.ref c0, .int (nI j0)])), (c0, .inl (G.2 2, 14, .inl g0)), (tx, .inr (3, [.ref tc, .int (nI 8)])), (tc, .inl (G.2 2, 8, .inl g1)), (r2, .inr (3, [.ref c2, .int (nI j2)])), (c2, .inl (G.2 2, 8, .inl g2))]) [0, 1, 2, 3, 6, 7, 4, 5] (by decide) rfl
  exact en_i F hS 0 () (by rfl) rfl hP hD (by omega) (by omega) dX5_type_33

set_option maxHeartbeats 4000000 in
set_option maxRecDepth 100000 in
theorem c_clear1 (l : Launch) (G : PG) (h se tx rs sp md pf pt : Nat) (cp mt mf mo pcs : Int32) (msp : Int64) (r0 c0 r2 c2 tc : Nat) (f : Nat → Option Nat) (hf0 : f 0 = some r0) (hf1 : f 1 = some tx) (hf2 : f 2 = some r2) (j0 j1 j2 : Nat) (g0 g1 g2 : Nat → Int32) : Ci l yX5_clear (Cond.code yX5_clear cX5_clear 2 (some .boolean) :: aW) { frames := 1, cells := 0, slots := 0, locals := 21 } G [(h, .inr (5, [.ref se, .ref tx, .ref rs, .ref sp, .int cp, .int mt, .int mf, .int mo, .long msp, .ref md, .ref pf, .ref pt, .int pcs])), (rs, .inl (G.2 5, 3, .inr (.inr (.inr (.inr f))))), (r0, .inr (3, [.ref c0, .int (nI j0)])), (c0, .inl (G.2 2, 14, .inl g0)), (tx, .inr (3, [.ref tc, .int (nI j1)])), (tc, .inl (G.2 2, 8, .inl g1)), (r2, .inr (3, [.ref c2, .int (nI j2)])), (c2, .inl (G.2 2, 8, .inl g2))] [.ref h, .int 1] (S := Unit) (fun (r9 : Int32) (_ : Unit) => r9 = 1) (fun (_ : Unit) => [(h, .inr (5, [.ref se, .ref tx, .ref rs, .ref sp, .int cp, .int 0, .int mf, .int mo, .long msp, .ref md, .ref pf, .ref pt, .int pcs])), (rs, .inl (G.2 5, 3, .inr (.inr (.inr (.inr f))))), (r0, .inr (3, [.ref c0, .int (nI j0)])), (c0, .inl (G.2 2, 14, .inl g0)), (tx, .inr (3, [.ref tc, .int (nI 0)])), (tc, .inl (G.2 2, 8, .inl g1)), (r2, .inr (3, [.ref c2, .int (nI j2)])), (c2, .inl (G.2 2, 8, .inl g2))]) 0 0 := by
  refine ofB (y := yX5_clear) (G := G) (cc := cX5_clear) (maxL := 2) (ret := (some .boolean)) (Qc := fun A => va_Qi (fun (r9 : Int32) (_ : Unit) => r9 = 1) (oB G A (fun (_ : Unit) => [(h, .inr (5, [.ref se, .ref tx, .ref rs, .ref sp, .int cp, .int 0, .int mf, .int mo, .long msp, .ref md, .ref pf, .ref pt, .int pcs])), (rs, .inl (G.2 5, 3, .inr (.inr (.inr (.inr f))))), (r0, .inr (3, [.ref c0, .int (nI j0)])), (c0, .inl (G.2 2, 14, .inl g0)), (tx, .inr (3, [.ref tc, .int (nI 0)])), (tc, .inl (G.2 2, 8, .inl g1)), (r2, .inr (3, [.ref c2, .int (nI j2)])), (c2, .inl (G.2 2, 8, .inl g2))])) A) (by decide) rfl ?_
  intro p e s m below meth c A F hK hA hP hD
  have hx := F.1.1; have hb := F.1.2.1; have hml := F.1.2.2.1; have hts := F.1.2.2.2.2
  have hown : s.vm.findClass RX5 = some m.cls := F.1.2.2.2.1
  have hS : va_S A s.heap s.heap [] := va_S.rf
  have hl := lv_entry ([.ref h, .int 1]) (n := 2) (Nat.le_of_ble_eq_true rfl)
  rw [lg_entry_eq]
  generalize (lg_sl ([.ref h, .int 1]) ++ List.replicate (2 - (lg_sl ([.ref h, .int 1])).length) Slot.unset).toArray = ls at hl ⊢
  have hl : lv_has ls 2 [(0, .ref h), (1, .int 1)] := hl
  refine lv_iload_n hx hb dX5_clear_0 rfl (lv_at hl 1 rfl) ?_
  have hPc := hP.sub (ws' := []) [] rfl
  have hDc := hD.sub (ws' := []) [] (by decide) rfl
  have hqc : 0 + 0 ≤ 0 ∧ 0 + 0 ≤ 0 := ⟨by omega, by omega⟩
  refine kl_i (wr := [(h, .inr (5, [.ref se, .ref tx, .ref rs, .ref sp, .int cp, .int mt, .int mf, .int mo, .long msp, .ref md, .ref pf, .ref pt, .int pcs])), (rs, .inl (G.2 5, 3, .inr (.inr (.inr (.inr f))))), (r0, .inr (3, [.ref c0, .int (nI j0)])), (c0, .inl (G.2 2, 14, .inl g0)), (tx, .inr (3, [.ref tc, .int (nI j1)])), (tc, .inl (G.2 2, 8, .inl g1)), (r2, .inr (3, [.ref c2, .int (nI j2)])), (c2, .inl (G.2 2, 8, .inl g2))]) (va_runS (As := [.int 1]) (rest := []) F.1 (c_isRow l G 1 _) (va_cwS 1 hts (aw_S w_234 w_235 w_1 w_236) rfl rfl rfl (by decide +kernel) ⟨by decide, by decide⟩) ⟨cS_blind, cS_pre hPc hDc hK⟩ rfl rfl hl.1 rfl (lv_room (Nat.le_of_ble_eq_true rfl)) dX5_clear_1 hqc) hP hD hS hA [] [0, 1, 2, 3, 4, 5, 6, 7] rfl rfl (by decide) (by decide) (fun r u H locs hp hP hD hS => ?_)
  subst hp
  have hP : va_P G.1 vwCl [(h, .inr (5, [.ref se, .ref tx, .ref rs, .ref sp, .int cp, .int mt, .int mf, .int mo, .long msp, .ref md, .ref pf, .ref pt, .int pcs])), (rs, .inl (G.2 5, 3, .inr (.inr (.inr (.inr f))))), (r0, .inr (3, [.ref c0, .int (nI j0)])), (c0, .inl (G.2 2, 14, .inl g0)), (tx, .inr (3, [.ref tc, .int (nI j1)])), (tc, .inl (G.2 2, 8, .inl g1)), (r2, .inr (3, [.ref c2, .int (nI j2)])), (c2, .inl (G.2 2, 8, .inl g2))] H := hP
  have hD : va_D A [(h, .inr (5, [.ref se, .ref tx, .ref rs, .ref sp, .int cp, .int mt, .int mf, .int mo, .long msp, .ref md, .ref pf, .ref pt, .int pcs])), (rs, .inl (G.2 5, 3, .inr (.inr (.inr (.inr f))))), (r0, .inr (3, [.ref c0, .int (nI j0)])), (c0, .inl (G.2 2, 14, .inl g0)), (tx, .inr (3, [.ref tc, .int (nI j1)])), (tc, .inl (G.2 2, 8, .inl g1)), (r2, .inr (3, [.ref c2, .int (nI j2)])), (c2, .inl (G.2 2, 8, .inl g2))] := hD
  refine lv_if_ne (tgt := 9) hx hb dX5_clear_4 (by decide) (fun _ => ?_) (fun h => absurd h (by decide : ¬ isRowV 1 = 0))
  refine lv_aload_n hx hb dX5_clear_9 rfl (lv_at hl 0 rfl) ?_
  refine va_get (D := G.1) (ci := 5) (v := .ref rs) (C := RX5) (T := TX5) (N := 13) hx hb hts inX5 hown hK.1 hP 0 rfl rfl 2 (by decide) (hts _ w_192) (fun _ h9 => h9) rfl dX5_clear_10 ?_
  refine lv_iload_n hx hb dX5_clear_13 rfl (lv_at hl 1 rfl) ?_
  refine va_aldq (D := G.1) hx hb hK.1 hP 1 5 rfl rfl (vp_in_nI (n := 1) (by decide) (by decide)) dX5_clear_14 ?_
  refine tp_v (.ref tx) (show va_rf (f 1) = .ref tx by rw [hf1]; rfl) ?_
  have hPc := hP.sub (ws' := [(tx, .inr (3, [.ref tc, .int (nI j1)])), (tc, .inl (G.2 2, 8, .inl g1))]) [4, 5] rfl
  have hDc := hD.sub (ws' := [(tx, .inr (3, [.ref tc, .int (nI j1)])), (tc, .inl (G.2 2, 8, .inl g1))]) [4, 5] (by decide) rfl
  have hqc : 0 + 0 ≤ 0 ∧ 0 + 0 ≤ 0 := ⟨by omega, by omega⟩
  refine kl_v (wr := [(h, .inr (5, [.ref se, .ref tx, .ref rs, .ref sp, .int cp, .int mt, .int mf, .int mo, .long msp, .ref md, .ref pf, .ref pt, .int pcs])), (rs, .inl (G.2 5, 3, .inr (.inr (.inr (.inr f))))), (r0, .inr (3, [.ref c0, .int (nI j0)])), (c0, .inl (G.2 2, 14, .inl g0)), (r2, .inr (3, [.ref c2, .int (nI j2)])), (c2, .inl (G.2 2, 8, .inl g2))]) (va_runV (As := []) (rest := []) F.1 (c_row_empty l G _ _ _ _ _ _) (cwV 0 hts (aw_V w_249 w_250 w_251 w_3 w_252) rfl rfl rfl (by decide +kernel) ⟨by decide, by decide⟩) ⟨cS_blind, va_recv (q := (RX3, TX3, 2)) (ci := 3) (q0 := 0) hK.1 hPc rfl rfl, cS_pre hPc hDc hK⟩ rfl rfl hl.1 rfl (lv_room (Nat.le_of_ble_eq_true rfl)) dX5_clear_15 hqc) hP hD hS hA [4, 5] [0, 1, 2, 3, 6, 7] rfl rfl (by decide) (by decide) (fun u H locs hp hP hD hS => ?_)
  have hP : va_P G.1 vwCl [(h, .inr (5, [.ref se, .ref tx, .ref rs, .ref sp, .int cp, .int mt, .int mf, .int mo, .long msp, .ref md, .ref pf, .ref pt, .int pcs])), (rs, .inl (G.2 5, 3, .inr (.inr (.inr (.inr f))))), (r0, .inr (3, [.ref c0, .int (nI j0)])), (c0, .inl (G.2 2, 14, .inl g0)), (r2, .inr (3, [.ref c2, .int (nI j2)])), (c2, .inl (G.2 2, 8, .inl g2)), (tx, .inr (3, [.ref tc, .int 0])), (tc, .inl (G.2 2, 8, .inl g1))] H := hP
  have hD : va_D A [(h, .inr (5, [.ref se, .ref tx, .ref rs, .ref sp, .int cp, .int mt, .int mf, .int mo, .long msp, .ref md, .ref pf, .ref pt, .int pcs])), (rs, .inl (G.2 5, 3, .inr (.inr (.inr (.inr f))))), (r0, .inr (3, [.ref c0, .int (nI j0)])), (c0, .inl (G.2 2, 14, .inl g0)), (r2, .inr (3, [.ref c2, .int (nI j2)])), (c2, .inl (G.2 2, 8, .inl g2)), (tx, .inr (3, [.ref tc, .int 0])), (tc, .inl (G.2 2, 8, .inl g1))] := hD
  refine lv_aload_n hx hb dX5_clear_18 rfl (lv_at hl 0 rfl) ?_
  refine lv_iload_n hx hb dX5_clear_19 rfl (lv_at hl 1 rfl) ?_
  have hPc := hP.sub (ws' := [(h, .inr (5, [.ref se, .ref tx, .ref rs, .ref sp, .int cp, .int mt, .int mf, .int mo, .long msp, .ref md, .ref pf, .ref pt, .int pcs]))]) [0] rfl
  have hDc := hD.sub (ws' := [(h, .inr (5, [.ref se, .ref tx, .ref rs, .ref sp, .int cp, .int mt, .int mf, .int mo, .long msp, .ref md, .ref pf, .ref pt, .int pcs]))]) [0] (by decide) rfl
  have hqc : 0 + 0 ≤ 0 ∧ 0 + 0 ≤ 0 := ⟨by omega, by omega⟩
  refine kl_v (wr := [(rs, .inl (G.2 5, 3, .inr (.inr (.inr (.inr f))))), (r0, .inr (3, [.ref c0, .int (nI j0)])), (c0, .inl (G.2 2, 14, .inl g0)), (r2, .inr (3, [.ref c2, .int (nI j2)])), (c2, .inl (G.2 2, 8, .inl g2)), (tx, .inr (3, [.ref tc, .int 0])), (tc, .inl (G.2 2, 8, .inl g1))]) (va_runV (As := [.int 1]) (rest := []) F.1 (c_forget1 l G _ _ _ _ _ _ _ _ _ _ _ _ _ _ _) (cwV 1 hts (aw_V w_241 w_243 ws_X5_forgetMatchIfText w_1 w_244) rfl rfl rfl (by decide +kernel) ⟨by decide, by decide⟩) ⟨cS_blind, va_recv (q := (RX5, TX5, 13)) (ci := 5) (q0 := 0) hK.1 hPc rfl rfl, cS_pre hPc hDc hK⟩ rfl rfl hl.1 rfl (lv_room (Nat.le_of_ble_eq_true rfl)) dX5_clear_20 hqc) hP hD hS hA [0] [1, 2, 3, 4, 5, 6, 7] rfl rfl (by decide) (by decide) (fun u H locs hp hP hD hS => ?_)
  have hP : va_P G.1 vwCl [(rs, .inl (G.2 5, 3, .inr (.inr (.inr (.inr f))))), (r0, .inr (3, [.ref c0, .int (nI j0)])), (c0, .inl (G.2 2, 14, .inl g0)), (r2, .inr (3, [.ref c2, .int (nI j2)])), (c2, .inl (G.2 2, 8, .inl g2)), (tx, .inr (3, [.ref tc, .int 0])), (tc, .inl (G.2 2, 8, .inl g1)), (h, .inr (5, [.ref se, .ref tx, .ref rs, .ref sp, .int cp, .int 0, .int mf, .int mo, .long msp, .ref md, .ref pf, .ref pt, .int pcs]))] H := hP
  have hD : va_D A [(rs, .inl (G.2 5, 3, .inr (.inr (.inr (.inr f))))), (r0, .inr (3, [.ref c0, .int (nI j0)])), (c0, .inl (G.2 2, 14, .inl g0)), (r2, .inr (3, [.ref c2, .int (nI j2)])), (c2, .inl (G.2 2, 8, .inl g2)), (tx, .inr (3, [.ref tc, .int 0])), (tc, .inl (G.2 2, 8, .inl g1)), (h, .inr (5, [.ref se, .ref tx, .ref rs, .ref sp, .int cp, .int 0, .int mf, .int mo, .long msp, .ref md, .ref pf, .ref pt, .int pcs]))] := hD
  refine lv_iconst (v := 1) hx hb dX5_clear_23 (by decide) ?_
  have hP := hP.sub (ws' := [(h, .inr (5, [.ref se, .ref tx, .ref rs, .ref sp, .int cp, .int 0, .int mf, .int mo, .long msp, .ref md, .ref pf, .ref pt, .int pcs])), (rs, .inl (G.2 5, 3, .inr (.inr (.inr (.inr f))))), (r0, .inr (3, [.ref c0, .int (nI j0)])), (c0, .inl (G.2 2, 14, .inl g0)), (tx, .inr (3, [.ref tc, .int (nI 0)])), (tc, .inl (G.2 2, 8, .inl g1)), (r2, .inr (3, [.ref c2, .int (nI j2)])), (c2, .inl (G.2 2, 8, .inl g2))]) [7, 0, 1, 2, 5, 6, 3, 4] rfl
  have hD := hD.sub (ws' := [(h, .inr (5, [.ref se, .ref tx, .ref rs, .ref sp, .int cp, .int 0, .int mf, .int mo, .long msp, .ref md, .ref pf, .ref pt, .int pcs])), (rs, .inl (G.2 5, 3, .inr (.inr (.inr (.inr f))))), (r0, .inr (3, [.ref c0, .int (nI j0)])), (c0, .inl (G.2 2, 14, .inl g0)), (tx, .inr (3, [.ref tc, .int (nI 0)])), (tc, .inl (G.2 2, 8, .inl g1)), (r2, .inr (3, [.ref c2, .int (nI j2)])), (c2, .inl (G.2 2, 8, .inl g2))]) [7, 0, 1, 2, 5, 6, 3, 4] (by decide) rfl
  exact en_i F hS 1 () (by rfl) rfl hP hD (by omega) (by omega) dX5_clear_24

set_option maxHeartbeats 4000000 in
set_option maxRecDepth 100000 in
theorem c_len1 (l : Launch) (G : PG) (h se tx rs sp md pf pt : Nat) (cp mt mf mo pcs : Int32) (msp : Int64) (r0 c0 r2 c2 tc : Nat) (f : Nat → Option Nat) (hf0 : f 0 = some r0) (hf1 : f 1 = some tx) (hf2 : f 2 = some r2) (j0 j1 j2 : Nat) (g0 g1 g2 : Nat → Int32) : Ci l yX5_length (Cond.code yX5_length cX5_length 2 (some .int) :: aW) { frames := 1, cells := 0, slots := 0, locals := 21 } G [(h, .inr (5, [.ref se, .ref tx, .ref rs, .ref sp, .int cp, .int mt, .int mf, .int mo, .long msp, .ref md, .ref pf, .ref pt, .int pcs])), (rs, .inl (G.2 5, 3, .inr (.inr (.inr (.inr f))))), (r0, .inr (3, [.ref c0, .int (nI j0)])), (c0, .inl (G.2 2, 14, .inl g0)), (tx, .inr (3, [.ref tc, .int (nI j1)])), (tc, .inl (G.2 2, 8, .inl g1)), (r2, .inr (3, [.ref c2, .int (nI j2)])), (c2, .inl (G.2 2, 8, .inl g2))] [.ref h, .int 1] (S := Unit) (fun (r9 : Int32) (_ : Unit) => r9 = nI j1) (fun (_ : Unit) => [(h, .inr (5, [.ref se, .ref tx, .ref rs, .ref sp, .int cp, .int mt, .int mf, .int mo, .long msp, .ref md, .ref pf, .ref pt, .int pcs])), (rs, .inl (G.2 5, 3, .inr (.inr (.inr (.inr f))))), (r0, .inr (3, [.ref c0, .int (nI j0)])), (c0, .inl (G.2 2, 14, .inl g0)), (tx, .inr (3, [.ref tc, .int (nI j1)])), (tc, .inl (G.2 2, 8, .inl g1)), (r2, .inr (3, [.ref c2, .int (nI j2)])), (c2, .inl (G.2 2, 8, .inl g2))]) 0 0 := by
  refine ofB (y := yX5_length) (G := G) (cc := cX5_length) (maxL := 2) (ret := (some .int)) (Qc := fun A => va_Qi (fun (r9 : Int32) (_ : Unit) => r9 = nI j1) (oB G A (fun (_ : Unit) => [(h, .inr (5, [.ref se, .ref tx, .ref rs, .ref sp, .int cp, .int mt, .int mf, .int mo, .long msp, .ref md, .ref pf, .ref pt, .int pcs])), (rs, .inl (G.2 5, 3, .inr (.inr (.inr (.inr f))))), (r0, .inr (3, [.ref c0, .int (nI j0)])), (c0, .inl (G.2 2, 14, .inl g0)), (tx, .inr (3, [.ref tc, .int (nI j1)])), (tc, .inl (G.2 2, 8, .inl g1)), (r2, .inr (3, [.ref c2, .int (nI j2)])), (c2, .inl (G.2 2, 8, .inl g2))])) A) (by decide) rfl ?_
  intro p e s m below meth c A F hK hA hP hD
  have hx := F.1.1; have hb := F.1.2.1; have hml := F.1.2.2.1; have hts := F.1.2.2.2.2
  have hown : s.vm.findClass RX5 = some m.cls := F.1.2.2.2.1
  have hS : va_S A s.heap s.heap [] := va_S.rf
  have hl := lv_entry ([.ref h, .int 1]) (n := 2) (Nat.le_of_ble_eq_true rfl)
  rw [lg_entry_eq]
  generalize (lg_sl ([.ref h, .int 1]) ++ List.replicate (2 - (lg_sl ([.ref h, .int 1])).length) Slot.unset).toArray = ls at hl ⊢
  have hl : lv_has ls 2 [(0, .ref h), (1, .int 1)] := hl
  refine lv_iload_n hx hb dX5_length_0 rfl (lv_at hl 1 rfl) ?_
  have hPc := hP.sub (ws' := []) [] rfl
  have hDc := hD.sub (ws' := []) [] (by decide) rfl
  have hqc : 0 + 0 ≤ 0 ∧ 0 + 0 ≤ 0 := ⟨by omega, by omega⟩
  refine kl_i (wr := [(h, .inr (5, [.ref se, .ref tx, .ref rs, .ref sp, .int cp, .int mt, .int mf, .int mo, .long msp, .ref md, .ref pf, .ref pt, .int pcs])), (rs, .inl (G.2 5, 3, .inr (.inr (.inr (.inr f))))), (r0, .inr (3, [.ref c0, .int (nI j0)])), (c0, .inl (G.2 2, 14, .inl g0)), (tx, .inr (3, [.ref tc, .int (nI j1)])), (tc, .inl (G.2 2, 8, .inl g1)), (r2, .inr (3, [.ref c2, .int (nI j2)])), (c2, .inl (G.2 2, 8, .inl g2))]) (va_runS (As := [.int 1]) (rest := []) F.1 (c_isRow l G 1 _) (va_cwS 1 hts (aw_S w_234 w_235 w_1 w_236) rfl rfl rfl (by decide +kernel) ⟨by decide, by decide⟩) ⟨cS_blind, cS_pre hPc hDc hK⟩ rfl rfl hl.1 rfl (lv_room (Nat.le_of_ble_eq_true rfl)) dX5_length_1 hqc) hP hD hS hA [] [0, 1, 2, 3, 4, 5, 6, 7] rfl rfl (by decide) (by decide) (fun r u H locs hp hP hD hS => ?_)
  subst hp
  have hP : va_P G.1 vwCl [(h, .inr (5, [.ref se, .ref tx, .ref rs, .ref sp, .int cp, .int mt, .int mf, .int mo, .long msp, .ref md, .ref pf, .ref pt, .int pcs])), (rs, .inl (G.2 5, 3, .inr (.inr (.inr (.inr f))))), (r0, .inr (3, [.ref c0, .int (nI j0)])), (c0, .inl (G.2 2, 14, .inl g0)), (tx, .inr (3, [.ref tc, .int (nI j1)])), (tc, .inl (G.2 2, 8, .inl g1)), (r2, .inr (3, [.ref c2, .int (nI j2)])), (c2, .inl (G.2 2, 8, .inl g2))] H := hP
  have hD : va_D A [(h, .inr (5, [.ref se, .ref tx, .ref rs, .ref sp, .int cp, .int mt, .int mf, .int mo, .long msp, .ref md, .ref pf, .ref pt, .int pcs])), (rs, .inl (G.2 5, 3, .inr (.inr (.inr (.inr f))))), (r0, .inr (3, [.ref c0, .int (nI j0)])), (c0, .inl (G.2 2, 14, .inl g0)), (tx, .inr (3, [.ref tc, .int (nI j1)])), (tc, .inl (G.2 2, 8, .inl g1)), (r2, .inr (3, [.ref c2, .int (nI j2)])), (c2, .inl (G.2 2, 8, .inl g2))] := hD
  refine lv_if_eq (tgt := 19) hx hb dX5_length_4 (by decide) (fun h => absurd h (by decide : ¬ isRowV 1 = 0)) (fun _ => ?_)
  refine lv_aload_n hx hb dX5_length_7 rfl (lv_at hl 0 rfl) ?_
  refine va_get (D := G.1) (ci := 5) (v := .ref rs) (C := RX5) (T := TX5) (N := 13) hx hb hts inX5 hown hK.1 hP 0 rfl rfl 2 (by decide) (hts _ w_192) (fun _ h9 => h9) rfl dX5_length_8 ?_
  refine lv_iload_n hx hb dX5_length_11 rfl (lv_at hl 1 rfl) ?_
  refine va_aldq (D := G.1) hx hb hK.1 hP 1 5 rfl rfl (vp_in_nI (n := 1) (by decide) (by decide)) dX5_length_12 ?_
  refine tp_v (.ref tx) (show va_rf (f 1) = .ref tx by rw [hf1]; rfl) ?_
  have hPc := hP.sub (ws' := [(tx, .inr (3, [.ref tc, .int (nI j1)])), (tc, .inl (G.2 2, 8, .inl g1))]) [4, 5] rfl
  have hDc := hD.sub (ws' := [(tx, .inr (3, [.ref tc, .int (nI j1)])), (tc, .inl (G.2 2, 8, .inl g1))]) [4, 5] (by decide) rfl
  have hqc : 0 + 0 ≤ 0 ∧ 0 + 0 ≤ 0 := ⟨by omega, by omega⟩
  refine kl_i (wr := [(h, .inr (5, [.ref se, .ref tx, .ref rs, .ref sp, .int cp, .int mt, .int mf, .int mo, .long msp, .ref md, .ref pf, .ref pt, .int pcs])), (rs, .inl (G.2 5, 3, .inr (.inr (.inr (.inr f))))), (r0, .inr (3, [.ref c0, .int (nI j0)])), (c0, .inl (G.2 2, 14, .inl g0)), (r2, .inr (3, [.ref c2, .int (nI j2)])), (c2, .inl (G.2 2, 8, .inl g2))]) (va_runV (As := []) (rest := []) F.1 (c_row_size l G _ _ _ _ _ _) (cwV 0 hts (aw_V w_257 w_258 w_259 w_3 w_260) rfl rfl rfl (by decide +kernel) ⟨by decide, by decide⟩) ⟨cS_blind, va_recv (q := (RX3, TX3, 2)) (ci := 3) (q0 := 0) hK.1 hPc rfl rfl, cS_pre hPc hDc hK⟩ rfl rfl hl.1 rfl (lv_room (Nat.le_of_ble_eq_true rfl)) dX5_length_13 hqc) hP hD hS hA [4, 5] [0, 1, 2, 3, 6, 7] rfl rfl (by decide) (by decide) (fun r u H locs hp hP hD hS => ?_)
  subst hp
  have hP : va_P G.1 vwCl [(h, .inr (5, [.ref se, .ref tx, .ref rs, .ref sp, .int cp, .int mt, .int mf, .int mo, .long msp, .ref md, .ref pf, .ref pt, .int pcs])), (rs, .inl (G.2 5, 3, .inr (.inr (.inr (.inr f))))), (r0, .inr (3, [.ref c0, .int (nI j0)])), (c0, .inl (G.2 2, 14, .inl g0)), (r2, .inr (3, [.ref c2, .int (nI j2)])), (c2, .inl (G.2 2, 8, .inl g2)), (tx, .inr (3, [.ref tc, .int (nI j1)])), (tc, .inl (G.2 2, 8, .inl g1))] H := hP
  have hD : va_D A [(h, .inr (5, [.ref se, .ref tx, .ref rs, .ref sp, .int cp, .int mt, .int mf, .int mo, .long msp, .ref md, .ref pf, .ref pt, .int pcs])), (rs, .inl (G.2 5, 3, .inr (.inr (.inr (.inr f))))), (r0, .inr (3, [.ref c0, .int (nI j0)])), (c0, .inl (G.2 2, 14, .inl g0)), (r2, .inr (3, [.ref c2, .int (nI j2)])), (c2, .inl (G.2 2, 8, .inl g2)), (tx, .inr (3, [.ref tc, .int (nI j1)])), (tc, .inl (G.2 2, 8, .inl g1))] := hD
  refine lv_goto (tgt := 20) hx hb dX5_length_16 (by decide) ?_
  have hP := hP.sub (ws' := [(h, .inr (5, [.ref se, .ref tx, .ref rs, .ref sp, .int cp, .int mt, .int mf, .int mo, .long msp, .ref md, .ref pf, .ref pt, .int pcs])), (rs, .inl (G.2 5, 3, .inr (.inr (.inr (.inr f))))), (r0, .inr (3, [.ref c0, .int (nI j0)])), (c0, .inl (G.2 2, 14, .inl g0)), (tx, .inr (3, [.ref tc, .int (nI j1)])), (tc, .inl (G.2 2, 8, .inl g1)), (r2, .inr (3, [.ref c2, .int (nI j2)])), (c2, .inl (G.2 2, 8, .inl g2))]) [0, 1, 2, 3, 6, 7, 4, 5] rfl
  have hD := hD.sub (ws' := [(h, .inr (5, [.ref se, .ref tx, .ref rs, .ref sp, .int cp, .int mt, .int mf, .int mo, .long msp, .ref md, .ref pf, .ref pt, .int pcs])), (rs, .inl (G.2 5, 3, .inr (.inr (.inr (.inr f))))), (r0, .inr (3, [.ref c0, .int (nI j0)])), (c0, .inl (G.2 2, 14, .inl g0)), (tx, .inr (3, [.ref tc, .int (nI j1)])), (tc, .inl (G.2 2, 8, .inl g1)), (r2, .inr (3, [.ref c2, .int (nI j2)])), (c2, .inl (G.2 2, 8, .inl g2))]) [0, 1, 2, 3, 6, 7, 4, 5] (by decide) rfl
  exact en_i F hS (nI j1) () (by rfl) rfl hP hD (by omega) (by omega) dX5_length_20

set_option maxHeartbeats 4000000 in
set_option maxRecDepth 100000 in
theorem c_type2 (l : Launch) (G : PG) (h se tx rs sp md pf pt : Nat) (cp mt mf mo pcs : Int32) (msp : Int64) (r0 c0 r2 c2 tc : Nat) (f : Nat → Option Nat) (hf0 : f 0 = some r0) (hf1 : f 1 = some tx) (hf2 : f 2 = some r2) (j0 j1 j2 : Nat) (g0 g1 g2 : Nat → Int32) (ch : Int32) (h32 : ¬ ch < 32) (h126 : ¬ (126 : Int32) < ch) (hj : j2 < 8) : Ci l yX5_type (Cond.code yX5_type cX5_type 3 (some .boolean) :: aW) { frames := 1, cells := 0, slots := 0, locals := 21 } G [(h, .inr (5, [.ref se, .ref tx, .ref rs, .ref sp, .int cp, .int mt, .int mf, .int mo, .long msp, .ref md, .ref pf, .ref pt, .int pcs])), (rs, .inl (G.2 5, 3, .inr (.inr (.inr (.inr f))))), (r0, .inr (3, [.ref c0, .int (nI j0)])), (c0, .inl (G.2 2, 14, .inl g0)), (tx, .inr (3, [.ref tc, .int (nI j1)])), (tc, .inl (G.2 2, 8, .inl g1)), (r2, .inr (3, [.ref c2, .int (nI j2)])), (c2, .inl (G.2 2, 8, .inl g2))] [.ref h, .int 2, .int ch] (S := Unit) (fun (r9 : Int32) (_ : Unit) => r9 = 1) (fun (_ : Unit) => [(h, .inr (5, [.ref se, .ref tx, .ref rs, .ref sp, .int cp, .int mt, .int mf, .int mo, .long msp, .ref md, .ref pf, .ref pt, .int pcs])), (rs, .inl (G.2 5, 3, .inr (.inr (.inr (.inr f))))), (r0, .inr (3, [.ref c0, .int (nI j0)])), (c0, .inl (G.2 2, 14, .inl g0)), (tx, .inr (3, [.ref tc, .int (nI j1)])), (tc, .inl (G.2 2, 8, .inl g1)), (r2, .inr (3, [.ref c2, .int (nI (j2 + 1))])), (c2, .inl (G.2 2, 8, .inl (upd g2 j2 (vp_nar .char ch))))]) 0 0 := by
  refine ofB (y := yX5_type) (G := G) (cc := cX5_type) (maxL := 3) (ret := (some .boolean)) (Qc := fun A => va_Qi (fun (r9 : Int32) (_ : Unit) => r9 = 1) (oB G A (fun (_ : Unit) => [(h, .inr (5, [.ref se, .ref tx, .ref rs, .ref sp, .int cp, .int mt, .int mf, .int mo, .long msp, .ref md, .ref pf, .ref pt, .int pcs])), (rs, .inl (G.2 5, 3, .inr (.inr (.inr (.inr f))))), (r0, .inr (3, [.ref c0, .int (nI j0)])), (c0, .inl (G.2 2, 14, .inl g0)), (tx, .inr (3, [.ref tc, .int (nI j1)])), (tc, .inl (G.2 2, 8, .inl g1)), (r2, .inr (3, [.ref c2, .int (nI (j2 + 1))])), (c2, .inl (G.2 2, 8, .inl (upd g2 j2 (vp_nar .char ch))))])) A) (by decide) rfl ?_
  intro p e s m below meth c A F hK hA hP hD
  have hx := F.1.1; have hb := F.1.2.1; have hml := F.1.2.2.1; have hts := F.1.2.2.2.2
  have hown : s.vm.findClass RX5 = some m.cls := F.1.2.2.2.1
  have hS : va_S A s.heap s.heap [] := va_S.rf
  have hl := lv_entry ([.ref h, .int 2, .int ch]) (n := 3) (Nat.le_of_ble_eq_true rfl)
  rw [lg_entry_eq]
  generalize (lg_sl ([.ref h, .int 2, .int ch]) ++ List.replicate (3 - (lg_sl ([.ref h, .int 2, .int ch])).length) Slot.unset).toArray = ls at hl ⊢
  have hl : lv_has ls 3 [(0, .ref h), (1, .int 2), (2, .int ch)] := hl
  refine lv_iload_n hx hb dX5_type_0 rfl (lv_at hl 1 rfl) ?_
  have hPc := hP.sub (ws' := []) [] rfl
  have hDc := hD.sub (ws' := []) [] (by decide) rfl
  have hqc : 0 + 0 ≤ 0 ∧ 0 + 0 ≤ 0 := ⟨by omega, by omega⟩
  refine kl_i (wr := [(h, .inr (5, [.ref se, .ref tx, .ref rs, .ref sp, .int cp, .int mt, .int mf, .int mo, .long msp, .ref md, .ref pf, .ref pt, .int pcs])), (rs, .inl (G.2 5, 3, .inr (.inr (.inr (.inr f))))), (r0, .inr (3, [.ref c0, .int (nI j0)])), (c0, .inl (G.2 2, 14, .inl g0)), (tx, .inr (3, [.ref tc, .int (nI j1)])), (tc, .inl (G.2 2, 8, .inl g1)), (r2, .inr (3, [.ref c2, .int (nI j2)])), (c2, .inl (G.2 2, 8, .inl g2))]) (va_runS (As := [.int 2]) (rest := []) F.1 (c_isRow l G 2 _) (va_cwS 1 hts (aw_S w_234 w_235 w_1 w_236) rfl rfl rfl (by decide +kernel) ⟨by decide, by decide⟩) ⟨cS_blind, cS_pre hPc hDc hK⟩ rfl rfl hl.1 rfl (lv_room (Nat.le_of_ble_eq_true rfl)) dX5_type_1 hqc) hP hD hS hA [] [0, 1, 2, 3, 4, 5, 6, 7] rfl rfl (by decide) (by decide) (fun r u H locs hp hP hD hS => ?_)
  subst hp
  have hP : va_P G.1 vwCl [(h, .inr (5, [.ref se, .ref tx, .ref rs, .ref sp, .int cp, .int mt, .int mf, .int mo, .long msp, .ref md, .ref pf, .ref pt, .int pcs])), (rs, .inl (G.2 5, 3, .inr (.inr (.inr (.inr f))))), (r0, .inr (3, [.ref c0, .int (nI j0)])), (c0, .inl (G.2 2, 14, .inl g0)), (tx, .inr (3, [.ref tc, .int (nI j1)])), (tc, .inl (G.2 2, 8, .inl g1)), (r2, .inr (3, [.ref c2, .int (nI j2)])), (c2, .inl (G.2 2, 8, .inl g2))] H := hP
  have hD : va_D A [(h, .inr (5, [.ref se, .ref tx, .ref rs, .ref sp, .int cp, .int mt, .int mf, .int mo, .long msp, .ref md, .ref pf, .ref pt, .int pcs])), (rs, .inl (G.2 5, 3, .inr (.inr (.inr (.inr f))))), (r0, .inr (3, [.ref c0, .int (nI j0)])), (c0, .inl (G.2 2, 14, .inl g0)), (tx, .inr (3, [.ref tc, .int (nI j1)])), (tc, .inl (G.2 2, 8, .inl g1)), (r2, .inr (3, [.ref c2, .int (nI j2)])), (c2, .inl (G.2 2, 8, .inl g2))] := hD
  refine lv_if_eq (tgt := 32) hx hb dX5_type_4 (by decide) (fun h => absurd h (by decide : ¬ isRowV 2 = 0)) (fun _ => ?_)
  refine lv_iload_n hx hb dX5_type_7 rfl (lv_at hl 2 rfl) ?_
  refine lv_bipush (v := 32) hx hb dX5_type_8 (by decide) ?_
  refine lv_icmp_lt (tgt := 32) hx hb dX5_type_10 (by decide) (fun h => absurd h h32) (fun _ => ?_)
  refine lv_iload_n hx hb dX5_type_13 rfl (lv_at hl 2 rfl) ?_
  refine lv_bipush (v := 126) hx hb dX5_type_14 (by decide) ?_
  refine lv_icmp_gt (tgt := 32) hx hb dX5_type_16 (by decide) (fun h => absurd h h126) (fun _ => ?_)
  refine lv_aload_n hx hb dX5_type_19 rfl (lv_at hl 0 rfl) ?_
  refine va_get (D := G.1) (ci := 5) (v := .ref rs) (C := RX5) (T := TX5) (N := 13) hx hb hts inX5 hown hK.1 hP 0 rfl rfl 2 (by decide) (hts _ w_192) (fun _ h9 => h9) rfl dX5_type_20 ?_
  refine lv_iload_n hx hb dX5_type_23 rfl (lv_at hl 1 rfl) ?_
  refine va_aldq (D := G.1) hx hb hK.1 hP 1 5 rfl rfl (vp_in_nI (n := 2) (by decide) (by decide)) dX5_type_24 ?_
  refine tp_v (.ref r2) (show va_rf (f 2) = .ref r2 by rw [hf2]; rfl) ?_
  refine lv_iload_n hx hb dX5_type_25 rfl (lv_at hl 2 rfl) ?_
  have hPc := hP.sub (ws' := [(r2, .inr (3, [.ref c2, .int (nI j2)])), (c2, .inl (G.2 2, 8, .inl g2))]) [6, 7] rfl
  have hDc := hD.sub (ws' := [(r2, .inr (3, [.ref c2, .int (nI j2)])), (c2, .inl (G.2 2, 8, .inl g2))]) [6, 7] (by decide) rfl
  have hqc : 0 + 0 ≤ 0 ∧ 0 + 0 ≤ 0 := ⟨by omega, by omega⟩
  refine kl_i (wr := [(h, .inr (5, [.ref se, .ref tx, .ref rs, .ref sp, .int cp, .int mt, .int mf, .int mo, .long msp, .ref md, .ref pf, .ref pt, .int pcs])), (rs, .inl (G.2 5, 3, .inr (.inr (.inr (.inr f))))), (r0, .inr (3, [.ref c0, .int (nI j0)])), (c0, .inl (G.2 2, 14, .inl g0)), (tx, .inr (3, [.ref tc, .int (nI j1)])), (tc, .inl (G.2 2, 8, .inl g1))]) (va_runV (As := [.int ch]) (rest := []) F.1 (c_row_add l G _ _ 8 j2 g2 ch hj (by decide) _) (cwV 1 hts (aw_V w_237 w_238 w_239 w_3 w_240) rfl rfl rfl (by decide +kernel) ⟨by decide, by decide⟩) ⟨cS_blind, va_recv (q := (RX3, TX3, 2)) (ci := 3) (q0 := 0) hK.1 hPc rfl rfl, cS_pre hPc hDc hK⟩ rfl rfl hl.1 rfl (lv_room (Nat.le_of_ble_eq_true rfl)) dX5_type_26 hqc) hP hD hS hA [6, 7] [0, 1, 2, 3, 4, 5] rfl rfl (by decide) (by decide) (fun r u H locs hp hP hD hS => ?_)
  subst hp
  have hP : va_P G.1 vwCl [(h, .inr (5, [.ref se, .ref tx, .ref rs, .ref sp, .int cp, .int mt, .int mf, .int mo, .long msp, .ref md, .ref pf, .ref pt, .int pcs])), (rs, .inl (G.2 5, 3, .inr (.inr (.inr (.inr f))))), (r0, .inr (3, [.ref c0, .int (nI j0)])), (c0, .inl (G.2 2, 14, .inl g0)), (tx, .inr (3, [.ref tc, .int (nI j1)])), (tc, .inl (G.2 2, 8, .inl g1)), (r2, .inr (3, [.ref c2, .int (nI (j2 + 1))])), (c2, .inl (G.2 2, 8, .inl (upd g2 j2 (vp_nar .char ch))))] H := hP
  have hD : va_D A [(h, .inr (5, [.ref se, .ref tx, .ref rs, .ref sp, .int cp, .int mt, .int mf, .int mo, .long msp, .ref md, .ref pf, .ref pt, .int pcs])), (rs, .inl (G.2 5, 3, .inr (.inr (.inr (.inr f))))), (r0, .inr (3, [.ref c0, .int (nI j0)])), (c0, .inl (G.2 2, 14, .inl g0)), (tx, .inr (3, [.ref tc, .int (nI j1)])), (tc, .inl (G.2 2, 8, .inl g1)), (r2, .inr (3, [.ref c2, .int (nI (j2 + 1))])), (c2, .inl (G.2 2, 8, .inl (upd g2 j2 (vp_nar .char ch))))] := hD
  refine lv_if_ne (tgt := 34) hx hb dX5_type_29 (by decide) (fun _ => ?_) (fun h => absurd h (by decide : ¬ (1 : Int32) = 0))
  refine lv_aload_n hx hb dX5_type_34 rfl (lv_at hl 0 rfl) ?_
  refine lv_iload_n hx hb dX5_type_35 rfl (lv_at hl 1 rfl) ?_
  have hPc := hP.sub (ws' := [(h, .inr (5, [.ref se, .ref tx, .ref rs, .ref sp, .int cp, .int mt, .int mf, .int mo, .long msp, .ref md, .ref pf, .ref pt, .int pcs]))]) [0] rfl
  have hDc := hD.sub (ws' := [(h, .inr (5, [.ref se, .ref tx, .ref rs, .ref sp, .int cp, .int mt, .int mf, .int mo, .long msp, .ref md, .ref pf, .ref pt, .int pcs]))]) [0] (by decide) rfl
  have hqc : 0 + 0 ≤ 0 ∧ 0 + 0 ≤ 0 := ⟨by omega, by omega⟩
  refine kl_v (wr := [(rs, .inl (G.2 5, 3, .inr (.inr (.inr (.inr f))))), (r0, .inr (3, [.ref c0, .int (nI j0)])), (c0, .inl (G.2 2, 14, .inl g0)), (tx, .inr (3, [.ref tc, .int (nI j1)])), (tc, .inl (G.2 2, 8, .inl g1)), (r2, .inr (3, [.ref c2, .int (nI (j2 + 1))])), (c2, .inl (G.2 2, 8, .inl (upd g2 j2 (vp_nar .char ch))))]) (va_runV (As := [.int 2]) (rest := []) F.1 (c_forgetN l G _ _ _ _ _ _ _ _ _ _ _ _ _ _ 2 (by decide) _) (cwV 1 hts (aw_V w_241 w_243 ws_X5_forgetMatchIfText w_1 w_244) rfl rfl rfl (by decide +kernel) ⟨by decide, by decide⟩) ⟨cS_blind, va_recv (q := (RX5, TX5, 13)) (ci := 5) (q0 := 0) hK.1 hPc rfl rfl, cS_pre hPc hDc hK⟩ rfl rfl hl.1 rfl (lv_room (Nat.le_of_ble_eq_true rfl)) dX5_type_36 hqc) hP hD hS hA [0] [1, 2, 3, 4, 5, 6, 7] rfl rfl (by decide) (by decide) (fun u H locs hp hP hD hS => ?_)
  have hP : va_P G.1 vwCl [(rs, .inl (G.2 5, 3, .inr (.inr (.inr (.inr f))))), (r0, .inr (3, [.ref c0, .int (nI j0)])), (c0, .inl (G.2 2, 14, .inl g0)), (tx, .inr (3, [.ref tc, .int (nI j1)])), (tc, .inl (G.2 2, 8, .inl g1)), (r2, .inr (3, [.ref c2, .int (nI (j2 + 1))])), (c2, .inl (G.2 2, 8, .inl (upd g2 j2 (vp_nar .char ch)))), (h, .inr (5, [.ref se, .ref tx, .ref rs, .ref sp, .int cp, .int mt, .int mf, .int mo, .long msp, .ref md, .ref pf, .ref pt, .int pcs]))] H := hP
  have hD : va_D A [(rs, .inl (G.2 5, 3, .inr (.inr (.inr (.inr f))))), (r0, .inr (3, [.ref c0, .int (nI j0)])), (c0, .inl (G.2 2, 14, .inl g0)), (tx, .inr (3, [.ref tc, .int (nI j1)])), (tc, .inl (G.2 2, 8, .inl g1)), (r2, .inr (3, [.ref c2, .int (nI (j2 + 1))])), (c2, .inl (G.2 2, 8, .inl (upd g2 j2 (vp_nar .char ch)))), (h, .inr (5, [.ref se, .ref tx, .ref rs, .ref sp, .int cp, .int mt, .int mf, .int mo, .long msp, .ref md, .ref pf, .ref pt, .int pcs]))] := hD
  refine lv_iconst (v := 1) hx hb dX5_type_39 (by decide) ?_
  have hP := hP.sub (ws' := [(h, .inr (5, [.ref se, .ref tx, .ref rs, .ref sp, .int cp, .int mt, .int mf, .int mo, .long msp, .ref md, .ref pf, .ref pt, .int pcs])), (rs, .inl (G.2 5, 3, .inr (.inr (.inr (.inr f))))), (r0, .inr (3, [.ref c0, .int (nI j0)])), (c0, .inl (G.2 2, 14, .inl g0)), (tx, .inr (3, [.ref tc, .int (nI j1)])), (tc, .inl (G.2 2, 8, .inl g1)), (r2, .inr (3, [.ref c2, .int (nI (j2 + 1))])), (c2, .inl (G.2 2, 8, .inl (upd g2 j2 (vp_nar .char ch))))]) [7, 0, 1, 2, 3, 4, 5, 6] rfl
  have hD := hD.sub (ws' := [(h, .inr (5, [.ref se, .ref tx, .ref rs, .ref sp, .int cp, .int mt, .int mf, .int mo, .long msp, .ref md, .ref pf, .ref pt, .int pcs])), (rs, .inl (G.2 5, 3, .inr (.inr (.inr (.inr f))))), (r0, .inr (3, [.ref c0, .int (nI j0)])), (c0, .inl (G.2 2, 14, .inl g0)), (tx, .inr (3, [.ref tc, .int (nI j1)])), (tc, .inl (G.2 2, 8, .inl g1)), (r2, .inr (3, [.ref c2, .int (nI (j2 + 1))])), (c2, .inl (G.2 2, 8, .inl (upd g2 j2 (vp_nar .char ch))))]) [7, 0, 1, 2, 3, 4, 5, 6] (by decide) rfl
  exact en_i F hS 1 () (by rfl) rfl hP hD (by omega) (by omega) dX5_type_40

set_option maxHeartbeats 4000000 in
set_option maxRecDepth 100000 in
theorem c_typeF2 (l : Launch) (G : PG) (h se tx rs sp md pf pt : Nat) (cp mt mf mo pcs : Int32) (msp : Int64) (r0 c0 r2 c2 tc : Nat) (f : Nat → Option Nat) (hf0 : f 0 = some r0) (hf1 : f 1 = some tx) (hf2 : f 2 = some r2) (j0 j1 j2 : Nat) (g0 g1 g2 : Nat → Int32) (ch : Int32) (h32 : ¬ ch < 32) (h126 : ¬ (126 : Int32) < ch) : Ci l yX5_type (Cond.code yX5_type cX5_type 3 (some .boolean) :: aW) { frames := 1, cells := 0, slots := 0, locals := 21 } G [(h, .inr (5, [.ref se, .ref tx, .ref rs, .ref sp, .int cp, .int mt, .int mf, .int mo, .long msp, .ref md, .ref pf, .ref pt, .int pcs])), (rs, .inl (G.2 5, 3, .inr (.inr (.inr (.inr f))))), (r0, .inr (3, [.ref c0, .int (nI j0)])), (c0, .inl (G.2 2, 14, .inl g0)), (tx, .inr (3, [.ref tc, .int (nI j1)])), (tc, .inl (G.2 2, 8, .inl g1)), (r2, .inr (3, [.ref c2, .int (nI 8)])), (c2, .inl (G.2 2, 8, .inl g2))] [.ref h, .int 2, .int ch] (S := Unit) (fun (r9 : Int32) (_ : Unit) => r9 = 0) (fun (_ : Unit) => [(h, .inr (5, [.ref se, .ref tx, .ref rs, .ref sp, .int cp, .int mt, .int mf, .int mo, .long msp, .ref md, .ref pf, .ref pt, .int pcs])), (rs, .inl (G.2 5, 3, .inr (.inr (.inr (.inr f))))), (r0, .inr (3, [.ref c0, .int (nI j0)])), (c0, .inl (G.2 2, 14, .inl g0)), (tx, .inr (3, [.ref tc, .int (nI j1)])), (tc, .inl (G.2 2, 8, .inl g1)), (r2, .inr (3, [.ref c2, .int (nI 8)])), (c2, .inl (G.2 2, 8, .inl g2))]) 0 0 := by
  refine ofB (y := yX5_type) (G := G) (cc := cX5_type) (maxL := 3) (ret := (some .boolean)) (Qc := fun A => va_Qi (fun (r9 : Int32) (_ : Unit) => r9 = 0) (oB G A (fun (_ : Unit) => [(h, .inr (5, [.ref se, .ref tx, .ref rs, .ref sp, .int cp, .int mt, .int mf, .int mo, .long msp, .ref md, .ref pf, .ref pt, .int pcs])), (rs, .inl (G.2 5, 3, .inr (.inr (.inr (.inr f))))), (r0, .inr (3, [.ref c0, .int (nI j0)])), (c0, .inl (G.2 2, 14, .inl g0)), (tx, .inr (3, [.ref tc, .int (nI j1)])), (tc, .inl (G.2 2, 8, .inl g1)), (r2, .inr (3, [.ref c2, .int (nI 8)])), (c2, .inl (G.2 2, 8, .inl g2))])) A) (by decide) rfl ?_
  intro p e s m below meth c A F hK hA hP hD
  have hx := F.1.1; have hb := F.1.2.1; have hml := F.1.2.2.1; have hts := F.1.2.2.2.2
  have hown : s.vm.findClass RX5 = some m.cls := F.1.2.2.2.1
  have hS : va_S A s.heap s.heap [] := va_S.rf
  have hl := lv_entry ([.ref h, .int 2, .int ch]) (n := 3) (Nat.le_of_ble_eq_true rfl)
  rw [lg_entry_eq]
  generalize (lg_sl ([.ref h, .int 2, .int ch]) ++ List.replicate (3 - (lg_sl ([.ref h, .int 2, .int ch])).length) Slot.unset).toArray = ls at hl ⊢
  have hl : lv_has ls 3 [(0, .ref h), (1, .int 2), (2, .int ch)] := hl
  refine lv_iload_n hx hb dX5_type_0 rfl (lv_at hl 1 rfl) ?_
  have hPc := hP.sub (ws' := []) [] rfl
  have hDc := hD.sub (ws' := []) [] (by decide) rfl
  have hqc : 0 + 0 ≤ 0 ∧ 0 + 0 ≤ 0 := ⟨by omega, by omega⟩
  refine kl_i (wr := [(h, .inr (5, [.ref se, .ref tx, .ref rs, .ref sp, .int cp, .int mt, .int mf, .int mo, .long msp, .ref md, .ref pf, .ref pt, .int pcs])), (rs, .inl (G.2 5, 3, .inr (.inr (.inr (.inr f))))), (r0, .inr (3, [.ref c0, .int (nI j0)])), (c0, .inl (G.2 2, 14, .inl g0)), (tx, .inr (3, [.ref tc, .int (nI j1)])), (tc, .inl (G.2 2, 8, .inl g1)), (r2, .inr (3, [.ref c2, .int (nI 8)])), (c2, .inl (G.2 2, 8, .inl g2))]) (va_runS (As := [.int 2]) (rest := []) F.1 (c_isRow l G 2 _) (va_cwS 1 hts (aw_S w_234 w_235 w_1 w_236) rfl rfl rfl (by decide +kernel) ⟨by decide, by decide⟩) ⟨cS_blind, cS_pre hPc hDc hK⟩ rfl rfl hl.1 rfl (lv_room (Nat.le_of_ble_eq_true rfl)) dX5_type_1 hqc) hP hD hS hA [] [0, 1, 2, 3, 4, 5, 6, 7] rfl rfl (by decide) (by decide) (fun r u H locs hp hP hD hS => ?_)
  subst hp
  have hP : va_P G.1 vwCl [(h, .inr (5, [.ref se, .ref tx, .ref rs, .ref sp, .int cp, .int mt, .int mf, .int mo, .long msp, .ref md, .ref pf, .ref pt, .int pcs])), (rs, .inl (G.2 5, 3, .inr (.inr (.inr (.inr f))))), (r0, .inr (3, [.ref c0, .int (nI j0)])), (c0, .inl (G.2 2, 14, .inl g0)), (tx, .inr (3, [.ref tc, .int (nI j1)])), (tc, .inl (G.2 2, 8, .inl g1)), (r2, .inr (3, [.ref c2, .int (nI 8)])), (c2, .inl (G.2 2, 8, .inl g2))] H := hP
  have hD : va_D A [(h, .inr (5, [.ref se, .ref tx, .ref rs, .ref sp, .int cp, .int mt, .int mf, .int mo, .long msp, .ref md, .ref pf, .ref pt, .int pcs])), (rs, .inl (G.2 5, 3, .inr (.inr (.inr (.inr f))))), (r0, .inr (3, [.ref c0, .int (nI j0)])), (c0, .inl (G.2 2, 14, .inl g0)), (tx, .inr (3, [.ref tc, .int (nI j1)])), (tc, .inl (G.2 2, 8, .inl g1)), (r2, .inr (3, [.ref c2, .int (nI 8)])), (c2, .inl (G.2 2, 8, .inl g2))] := hD
  refine lv_if_eq (tgt := 32) hx hb dX5_type_4 (by decide) (fun h => absurd h (by decide : ¬ isRowV 2 = 0)) (fun _ => ?_)
  refine lv_iload_n hx hb dX5_type_7 rfl (lv_at hl 2 rfl) ?_
  refine lv_bipush (v := 32) hx hb dX5_type_8 (by decide) ?_
  refine lv_icmp_lt (tgt := 32) hx hb dX5_type_10 (by decide) (fun h => absurd h h32) (fun _ => ?_)
  refine lv_iload_n hx hb dX5_type_13 rfl (lv_at hl 2 rfl) ?_
  refine lv_bipush (v := 126) hx hb dX5_type_14 (by decide) ?_
  refine lv_icmp_gt (tgt := 32) hx hb dX5_type_16 (by decide) (fun h => absurd h h126) (fun _ => ?_)
  refine lv_aload_n hx hb dX5_type_19 rfl (lv_at hl 0 rfl) ?_
  refine va_get (D := G.1) (ci := 5) (v := .ref rs) (C := RX5) (T := TX5) (N := 13) hx hb hts inX5 hown hK.1 hP 0 rfl rfl 2 (by decide) (hts _ w_192) (fun _ h9 => h9) rfl dX5_type_20 ?_
  refine lv_iload_n hx hb dX5_type_23 rfl (lv_at hl 1 rfl) ?_
  refine va_aldq (D := G.1) hx hb hK.1 hP 1 5 rfl rfl (vp_in_nI (n := 2) (by decide) (by decide)) dX5_type_24 ?_
  refine tp_v (.ref r2) (show va_rf (f 2) = .ref r2 by rw [hf2]; rfl) ?_
  refine lv_iload_n hx hb dX5_type_25 rfl (lv_at hl 2 rfl) ?_
  have hPc := hP.sub (ws' := [(r2, .inr (3, [.ref c2, .int (nI 8)])), (c2, .inl (G.2 2, 8, .inl g2))]) [6, 7] rfl
  have hDc := hD.sub (ws' := [(r2, .inr (3, [.ref c2, .int (nI 8)])), (c2, .inl (G.2 2, 8, .inl g2))]) [6, 7] (by decide) rfl
  have hqc : 0 + 0 ≤ 0 ∧ 0 + 0 ≤ 0 := ⟨by omega, by omega⟩
  refine kl_i (wr := [(h, .inr (5, [.ref se, .ref tx, .ref rs, .ref sp, .int cp, .int mt, .int mf, .int mo, .long msp, .ref md, .ref pf, .ref pt, .int pcs])), (rs, .inl (G.2 5, 3, .inr (.inr (.inr (.inr f))))), (r0, .inr (3, [.ref c0, .int (nI j0)])), (c0, .inl (G.2 2, 14, .inl g0)), (tx, .inr (3, [.ref tc, .int (nI j1)])), (tc, .inl (G.2 2, 8, .inl g1))]) (va_runV (As := [.int ch]) (rest := []) F.1 (c_row_addF l G _ _ 8 g2 ch (by decide) _) (cwV 1 hts (aw_V w_237 w_238 w_239 w_3 w_240) rfl rfl rfl (by decide +kernel) ⟨by decide, by decide⟩) ⟨cS_blind, va_recv (q := (RX3, TX3, 2)) (ci := 3) (q0 := 0) hK.1 hPc rfl rfl, cS_pre hPc hDc hK⟩ rfl rfl hl.1 rfl (lv_room (Nat.le_of_ble_eq_true rfl)) dX5_type_26 hqc) hP hD hS hA [6, 7] [0, 1, 2, 3, 4, 5] rfl rfl (by decide) (by decide) (fun r u H locs hp hP hD hS => ?_)
  subst hp
  have hP : va_P G.1 vwCl [(h, .inr (5, [.ref se, .ref tx, .ref rs, .ref sp, .int cp, .int mt, .int mf, .int mo, .long msp, .ref md, .ref pf, .ref pt, .int pcs])), (rs, .inl (G.2 5, 3, .inr (.inr (.inr (.inr f))))), (r0, .inr (3, [.ref c0, .int (nI j0)])), (c0, .inl (G.2 2, 14, .inl g0)), (tx, .inr (3, [.ref tc, .int (nI j1)])), (tc, .inl (G.2 2, 8, .inl g1)), (r2, .inr (3, [.ref c2, .int (nI 8)])), (c2, .inl (G.2 2, 8, .inl g2))] H := hP
  have hD : va_D A [(h, .inr (5, [.ref se, .ref tx, .ref rs, .ref sp, .int cp, .int mt, .int mf, .int mo, .long msp, .ref md, .ref pf, .ref pt, .int pcs])), (rs, .inl (G.2 5, 3, .inr (.inr (.inr (.inr f))))), (r0, .inr (3, [.ref c0, .int (nI j0)])), (c0, .inl (G.2 2, 14, .inl g0)), (tx, .inr (3, [.ref tc, .int (nI j1)])), (tc, .inl (G.2 2, 8, .inl g1)), (r2, .inr (3, [.ref c2, .int (nI 8)])), (c2, .inl (G.2 2, 8, .inl g2))] := hD
  refine lv_if_ne (tgt := 34) hx hb dX5_type_29 (by decide) (fun h => absurd rfl h) (fun _ => ?_)
  refine lv_iconst (v := 0) hx hb dX5_type_32 (by decide) ?_
  have hP := hP.sub (ws' := [(h, .inr (5, [.ref se, .ref tx, .ref rs, .ref sp, .int cp, .int mt, .int mf, .int mo, .long msp, .ref md, .ref pf, .ref pt, .int pcs])), (rs, .inl (G.2 5, 3, .inr (.inr (.inr (.inr f))))), (r0, .inr (3, [.ref c0, .int (nI j0)])), (c0, .inl (G.2 2, 14, .inl g0)), (tx, .inr (3, [.ref tc, .int (nI j1)])), (tc, .inl (G.2 2, 8, .inl g1)), (r2, .inr (3, [.ref c2, .int (nI 8)])), (c2, .inl (G.2 2, 8, .inl g2))]) [0, 1, 2, 3, 4, 5, 6, 7] rfl
  have hD := hD.sub (ws' := [(h, .inr (5, [.ref se, .ref tx, .ref rs, .ref sp, .int cp, .int mt, .int mf, .int mo, .long msp, .ref md, .ref pf, .ref pt, .int pcs])), (rs, .inl (G.2 5, 3, .inr (.inr (.inr (.inr f))))), (r0, .inr (3, [.ref c0, .int (nI j0)])), (c0, .inl (G.2 2, 14, .inl g0)), (tx, .inr (3, [.ref tc, .int (nI j1)])), (tc, .inl (G.2 2, 8, .inl g1)), (r2, .inr (3, [.ref c2, .int (nI 8)])), (c2, .inl (G.2 2, 8, .inl g2))]) [0, 1, 2, 3, 4, 5, 6, 7] (by decide) rfl
  exact en_i F hS 0 () (by rfl) rfl hP hD (by omega) (by omega) dX5_type_33

set_option maxHeartbeats 4000000 in
set_option maxRecDepth 100000 in
theorem c_clear2 (l : Launch) (G : PG) (h se tx rs sp md pf pt : Nat) (cp mt mf mo pcs : Int32) (msp : Int64) (r0 c0 r2 c2 tc : Nat) (f : Nat → Option Nat) (hf0 : f 0 = some r0) (hf1 : f 1 = some tx) (hf2 : f 2 = some r2) (j0 j1 j2 : Nat) (g0 g1 g2 : Nat → Int32) : Ci l yX5_clear (Cond.code yX5_clear cX5_clear 2 (some .boolean) :: aW) { frames := 1, cells := 0, slots := 0, locals := 21 } G [(h, .inr (5, [.ref se, .ref tx, .ref rs, .ref sp, .int cp, .int mt, .int mf, .int mo, .long msp, .ref md, .ref pf, .ref pt, .int pcs])), (rs, .inl (G.2 5, 3, .inr (.inr (.inr (.inr f))))), (r0, .inr (3, [.ref c0, .int (nI j0)])), (c0, .inl (G.2 2, 14, .inl g0)), (tx, .inr (3, [.ref tc, .int (nI j1)])), (tc, .inl (G.2 2, 8, .inl g1)), (r2, .inr (3, [.ref c2, .int (nI j2)])), (c2, .inl (G.2 2, 8, .inl g2))] [.ref h, .int 2] (S := Unit) (fun (r9 : Int32) (_ : Unit) => r9 = 1) (fun (_ : Unit) => [(h, .inr (5, [.ref se, .ref tx, .ref rs, .ref sp, .int cp, .int mt, .int mf, .int mo, .long msp, .ref md, .ref pf, .ref pt, .int pcs])), (rs, .inl (G.2 5, 3, .inr (.inr (.inr (.inr f))))), (r0, .inr (3, [.ref c0, .int (nI j0)])), (c0, .inl (G.2 2, 14, .inl g0)), (tx, .inr (3, [.ref tc, .int (nI j1)])), (tc, .inl (G.2 2, 8, .inl g1)), (r2, .inr (3, [.ref c2, .int (nI 0)])), (c2, .inl (G.2 2, 8, .inl g2))]) 0 0 := by
  refine ofB (y := yX5_clear) (G := G) (cc := cX5_clear) (maxL := 2) (ret := (some .boolean)) (Qc := fun A => va_Qi (fun (r9 : Int32) (_ : Unit) => r9 = 1) (oB G A (fun (_ : Unit) => [(h, .inr (5, [.ref se, .ref tx, .ref rs, .ref sp, .int cp, .int mt, .int mf, .int mo, .long msp, .ref md, .ref pf, .ref pt, .int pcs])), (rs, .inl (G.2 5, 3, .inr (.inr (.inr (.inr f))))), (r0, .inr (3, [.ref c0, .int (nI j0)])), (c0, .inl (G.2 2, 14, .inl g0)), (tx, .inr (3, [.ref tc, .int (nI j1)])), (tc, .inl (G.2 2, 8, .inl g1)), (r2, .inr (3, [.ref c2, .int (nI 0)])), (c2, .inl (G.2 2, 8, .inl g2))])) A) (by decide) rfl ?_
  intro p e s m below meth c A F hK hA hP hD
  have hx := F.1.1; have hb := F.1.2.1; have hml := F.1.2.2.1; have hts := F.1.2.2.2.2
  have hown : s.vm.findClass RX5 = some m.cls := F.1.2.2.2.1
  have hS : va_S A s.heap s.heap [] := va_S.rf
  have hl := lv_entry ([.ref h, .int 2]) (n := 2) (Nat.le_of_ble_eq_true rfl)
  rw [lg_entry_eq]
  generalize (lg_sl ([.ref h, .int 2]) ++ List.replicate (2 - (lg_sl ([.ref h, .int 2])).length) Slot.unset).toArray = ls at hl ⊢
  have hl : lv_has ls 2 [(0, .ref h), (1, .int 2)] := hl
  refine lv_iload_n hx hb dX5_clear_0 rfl (lv_at hl 1 rfl) ?_
  have hPc := hP.sub (ws' := []) [] rfl
  have hDc := hD.sub (ws' := []) [] (by decide) rfl
  have hqc : 0 + 0 ≤ 0 ∧ 0 + 0 ≤ 0 := ⟨by omega, by omega⟩
  refine kl_i (wr := [(h, .inr (5, [.ref se, .ref tx, .ref rs, .ref sp, .int cp, .int mt, .int mf, .int mo, .long msp, .ref md, .ref pf, .ref pt, .int pcs])), (rs, .inl (G.2 5, 3, .inr (.inr (.inr (.inr f))))), (r0, .inr (3, [.ref c0, .int (nI j0)])), (c0, .inl (G.2 2, 14, .inl g0)), (tx, .inr (3, [.ref tc, .int (nI j1)])), (tc, .inl (G.2 2, 8, .inl g1)), (r2, .inr (3, [.ref c2, .int (nI j2)])), (c2, .inl (G.2 2, 8, .inl g2))]) (va_runS (As := [.int 2]) (rest := []) F.1 (c_isRow l G 2 _) (va_cwS 1 hts (aw_S w_234 w_235 w_1 w_236) rfl rfl rfl (by decide +kernel) ⟨by decide, by decide⟩) ⟨cS_blind, cS_pre hPc hDc hK⟩ rfl rfl hl.1 rfl (lv_room (Nat.le_of_ble_eq_true rfl)) dX5_clear_1 hqc) hP hD hS hA [] [0, 1, 2, 3, 4, 5, 6, 7] rfl rfl (by decide) (by decide) (fun r u H locs hp hP hD hS => ?_)
  subst hp
  have hP : va_P G.1 vwCl [(h, .inr (5, [.ref se, .ref tx, .ref rs, .ref sp, .int cp, .int mt, .int mf, .int mo, .long msp, .ref md, .ref pf, .ref pt, .int pcs])), (rs, .inl (G.2 5, 3, .inr (.inr (.inr (.inr f))))), (r0, .inr (3, [.ref c0, .int (nI j0)])), (c0, .inl (G.2 2, 14, .inl g0)), (tx, .inr (3, [.ref tc, .int (nI j1)])), (tc, .inl (G.2 2, 8, .inl g1)), (r2, .inr (3, [.ref c2, .int (nI j2)])), (c2, .inl (G.2 2, 8, .inl g2))] H := hP
  have hD : va_D A [(h, .inr (5, [.ref se, .ref tx, .ref rs, .ref sp, .int cp, .int mt, .int mf, .int mo, .long msp, .ref md, .ref pf, .ref pt, .int pcs])), (rs, .inl (G.2 5, 3, .inr (.inr (.inr (.inr f))))), (r0, .inr (3, [.ref c0, .int (nI j0)])), (c0, .inl (G.2 2, 14, .inl g0)), (tx, .inr (3, [.ref tc, .int (nI j1)])), (tc, .inl (G.2 2, 8, .inl g1)), (r2, .inr (3, [.ref c2, .int (nI j2)])), (c2, .inl (G.2 2, 8, .inl g2))] := hD
  refine lv_if_ne (tgt := 9) hx hb dX5_clear_4 (by decide) (fun _ => ?_) (fun h => absurd h (by decide : ¬ isRowV 2 = 0))
  refine lv_aload_n hx hb dX5_clear_9 rfl (lv_at hl 0 rfl) ?_
  refine va_get (D := G.1) (ci := 5) (v := .ref rs) (C := RX5) (T := TX5) (N := 13) hx hb hts inX5 hown hK.1 hP 0 rfl rfl 2 (by decide) (hts _ w_192) (fun _ h9 => h9) rfl dX5_clear_10 ?_
  refine lv_iload_n hx hb dX5_clear_13 rfl (lv_at hl 1 rfl) ?_
  refine va_aldq (D := G.1) hx hb hK.1 hP 1 5 rfl rfl (vp_in_nI (n := 2) (by decide) (by decide)) dX5_clear_14 ?_
  refine tp_v (.ref r2) (show va_rf (f 2) = .ref r2 by rw [hf2]; rfl) ?_
  have hPc := hP.sub (ws' := [(r2, .inr (3, [.ref c2, .int (nI j2)])), (c2, .inl (G.2 2, 8, .inl g2))]) [6, 7] rfl
  have hDc := hD.sub (ws' := [(r2, .inr (3, [.ref c2, .int (nI j2)])), (c2, .inl (G.2 2, 8, .inl g2))]) [6, 7] (by decide) rfl
  have hqc : 0 + 0 ≤ 0 ∧ 0 + 0 ≤ 0 := ⟨by omega, by omega⟩
  refine kl_v (wr := [(h, .inr (5, [.ref se, .ref tx, .ref rs, .ref sp, .int cp, .int mt, .int mf, .int mo, .long msp, .ref md, .ref pf, .ref pt, .int pcs])), (rs, .inl (G.2 5, 3, .inr (.inr (.inr (.inr f))))), (r0, .inr (3, [.ref c0, .int (nI j0)])), (c0, .inl (G.2 2, 14, .inl g0)), (tx, .inr (3, [.ref tc, .int (nI j1)])), (tc, .inl (G.2 2, 8, .inl g1))]) (va_runV (As := []) (rest := []) F.1 (c_row_empty l G _ _ _ _ _ _) (cwV 0 hts (aw_V w_249 w_250 w_251 w_3 w_252) rfl rfl rfl (by decide +kernel) ⟨by decide, by decide⟩) ⟨cS_blind, va_recv (q := (RX3, TX3, 2)) (ci := 3) (q0 := 0) hK.1 hPc rfl rfl, cS_pre hPc hDc hK⟩ rfl rfl hl.1 rfl (lv_room (Nat.le_of_ble_eq_true rfl)) dX5_clear_15 hqc) hP hD hS hA [6, 7] [0, 1, 2, 3, 4, 5] rfl rfl (by decide) (by decide) (fun u H locs hp hP hD hS => ?_)
  have hP : va_P G.1 vwCl [(h, .inr (5, [.ref se, .ref tx, .ref rs, .ref sp, .int cp, .int mt, .int mf, .int mo, .long msp, .ref md, .ref pf, .ref pt, .int pcs])), (rs, .inl (G.2 5, 3, .inr (.inr (.inr (.inr f))))), (r0, .inr (3, [.ref c0, .int (nI j0)])), (c0, .inl (G.2 2, 14, .inl g0)), (tx, .inr (3, [.ref tc, .int (nI j1)])), (tc, .inl (G.2 2, 8, .inl g1)), (r2, .inr (3, [.ref c2, .int 0])), (c2, .inl (G.2 2, 8, .inl g2))] H := hP
  have hD : va_D A [(h, .inr (5, [.ref se, .ref tx, .ref rs, .ref sp, .int cp, .int mt, .int mf, .int mo, .long msp, .ref md, .ref pf, .ref pt, .int pcs])), (rs, .inl (G.2 5, 3, .inr (.inr (.inr (.inr f))))), (r0, .inr (3, [.ref c0, .int (nI j0)])), (c0, .inl (G.2 2, 14, .inl g0)), (tx, .inr (3, [.ref tc, .int (nI j1)])), (tc, .inl (G.2 2, 8, .inl g1)), (r2, .inr (3, [.ref c2, .int 0])), (c2, .inl (G.2 2, 8, .inl g2))] := hD
  refine lv_aload_n hx hb dX5_clear_18 rfl (lv_at hl 0 rfl) ?_
  refine lv_iload_n hx hb dX5_clear_19 rfl (lv_at hl 1 rfl) ?_
  have hPc := hP.sub (ws' := [(h, .inr (5, [.ref se, .ref tx, .ref rs, .ref sp, .int cp, .int mt, .int mf, .int mo, .long msp, .ref md, .ref pf, .ref pt, .int pcs]))]) [0] rfl
  have hDc := hD.sub (ws' := [(h, .inr (5, [.ref se, .ref tx, .ref rs, .ref sp, .int cp, .int mt, .int mf, .int mo, .long msp, .ref md, .ref pf, .ref pt, .int pcs]))]) [0] (by decide) rfl
  have hqc : 0 + 0 ≤ 0 ∧ 0 + 0 ≤ 0 := ⟨by omega, by omega⟩
  refine kl_v (wr := [(rs, .inl (G.2 5, 3, .inr (.inr (.inr (.inr f))))), (r0, .inr (3, [.ref c0, .int (nI j0)])), (c0, .inl (G.2 2, 14, .inl g0)), (tx, .inr (3, [.ref tc, .int (nI j1)])), (tc, .inl (G.2 2, 8, .inl g1)), (r2, .inr (3, [.ref c2, .int 0])), (c2, .inl (G.2 2, 8, .inl g2))]) (va_runV (As := [.int 2]) (rest := []) F.1 (c_forgetN l G _ _ _ _ _ _ _ _ _ _ _ _ _ _ 2 (by decide) _) (cwV 1 hts (aw_V w_241 w_243 ws_X5_forgetMatchIfText w_1 w_244) rfl rfl rfl (by decide +kernel) ⟨by decide, by decide⟩) ⟨cS_blind, va_recv (q := (RX5, TX5, 13)) (ci := 5) (q0 := 0) hK.1 hPc rfl rfl, cS_pre hPc hDc hK⟩ rfl rfl hl.1 rfl (lv_room (Nat.le_of_ble_eq_true rfl)) dX5_clear_20 hqc) hP hD hS hA [0] [1, 2, 3, 4, 5, 6, 7] rfl rfl (by decide) (by decide) (fun u H locs hp hP hD hS => ?_)
  have hP : va_P G.1 vwCl [(rs, .inl (G.2 5, 3, .inr (.inr (.inr (.inr f))))), (r0, .inr (3, [.ref c0, .int (nI j0)])), (c0, .inl (G.2 2, 14, .inl g0)), (tx, .inr (3, [.ref tc, .int (nI j1)])), (tc, .inl (G.2 2, 8, .inl g1)), (r2, .inr (3, [.ref c2, .int 0])), (c2, .inl (G.2 2, 8, .inl g2)), (h, .inr (5, [.ref se, .ref tx, .ref rs, .ref sp, .int cp, .int mt, .int mf, .int mo, .long msp, .ref md, .ref pf, .ref pt, .int pcs]))] H := hP
  have hD : va_D A [(rs, .inl (G.2 5, 3, .inr (.inr (.inr (.inr f))))), (r0, .inr (3, [.ref c0, .int (nI j0)])), (c0, .inl (G.2 2, 14, .inl g0)), (tx, .inr (3, [.ref tc, .int (nI j1)])), (tc, .inl (G.2 2, 8, .inl g1)), (r2, .inr (3, [.ref c2, .int 0])), (c2, .inl (G.2 2, 8, .inl g2)), (h, .inr (5, [.ref se, .ref tx, .ref rs, .ref sp, .int cp, .int mt, .int mf, .int mo, .long msp, .ref md, .ref pf, .ref pt, .int pcs]))] := hD
  refine lv_iconst (v := 1) hx hb dX5_clear_23 (by decide) ?_
  have hP := hP.sub (ws' := [(h, .inr (5, [.ref se, .ref tx, .ref rs, .ref sp, .int cp, .int mt, .int mf, .int mo, .long msp, .ref md, .ref pf, .ref pt, .int pcs])), (rs, .inl (G.2 5, 3, .inr (.inr (.inr (.inr f))))), (r0, .inr (3, [.ref c0, .int (nI j0)])), (c0, .inl (G.2 2, 14, .inl g0)), (tx, .inr (3, [.ref tc, .int (nI j1)])), (tc, .inl (G.2 2, 8, .inl g1)), (r2, .inr (3, [.ref c2, .int (nI 0)])), (c2, .inl (G.2 2, 8, .inl g2))]) [7, 0, 1, 2, 3, 4, 5, 6] rfl
  have hD := hD.sub (ws' := [(h, .inr (5, [.ref se, .ref tx, .ref rs, .ref sp, .int cp, .int mt, .int mf, .int mo, .long msp, .ref md, .ref pf, .ref pt, .int pcs])), (rs, .inl (G.2 5, 3, .inr (.inr (.inr (.inr f))))), (r0, .inr (3, [.ref c0, .int (nI j0)])), (c0, .inl (G.2 2, 14, .inl g0)), (tx, .inr (3, [.ref tc, .int (nI j1)])), (tc, .inl (G.2 2, 8, .inl g1)), (r2, .inr (3, [.ref c2, .int (nI 0)])), (c2, .inl (G.2 2, 8, .inl g2))]) [7, 0, 1, 2, 3, 4, 5, 6] (by decide) rfl
  exact en_i F hS 1 () (by rfl) rfl hP hD (by omega) (by omega) dX5_clear_24

set_option maxHeartbeats 4000000 in
set_option maxRecDepth 100000 in
theorem c_len2 (l : Launch) (G : PG) (h se tx rs sp md pf pt : Nat) (cp mt mf mo pcs : Int32) (msp : Int64) (r0 c0 r2 c2 tc : Nat) (f : Nat → Option Nat) (hf0 : f 0 = some r0) (hf1 : f 1 = some tx) (hf2 : f 2 = some r2) (j0 j1 j2 : Nat) (g0 g1 g2 : Nat → Int32) : Ci l yX5_length (Cond.code yX5_length cX5_length 2 (some .int) :: aW) { frames := 1, cells := 0, slots := 0, locals := 21 } G [(h, .inr (5, [.ref se, .ref tx, .ref rs, .ref sp, .int cp, .int mt, .int mf, .int mo, .long msp, .ref md, .ref pf, .ref pt, .int pcs])), (rs, .inl (G.2 5, 3, .inr (.inr (.inr (.inr f))))), (r0, .inr (3, [.ref c0, .int (nI j0)])), (c0, .inl (G.2 2, 14, .inl g0)), (tx, .inr (3, [.ref tc, .int (nI j1)])), (tc, .inl (G.2 2, 8, .inl g1)), (r2, .inr (3, [.ref c2, .int (nI j2)])), (c2, .inl (G.2 2, 8, .inl g2))] [.ref h, .int 2] (S := Unit) (fun (r9 : Int32) (_ : Unit) => r9 = nI j2) (fun (_ : Unit) => [(h, .inr (5, [.ref se, .ref tx, .ref rs, .ref sp, .int cp, .int mt, .int mf, .int mo, .long msp, .ref md, .ref pf, .ref pt, .int pcs])), (rs, .inl (G.2 5, 3, .inr (.inr (.inr (.inr f))))), (r0, .inr (3, [.ref c0, .int (nI j0)])), (c0, .inl (G.2 2, 14, .inl g0)), (tx, .inr (3, [.ref tc, .int (nI j1)])), (tc, .inl (G.2 2, 8, .inl g1)), (r2, .inr (3, [.ref c2, .int (nI j2)])), (c2, .inl (G.2 2, 8, .inl g2))]) 0 0 := by
  refine ofB (y := yX5_length) (G := G) (cc := cX5_length) (maxL := 2) (ret := (some .int)) (Qc := fun A => va_Qi (fun (r9 : Int32) (_ : Unit) => r9 = nI j2) (oB G A (fun (_ : Unit) => [(h, .inr (5, [.ref se, .ref tx, .ref rs, .ref sp, .int cp, .int mt, .int mf, .int mo, .long msp, .ref md, .ref pf, .ref pt, .int pcs])), (rs, .inl (G.2 5, 3, .inr (.inr (.inr (.inr f))))), (r0, .inr (3, [.ref c0, .int (nI j0)])), (c0, .inl (G.2 2, 14, .inl g0)), (tx, .inr (3, [.ref tc, .int (nI j1)])), (tc, .inl (G.2 2, 8, .inl g1)), (r2, .inr (3, [.ref c2, .int (nI j2)])), (c2, .inl (G.2 2, 8, .inl g2))])) A) (by decide) rfl ?_
  intro p e s m below meth c A F hK hA hP hD
  have hx := F.1.1; have hb := F.1.2.1; have hml := F.1.2.2.1; have hts := F.1.2.2.2.2
  have hown : s.vm.findClass RX5 = some m.cls := F.1.2.2.2.1
  have hS : va_S A s.heap s.heap [] := va_S.rf
  have hl := lv_entry ([.ref h, .int 2]) (n := 2) (Nat.le_of_ble_eq_true rfl)
  rw [lg_entry_eq]
  generalize (lg_sl ([.ref h, .int 2]) ++ List.replicate (2 - (lg_sl ([.ref h, .int 2])).length) Slot.unset).toArray = ls at hl ⊢
  have hl : lv_has ls 2 [(0, .ref h), (1, .int 2)] := hl
  refine lv_iload_n hx hb dX5_length_0 rfl (lv_at hl 1 rfl) ?_
  have hPc := hP.sub (ws' := []) [] rfl
  have hDc := hD.sub (ws' := []) [] (by decide) rfl
  have hqc : 0 + 0 ≤ 0 ∧ 0 + 0 ≤ 0 := ⟨by omega, by omega⟩
  refine kl_i (wr := [(h, .inr (5, [.ref se, .ref tx, .ref rs, .ref sp, .int cp, .int mt, .int mf, .int mo, .long msp, .ref md, .ref pf, .ref pt, .int pcs])), (rs, .inl (G.2 5, 3, .inr (.inr (.inr (.inr f))))), (r0, .inr (3, [.ref c0, .int (nI j0)])), (c0, .inl (G.2 2, 14, .inl g0)), (tx, .inr (3, [.ref tc, .int (nI j1)])), (tc, .inl (G.2 2, 8, .inl g1)), (r2, .inr (3, [.ref c2, .int (nI j2)])), (c2, .inl (G.2 2, 8, .inl g2))]) (va_runS (As := [.int 2]) (rest := []) F.1 (c_isRow l G 2 _) (va_cwS 1 hts (aw_S w_234 w_235 w_1 w_236) rfl rfl rfl (by decide +kernel) ⟨by decide, by decide⟩) ⟨cS_blind, cS_pre hPc hDc hK⟩ rfl rfl hl.1 rfl (lv_room (Nat.le_of_ble_eq_true rfl)) dX5_length_1 hqc) hP hD hS hA [] [0, 1, 2, 3, 4, 5, 6, 7] rfl rfl (by decide) (by decide) (fun r u H locs hp hP hD hS => ?_)
  subst hp
  have hP : va_P G.1 vwCl [(h, .inr (5, [.ref se, .ref tx, .ref rs, .ref sp, .int cp, .int mt, .int mf, .int mo, .long msp, .ref md, .ref pf, .ref pt, .int pcs])), (rs, .inl (G.2 5, 3, .inr (.inr (.inr (.inr f))))), (r0, .inr (3, [.ref c0, .int (nI j0)])), (c0, .inl (G.2 2, 14, .inl g0)), (tx, .inr (3, [.ref tc, .int (nI j1)])), (tc, .inl (G.2 2, 8, .inl g1)), (r2, .inr (3, [.ref c2, .int (nI j2)])), (c2, .inl (G.2 2, 8, .inl g2))] H := hP
  have hD : va_D A [(h, .inr (5, [.ref se, .ref tx, .ref rs, .ref sp, .int cp, .int mt, .int mf, .int mo, .long msp, .ref md, .ref pf, .ref pt, .int pcs])), (rs, .inl (G.2 5, 3, .inr (.inr (.inr (.inr f))))), (r0, .inr (3, [.ref c0, .int (nI j0)])), (c0, .inl (G.2 2, 14, .inl g0)), (tx, .inr (3, [.ref tc, .int (nI j1)])), (tc, .inl (G.2 2, 8, .inl g1)), (r2, .inr (3, [.ref c2, .int (nI j2)])), (c2, .inl (G.2 2, 8, .inl g2))] := hD
  refine lv_if_eq (tgt := 19) hx hb dX5_length_4 (by decide) (fun h => absurd h (by decide : ¬ isRowV 2 = 0)) (fun _ => ?_)
  refine lv_aload_n hx hb dX5_length_7 rfl (lv_at hl 0 rfl) ?_
  refine va_get (D := G.1) (ci := 5) (v := .ref rs) (C := RX5) (T := TX5) (N := 13) hx hb hts inX5 hown hK.1 hP 0 rfl rfl 2 (by decide) (hts _ w_192) (fun _ h9 => h9) rfl dX5_length_8 ?_
  refine lv_iload_n hx hb dX5_length_11 rfl (lv_at hl 1 rfl) ?_
  refine va_aldq (D := G.1) hx hb hK.1 hP 1 5 rfl rfl (vp_in_nI (n := 2) (by decide) (by decide)) dX5_length_12 ?_
  refine tp_v (.ref r2) (show va_rf (f 2) = .ref r2 by rw [hf2]; rfl) ?_
  have hPc := hP.sub (ws' := [(r2, .inr (3, [.ref c2, .int (nI j2)])), (c2, .inl (G.2 2, 8, .inl g2))]) [6, 7] rfl
  have hDc := hD.sub (ws' := [(r2, .inr (3, [.ref c2, .int (nI j2)])), (c2, .inl (G.2 2, 8, .inl g2))]) [6, 7] (by decide) rfl
  have hqc : 0 + 0 ≤ 0 ∧ 0 + 0 ≤ 0 := ⟨by omega, by omega⟩
  refine kl_i (wr := [(h, .inr (5, [.ref se, .ref tx, .ref rs, .ref sp, .int cp, .int mt, .int mf, .int mo, .long msp, .ref md, .ref pf, .ref pt, .int pcs])), (rs, .inl (G.2 5, 3, .inr (.inr (.inr (.inr f))))), (r0, .inr (3, [.ref c0, .int (nI j0)])), (c0, .inl (G.2 2, 14, .inl g0)), (tx, .inr (3, [.ref tc, .int (nI j1)])), (tc, .inl (G.2 2, 8, .inl g1))]) (va_runV (As := []) (rest := []) F.1 (c_row_size l G _ _ _ _ _ _) (cwV 0 hts (aw_V w_257 w_258 w_259 w_3 w_260) rfl rfl rfl (by decide +kernel) ⟨by decide, by decide⟩) ⟨cS_blind, va_recv (q := (RX3, TX3, 2)) (ci := 3) (q0 := 0) hK.1 hPc rfl rfl, cS_pre hPc hDc hK⟩ rfl rfl hl.1 rfl (lv_room (Nat.le_of_ble_eq_true rfl)) dX5_length_13 hqc) hP hD hS hA [6, 7] [0, 1, 2, 3, 4, 5] rfl rfl (by decide) (by decide) (fun r u H locs hp hP hD hS => ?_)
  subst hp
  have hP : va_P G.1 vwCl [(h, .inr (5, [.ref se, .ref tx, .ref rs, .ref sp, .int cp, .int mt, .int mf, .int mo, .long msp, .ref md, .ref pf, .ref pt, .int pcs])), (rs, .inl (G.2 5, 3, .inr (.inr (.inr (.inr f))))), (r0, .inr (3, [.ref c0, .int (nI j0)])), (c0, .inl (G.2 2, 14, .inl g0)), (tx, .inr (3, [.ref tc, .int (nI j1)])), (tc, .inl (G.2 2, 8, .inl g1)), (r2, .inr (3, [.ref c2, .int (nI j2)])), (c2, .inl (G.2 2, 8, .inl g2))] H := hP
  have hD : va_D A [(h, .inr (5, [.ref se, .ref tx, .ref rs, .ref sp, .int cp, .int mt, .int mf, .int mo, .long msp, .ref md, .ref pf, .ref pt, .int pcs])), (rs, .inl (G.2 5, 3, .inr (.inr (.inr (.inr f))))), (r0, .inr (3, [.ref c0, .int (nI j0)])), (c0, .inl (G.2 2, 14, .inl g0)), (tx, .inr (3, [.ref tc, .int (nI j1)])), (tc, .inl (G.2 2, 8, .inl g1)), (r2, .inr (3, [.ref c2, .int (nI j2)])), (c2, .inl (G.2 2, 8, .inl g2))] := hD
  refine lv_goto (tgt := 20) hx hb dX5_length_16 (by decide) ?_
  have hP := hP.sub (ws' := [(h, .inr (5, [.ref se, .ref tx, .ref rs, .ref sp, .int cp, .int mt, .int mf, .int mo, .long msp, .ref md, .ref pf, .ref pt, .int pcs])), (rs, .inl (G.2 5, 3, .inr (.inr (.inr (.inr f))))), (r0, .inr (3, [.ref c0, .int (nI j0)])), (c0, .inl (G.2 2, 14, .inl g0)), (tx, .inr (3, [.ref tc, .int (nI j1)])), (tc, .inl (G.2 2, 8, .inl g1)), (r2, .inr (3, [.ref c2, .int (nI j2)])), (c2, .inl (G.2 2, 8, .inl g2))]) [0, 1, 2, 3, 4, 5, 6, 7] rfl
  have hD := hD.sub (ws' := [(h, .inr (5, [.ref se, .ref tx, .ref rs, .ref sp, .int cp, .int mt, .int mf, .int mo, .long msp, .ref md, .ref pf, .ref pt, .int pcs])), (rs, .inl (G.2 5, 3, .inr (.inr (.inr (.inr f))))), (r0, .inr (3, [.ref c0, .int (nI j0)])), (c0, .inl (G.2 2, 14, .inl g0)), (tx, .inr (3, [.ref tc, .int (nI j1)])), (tc, .inl (G.2 2, 8, .inl g1)), (r2, .inr (3, [.ref c2, .int (nI j2)])), (c2, .inl (G.2 2, 8, .inl g2))]) [0, 1, 2, 3, 4, 5, 6, 7] (by decide) rfl
  exact en_i F hS (nI j2) () (by rfl) rfl hP hD (by omega) (by omega) dX5_length_20

theorem dX5_clear_7 : decode cX5_clear 7 = .ok (.iconst 0, 1) := by decide +kernel
theorem dX5_clear_8 : decode cX5_clear 8 = .ok (.ireturn, 1) := by decide +kernel
set_option maxHeartbeats 4000000 in
set_option maxRecDepth 100000 in
theorem c_clear_bad (l : Launch) (G : PG) (h se tx rs sp md pf pt : Nat) (cp mt mf mo pcs : Int32) (msp : Int64) (r0 c0 r2 c2 tc : Nat) (f : Nat → Option Nat) (hf0 : f 0 = some r0) (hf1 : f 1 = some tx) (hf2 : f 2 = some r2) (j0 j1 j2 : Nat) (g0 g1 g2 : Nat → Int32) (r : Int32) (hbad : isRowV r = 0) : Ci l yX5_clear (Cond.code yX5_clear cX5_clear 2 (some .boolean) :: aW) { frames := 1, cells := 0, slots := 0, locals := 21 } G [(h, .inr (5, [.ref se, .ref tx, .ref rs, .ref sp, .int cp, .int mt, .int mf, .int mo, .long msp, .ref md, .ref pf, .ref pt, .int pcs])), (rs, .inl (G.2 5, 3, .inr (.inr (.inr (.inr f))))), (r0, .inr (3, [.ref c0, .int (nI j0)])), (c0, .inl (G.2 2, 14, .inl g0)), (tx, .inr (3, [.ref tc, .int (nI j1)])), (tc, .inl (G.2 2, 8, .inl g1)), (r2, .inr (3, [.ref c2, .int (nI j2)])), (c2, .inl (G.2 2, 8, .inl g2))] [.ref h, .int r] (S := Unit) (fun (r9 : Int32) (_ : Unit) => r9 = 0) (fun (_ : Unit) => [(h, .inr (5, [.ref se, .ref tx, .ref rs, .ref sp, .int cp, .int mt, .int mf, .int mo, .long msp, .ref md, .ref pf, .ref pt, .int pcs])), (rs, .inl (G.2 5, 3, .inr (.inr (.inr (.inr f))))), (r0, .inr (3, [.ref c0, .int (nI j0)])), (c0, .inl (G.2 2, 14, .inl g0)), (tx, .inr (3, [.ref tc, .int (nI j1)])), (tc, .inl (G.2 2, 8, .inl g1)), (r2, .inr (3, [.ref c2, .int (nI j2)])), (c2, .inl (G.2 2, 8, .inl g2))]) 0 0 := by
  refine ofB (y := yX5_clear) (G := G) (cc := cX5_clear) (maxL := 2) (ret := (some .boolean)) (Qc := fun A => va_Qi (fun (r9 : Int32) (_ : Unit) => r9 = 0) (oB G A (fun (_ : Unit) => [(h, .inr (5, [.ref se, .ref tx, .ref rs, .ref sp, .int cp, .int mt, .int mf, .int mo, .long msp, .ref md, .ref pf, .ref pt, .int pcs])), (rs, .inl (G.2 5, 3, .inr (.inr (.inr (.inr f))))), (r0, .inr (3, [.ref c0, .int (nI j0)])), (c0, .inl (G.2 2, 14, .inl g0)), (tx, .inr (3, [.ref tc, .int (nI j1)])), (tc, .inl (G.2 2, 8, .inl g1)), (r2, .inr (3, [.ref c2, .int (nI j2)])), (c2, .inl (G.2 2, 8, .inl g2))])) A) (by decide) rfl ?_
  intro p e s m below meth c A F hK hA hP hD
  have hx := F.1.1; have hb := F.1.2.1; have hml := F.1.2.2.1; have hts := F.1.2.2.2.2
  have hown : s.vm.findClass RX5 = some m.cls := F.1.2.2.2.1
  have hS : va_S A s.heap s.heap [] := va_S.rf
  have hl := lv_entry ([.ref h, .int r]) (n := 2) (Nat.le_of_ble_eq_true rfl)
  rw [lg_entry_eq]
  generalize (lg_sl ([.ref h, .int r]) ++ List.replicate (2 - (lg_sl ([.ref h, .int r])).length) Slot.unset).toArray = ls at hl ⊢
  have hl : lv_has ls 2 [(0, .ref h), (1, .int r)] := hl
  refine lv_iload_n hx hb dX5_clear_0 rfl (lv_at hl 1 rfl) ?_
  have hPc := hP.sub (ws' := []) [] rfl
  have hDc := hD.sub (ws' := []) [] (by decide) rfl
  have hqc : 0 + 0 ≤ 0 ∧ 0 + 0 ≤ 0 := ⟨by omega, by omega⟩
  refine kl_i (wr := [(h, .inr (5, [.ref se, .ref tx, .ref rs, .ref sp, .int cp, .int mt, .int mf, .int mo, .long msp, .ref md, .ref pf, .ref pt, .int pcs])), (rs, .inl (G.2 5, 3, .inr (.inr (.inr (.inr f))))), (r0, .inr (3, [.ref c0, .int (nI j0)])), (c0, .inl (G.2 2, 14, .inl g0)), (tx, .inr (3, [.ref tc, .int (nI j1)])), (tc, .inl (G.2 2, 8, .inl g1)), (r2, .inr (3, [.ref c2, .int (nI j2)])), (c2, .inl (G.2 2, 8, .inl g2))]) (va_runS (As := [.int r]) (rest := []) F.1 (c_isRow l G r _) (va_cwS 1 hts (aw_S w_234 w_235 w_1 w_236) rfl rfl rfl (by decide +kernel) ⟨by decide, by decide⟩) ⟨cS_blind, cS_pre hPc hDc hK⟩ rfl rfl hl.1 rfl (lv_room (Nat.le_of_ble_eq_true rfl)) dX5_clear_1 hqc) hP hD hS hA [] [0, 1, 2, 3, 4, 5, 6, 7] rfl rfl (by decide) (by decide) (fun r u H locs hp hP hD hS => ?_)
  subst hp
  have hP : va_P G.1 vwCl [(h, .inr (5, [.ref se, .ref tx, .ref rs, .ref sp, .int cp, .int mt, .int mf, .int mo, .long msp, .ref md, .ref pf, .ref pt, .int pcs])), (rs, .inl (G.2 5, 3, .inr (.inr (.inr (.inr f))))), (r0, .inr (3, [.ref c0, .int (nI j0)])), (c0, .inl (G.2 2, 14, .inl g0)), (tx, .inr (3, [.ref tc, .int (nI j1)])), (tc, .inl (G.2 2, 8, .inl g1)), (r2, .inr (3, [.ref c2, .int (nI j2)])), (c2, .inl (G.2 2, 8, .inl g2))] H := hP
  have hD : va_D A [(h, .inr (5, [.ref se, .ref tx, .ref rs, .ref sp, .int cp, .int mt, .int mf, .int mo, .long msp, .ref md, .ref pf, .ref pt, .int pcs])), (rs, .inl (G.2 5, 3, .inr (.inr (.inr (.inr f))))), (r0, .inr (3, [.ref c0, .int (nI j0)])), (c0, .inl (G.2 2, 14, .inl g0)), (tx, .inr (3, [.ref tc, .int (nI j1)])), (tc, .inl (G.2 2, 8, .inl g1)), (r2, .inr (3, [.ref c2, .int (nI j2)])), (c2, .inl (G.2 2, 8, .inl g2))] := hD
  refine lv_if_ne (tgt := 9) hx hb dX5_clear_4 (by decide) (fun h => absurd hbad h) (fun _ => ?_)
  refine lv_iconst (v := 0) hx hb dX5_clear_7 (by decide) ?_
  exact en_i F hS 0 () (by rfl) rfl hP hD (by omega) (by omega) dX5_clear_8

theorem dX5_length_19 : decode cX5_length 19 = .ok (.iconst (-1), 1) := by decide +kernel
set_option maxHeartbeats 4000000 in
set_option maxRecDepth 100000 in
theorem c_len_bad (l : Launch) (G : PG) (h se tx rs sp md pf pt : Nat) (cp mt mf mo pcs : Int32) (msp : Int64) (r0 c0 r2 c2 tc : Nat) (f : Nat → Option Nat) (hf0 : f 0 = some r0) (hf1 : f 1 = some tx) (hf2 : f 2 = some r2) (j0 j1 j2 : Nat) (g0 g1 g2 : Nat → Int32) (r : Int32) (hbad : isRowV r = 0) : Ci l yX5_length (Cond.code yX5_length cX5_length 2 (some .int) :: aW) { frames := 1, cells := 0, slots := 0, locals := 21 } G [(h, .inr (5, [.ref se, .ref tx, .ref rs, .ref sp, .int cp, .int mt, .int mf, .int mo, .long msp, .ref md, .ref pf, .ref pt, .int pcs])), (rs, .inl (G.2 5, 3, .inr (.inr (.inr (.inr f))))), (r0, .inr (3, [.ref c0, .int (nI j0)])), (c0, .inl (G.2 2, 14, .inl g0)), (tx, .inr (3, [.ref tc, .int (nI j1)])), (tc, .inl (G.2 2, 8, .inl g1)), (r2, .inr (3, [.ref c2, .int (nI j2)])), (c2, .inl (G.2 2, 8, .inl g2))] [.ref h, .int r] (S := Unit) (fun (r9 : Int32) (_ : Unit) => r9 = -1) (fun (_ : Unit) => [(h, .inr (5, [.ref se, .ref tx, .ref rs, .ref sp, .int cp, .int mt, .int mf, .int mo, .long msp, .ref md, .ref pf, .ref pt, .int pcs])), (rs, .inl (G.2 5, 3, .inr (.inr (.inr (.inr f))))), (r0, .inr (3, [.ref c0, .int (nI j0)])), (c0, .inl (G.2 2, 14, .inl g0)), (tx, .inr (3, [.ref tc, .int (nI j1)])), (tc, .inl (G.2 2, 8, .inl g1)), (r2, .inr (3, [.ref c2, .int (nI j2)])), (c2, .inl (G.2 2, 8, .inl g2))]) 0 0 := by
  refine ofB (y := yX5_length) (G := G) (cc := cX5_length) (maxL := 2) (ret := (some .int)) (Qc := fun A => va_Qi (fun (r9 : Int32) (_ : Unit) => r9 = -1) (oB G A (fun (_ : Unit) => [(h, .inr (5, [.ref se, .ref tx, .ref rs, .ref sp, .int cp, .int mt, .int mf, .int mo, .long msp, .ref md, .ref pf, .ref pt, .int pcs])), (rs, .inl (G.2 5, 3, .inr (.inr (.inr (.inr f))))), (r0, .inr (3, [.ref c0, .int (nI j0)])), (c0, .inl (G.2 2, 14, .inl g0)), (tx, .inr (3, [.ref tc, .int (nI j1)])), (tc, .inl (G.2 2, 8, .inl g1)), (r2, .inr (3, [.ref c2, .int (nI j2)])), (c2, .inl (G.2 2, 8, .inl g2))])) A) (by decide) rfl ?_
  intro p e s m below meth c A F hK hA hP hD
  have hx := F.1.1; have hb := F.1.2.1; have hml := F.1.2.2.1; have hts := F.1.2.2.2.2
  have hown : s.vm.findClass RX5 = some m.cls := F.1.2.2.2.1
  have hS : va_S A s.heap s.heap [] := va_S.rf
  have hl := lv_entry ([.ref h, .int r]) (n := 2) (Nat.le_of_ble_eq_true rfl)
  rw [lg_entry_eq]
  generalize (lg_sl ([.ref h, .int r]) ++ List.replicate (2 - (lg_sl ([.ref h, .int r])).length) Slot.unset).toArray = ls at hl ⊢
  have hl : lv_has ls 2 [(0, .ref h), (1, .int r)] := hl
  refine lv_iload_n hx hb dX5_length_0 rfl (lv_at hl 1 rfl) ?_
  have hPc := hP.sub (ws' := []) [] rfl
  have hDc := hD.sub (ws' := []) [] (by decide) rfl
  have hqc : 0 + 0 ≤ 0 ∧ 0 + 0 ≤ 0 := ⟨by omega, by omega⟩
  refine kl_i (wr := [(h, .inr (5, [.ref se, .ref tx, .ref rs, .ref sp, .int cp, .int mt, .int mf, .int mo, .long msp, .ref md, .ref pf, .ref pt, .int pcs])), (rs, .inl (G.2 5, 3, .inr (.inr (.inr (.inr f))))), (r0, .inr (3, [.ref c0, .int (nI j0)])), (c0, .inl (G.2 2, 14, .inl g0)), (tx, .inr (3, [.ref tc, .int (nI j1)])), (tc, .inl (G.2 2, 8, .inl g1)), (r2, .inr (3, [.ref c2, .int (nI j2)])), (c2, .inl (G.2 2, 8, .inl g2))]) (va_runS (As := [.int r]) (rest := []) F.1 (c_isRow l G r _) (va_cwS 1 hts (aw_S w_234 w_235 w_1 w_236) rfl rfl rfl (by decide +kernel) ⟨by decide, by decide⟩) ⟨cS_blind, cS_pre hPc hDc hK⟩ rfl rfl hl.1 rfl (lv_room (Nat.le_of_ble_eq_true rfl)) dX5_length_1 hqc) hP hD hS hA [] [0, 1, 2, 3, 4, 5, 6, 7] rfl rfl (by decide) (by decide) (fun r u H locs hp hP hD hS => ?_)
  subst hp
  have hP : va_P G.1 vwCl [(h, .inr (5, [.ref se, .ref tx, .ref rs, .ref sp, .int cp, .int mt, .int mf, .int mo, .long msp, .ref md, .ref pf, .ref pt, .int pcs])), (rs, .inl (G.2 5, 3, .inr (.inr (.inr (.inr f))))), (r0, .inr (3, [.ref c0, .int (nI j0)])), (c0, .inl (G.2 2, 14, .inl g0)), (tx, .inr (3, [.ref tc, .int (nI j1)])), (tc, .inl (G.2 2, 8, .inl g1)), (r2, .inr (3, [.ref c2, .int (nI j2)])), (c2, .inl (G.2 2, 8, .inl g2))] H := hP
  have hD : va_D A [(h, .inr (5, [.ref se, .ref tx, .ref rs, .ref sp, .int cp, .int mt, .int mf, .int mo, .long msp, .ref md, .ref pf, .ref pt, .int pcs])), (rs, .inl (G.2 5, 3, .inr (.inr (.inr (.inr f))))), (r0, .inr (3, [.ref c0, .int (nI j0)])), (c0, .inl (G.2 2, 14, .inl g0)), (tx, .inr (3, [.ref tc, .int (nI j1)])), (tc, .inl (G.2 2, 8, .inl g1)), (r2, .inr (3, [.ref c2, .int (nI j2)])), (c2, .inl (G.2 2, 8, .inl g2))] := hD
  refine lv_if_eq (tgt := 19) hx hb dX5_length_4 (by decide) (fun _ => ?_) (fun h => absurd hbad h)
  refine lv_iconst (v := (-1)) hx hb dX5_length_19 (by decide) ?_
  exact en_i F hS (-1) () (by rfl) rfl hP hD (by omega) (by omega) dX5_length_20
end
section
/-! PatternMatcher.Reader on a row that is read to its end -/
theorem pn_self {j : Nat} (h : j < 2147483647) : pn_ix (j + 1) (nI j) = j := by
  unfold pn_ix
  rw [if_neg (fun z => z.elim (nI_pos (by omega)) (nI_ge (Nat.lt_succ_self j) (by omega)))]
  exact nI_clamp (by omega)
theorem dX2_init_0 : decode cX2_init 0 = .ok (.aload_n 0, 1) := by decide +kernel
theorem dX2_init_1 : decode cX2_init 1 = .ok (.invokespecial 3, 3) := by decide +kernel
theorem dX2_init_4 : decode cX2_init 4 = .ok (.aload_n 0, 1) := by decide +kernel
theorem dX2_init_5 : decode cX2_init 5 = .ok (.aload_n 1, 1) := by decide +kernel
theorem dX2_init_6 : decode cX2_init 6 = .ok (.putfield 9, 3) := by decide +kernel
theorem dX2_init_9 : decode cX2_init 9 = .ok (.aload_n 0, 1) := by decide +kernel
theorem dX2_init_10 : decode cX2_init 10 = .ok (.aload_n 2, 1) := by decide +kernel
theorem dX2_init_11 : decode cX2_init 11 = .ok (.putfield 15, 3) := by decide +kernel
theorem dX2_init_14 : decode cX2_init 14 = .ok (.return_, 1) := by decide +kernel
set_option maxHeartbeats 4000000 in
set_option maxRecDepth 100000 in
theorem c_rd_init (l : Launch) (G : PG) (h rw pr : Nat) : Cv l yX2_init (Cond.code yX2_init cX2_init 3 none :: aW) { frames := 1, cells := 0, slots := 0, locals := 40 } G [(h, .inr (2, [.null, .null, .int 0, .int 0, .int 0, .int 0, .long 0, .long 0, .int 0, .int 0]))] [.ref h, .ref rw, .ref pr] (S := Unit) (fun (_ : Unit) => True) (fun (_ : Unit) => [(h, .inr (2, [.ref rw, .ref pr, .int 0, .int 0, .int 0, .int 0, .long 0, .long 0, .int 0, .int 0]))]) 0 0 := by
  refine ofB (y := yX2_init) (G := G) (cc := cX2_init) (maxL := 3) (ret := none) (Qc := fun A => va_Qv (fun (_ : Unit) => True) (oB G A (fun (_ : Unit) => [(h, .inr (2, [.ref rw, .ref pr, .int 0, .int 0, .int 0, .int 0, .long 0, .long 0, .int 0, .int 0]))])) A) (by decide) rfl ?_
  intro p e s m below meth c A F hK hA hP hD
  have hx := F.1.1; have hb := F.1.2.1; have hml := F.1.2.2.1; have hts := F.1.2.2.2.2
  have hown : s.vm.findClass RX2 = some m.cls := F.1.2.2.2.1
  have hin : meth.name = "<init>" := F.2.2.2
  have hS : va_S A s.heap s.heap [] := va_S.rf
  have hl := lv_entry ([.ref h, .ref rw, .ref pr]) (n := 3) (Nat.le_of_ble_eq_true rfl)
  rw [lg_entry_eq]
  generalize (lg_sl ([.ref h, .ref rw, .ref pr]) ++ List.replicate (3 - (lg_sl ([.ref h, .ref rw, .ref pr])).length) Slot.unset).toArray = ls at hl ⊢
  have hl : lv_has ls 3 [(0, .ref h), (1, .ref rw), (2, .ref pr)] := hl
  refine lv_aload_n hx hb dX2_init_0 rfl (lv_at hl 0 rfl) ?_
  refine W.objInit hx hb hown (hts _ w_274) (hts _ w_26) (hts _ w_27) rfl (by rw [hml]; exact hl.1) rfl dX2_init_1 (Nat.le_of_ble_eq_true rfl) (Nat.le_of_ble_eq_true rfl) ?_
  refine W.eq (g2 := F0 m 4 ls []) rfl ?_
  refine lv_aload_n hx hb dX2_init_4 rfl (lv_at hl 0 rfl) ?_
  refine lv_aload_n hx hb dX2_init_5 rfl (lv_at hl 1 rfl) ?_
  refine va_putF (D := G.1) (ci := 2) (v := .ref rw) (ty := .object "PatternMatcher$Row") (C := RX2) (T := TX2) (N := 10) hx hb hts inX2 tyX2 tyX2_ok nmX2 hown hK.1 hP hD hS 0 rfl rfl 0 (by decide) (hts _ w_275) (fun _ h9 => h9) rfl hin rfl (by decide +kernel) rfl rfl (Nat.le_of_ble_eq_true rfl) dX2_init_6 (fun H locs hP hD hS => ?_)
  have hP : va_P G.1 vwCl [(h, .inr (2, [.ref rw, .null, .int 0, .int 0, .int 0, .int 0, .long 0, .long 0, .int 0, .int 0]))] H := hP
  have hD : va_D A [(h, .inr (2, [.ref rw, .null, .int 0, .int 0, .int 0, .int 0, .long 0, .long 0, .int 0, .int 0]))] := hD
  refine lv_aload_n hx hb dX2_init_9 rfl (lv_at hl 0 rfl) ?_
  refine lv_aload_n hx hb dX2_init_10 rfl (lv_at hl 2 rfl) ?_
  refine va_putF (D := G.1) (ci := 2) (v := .ref pr) (ty := .object "PatternMatcher$Program") (C := RX2) (T := TX2) (N := 10) hx hb hts inX2 tyX2 tyX2_ok nmX2 hown hK.1 hP hD hS 0 rfl rfl 1 (by decide) (hts _ w_276) (fun _ h9 => h9) rfl hin rfl (by decide +kernel) rfl rfl (Nat.le_of_ble_eq_true rfl) dX2_init_11 (fun H locs hP hD hS => ?_)
  have hP : va_P G.1 vwCl [(h, .inr (2, [.ref rw, .ref pr, .int 0, .int 0, .int 0, .int 0, .long 0, .long 0, .int 0, .int 0]))] H := hP
  have hD : va_D A [(h, .inr (2, [.ref rw, .ref pr, .int 0, .int 0, .int 0, .int 0, .long 0, .long 0, .int 0, .int 0]))] := hD
  exact en_v F hS () trivial hP hD (by omega) (by omega) dX2_init_14

theorem dX2_add_0 : decode cX2_add 0 = .ok (.aload_n 0, 1) := by decide +kernel
theorem dX2_add_1 : decode cX2_add 1 = .ok (.getfield 15, 3) := by decide +kernel
theorem dX2_add_4 : decode cX2_add 4 = .ok (.iload_n 1, 1) := by decide +kernel
theorem dX2_add_5 : decode cX2_add 5 = .ok (.invokevirtual 208, 3) := by decide +kernel
theorem dX2_add_8 : decode cX2_add 8 = .ok (.istore_n 2, 1) := by decide +kernel
theorem dX2_add_9 : decode cX2_add 9 = .ok (.iload_n 2, 1) := by decide +kernel
theorem dX2_add_10 : decode cX2_add 10 = .ok (.ifCond .ne 8, 3) := by decide +kernel
theorem dX2_add_18 : decode cX2_add 18 = .ok (.iload_n 2, 1) := by decide +kernel
theorem dX2_add_19 : decode cX2_add 19 = .ok (.ireturn, 1) := by decide +kernel
set_option maxHeartbeats 4000000 in
set_option maxRecDepth 100000 in
theorem c_rd_add (l : Launch) (G : PG) (h rw pr : Nat) (at_ bad bh tl le mo : Int32) (rl rh : Int64) (na j : Nat) (fi gr : Int32) (aq : Int64) (ad : Nat → Nat) (a : Nat → Nat → Int32) (lo hi : Nat → Int64) (kd : Int32) (hj : j < 32) (hnz : ¬ a j 0 = 0) : Ci l yX2_add (Cond.code yX2_add cX2_add 3 (some .int) :: aW) { frames := 1, cells := 0, slots := 0, locals := 22 } G (([(h, .inr (2, [.ref rw, .ref pr, .int at_, .int bad, .int bh, .int tl, .long rl, .long rh, .int le, .int mo])), (pr, .inr (1, [.ref na, .int (nI j), .int fi, .int gr, .long aq])), (na, .inl (G.2 4, 32, .inr (.inr (.inr (.inr (nf ad 32))))))] : va_W) ++ np ad a lo hi 32) [.ref h, .int kd] (S := Unit) (fun (r9 : Int32) (_ : Unit) => r9 = a j 0) (fun (_ : Unit) => (([(h, .inr (2, [.ref rw, .ref pr, .int at_, .int bad, .int bh, .int tl, .long rl, .long rh, .int le, .int mo])), (pr, .inr (1, [.ref na, .int (nI (j + 1)), .int fi, .int gr, .long aq])), (na, .inl (G.2 4, 32, .inr (.inr (.inr (.inr (nf ad 32))))))] : va_W) ++ np ad (va_up a j (upd (upd (upd (a j) 1 kd) 2 0) 3 0)) lo hi 32)) 0 0 := by
  refine ofB (y := yX2_add) (G := G) (cc := cX2_add) (maxL := 3) (ret := (some .int)) (Qc := fun A => va_Qi (fun (r9 : Int32) (_ : Unit) => r9 = a j 0) (oB G A (fun (_ : Unit) => (([(h, .inr (2, [.ref rw, .ref pr, .int at_, .int bad, .int bh, .int tl, .long rl, .long rh, .int le, .int mo])), (pr, .inr (1, [.ref na, .int (nI (j + 1)), .int fi, .int gr, .long aq])), (na, .inl (G.2 4, 32, .inr (.inr (.inr (.inr (nf ad 32))))))] : va_W) ++ np ad (va_up a j (upd (upd (upd (a j) 1 kd) 2 0) 3 0)) lo hi 32))) A) (by decide) rfl ?_
  intro p e s m below meth c A F hK hA hP hD
  have hx := F.1.1; have hb := F.1.2.1; have hml := F.1.2.2.1; have hts := F.1.2.2.2.2
  have hown : s.vm.findClass RX2 = some m.cls := F.1.2.2.2.1
  have hS : va_S A s.heap s.heap [] := va_S.rf
  have hl := lv_entry ([.ref h, .int kd]) (n := 3) (Nat.le_of_ble_eq_true rfl)
  rw [lg_entry_eq]
  generalize (lg_sl ([.ref h, .int kd]) ++ List.replicate (3 - (lg_sl ([.ref h, .int kd])).length) Slot.unset).toArray = ls at hl ⊢
  have hl : lv_has ls 3 [(0, .ref h), (1, .int kd)] := hl
  refine lv_aload_n hx hb dX2_add_0 rfl (lv_at hl 0 rfl) ?_
  refine va_get (D := G.1) (ci := 2) (v := .ref pr) (C := RX2) (T := TX2) (N := 10) hx hb hts inX2 hown hK.1 hP 0 rfl rfl 1 (by decide) (hts _ w_276) (fun _ h9 => h9) rfl dX2_add_1 ?_
  refine lv_iload_n hx hb dX2_add_4 rfl (lv_at hl 1 rfl) ?_
  have hPc := hP.part (cx := [(pr, .inr (1, [.ref na, .int (nI j), .int fi, .int gr, .long aq])), (na, .inl (G.2 4, 32, .inr (.inr (.inr (.inr (nf ad 32))))))]) [1, 2] rfl
  have hDc := hD.part (cx := [(pr, .inr (1, [.ref na, .int (nI j), .int fi, .int gr, .long aq])), (na, .inl (G.2 4, 32, .inr (.inr (.inr (.inr (nf ad 32))))))]) [1, 2] (by decide) rfl
  have hqc : 0 + 0 ≤ 0 ∧ 0 + 0 ≤ 0 := ⟨by omega, by omega⟩
  refine kl_iP (wr := [(h, .inr (2, [.ref rw, .ref pr, .int at_, .int bad, .int bh, .int tl, .long rl, .long rh, .int le, .int mo]))]) (va_runV (As := [.int kd]) (rest := []) F.1 (c_prog_add l G _ _ j _ _ _ ad a lo hi kd hj _) (cwV 1 hts (aw_V w_318 w_319 w_320 w_4 w_321) rfl rfl rfl (by decide +kernel) ⟨by decide, by decide⟩) ⟨cS_blind, va_recv (q := (RX1, TX1, 5)) (ci := 1) (q0 := 0) hK.1 hPc rfl rfl, cS_pre hPc hDc hK⟩ rfl rfl hl.1 rfl (lv_room (Nat.le_of_ble_eq_true rfl)) dX2_add_5 hqc) hP hD hS hA [1, 2] [0] rfl rfl (by decide) (by decide) (fun r u H locs hp hP hD hS => ?_)
  subst hp
  have hP : va_P G.1 vwCl (([(h, .inr (2, [.ref rw, .ref pr, .int at_, .int bad, .int bh, .int tl, .long rl, .long rh, .int le, .int mo])), (pr, .inr (1, [.ref na, .int (nI (j + 1)), .int fi, .int gr, .long aq])), (na, .inl (G.2 4, 32, .inr (.inr (.inr (.inr (nf ad 32))))))] : va_W) ++ np ad (va_up a j (upd (upd (upd (a j) 1 kd) 2 0) 3 0)) lo hi 32) H := hP
  have hD : va_D A (([(h, .inr (2, [.ref rw, .ref pr, .int at_, .int bad, .int bh, .int tl, .long rl, .long rh, .int le, .int mo])), (pr, .inr (1, [.ref na, .int (nI (j + 1)), .int fi, .int gr, .long aq])), (na, .inl (G.2 4, 32, .inr (.inr (.inr (.inr (nf ad 32))))))] : va_W) ++ np ad (va_up a j (upd (upd (upd (a j) 1 kd) 2 0) 3 0)) lo hi 32) := hD
  refine lv_istore_n hx hb dX2_add_8 rfl hl (by decide) rfl (fun ls hl => ?_)
  have hl : lv_has ls 3 [(2, .int (a j 0)), (0, .ref h), (1, .int kd)] := hl
  refine lv_iload_n hx hb dX2_add_9 rfl (lv_at hl 0 rfl) ?_
  refine lv_if_ne (tgt := 18) hx hb dX2_add_10 (by decide) (fun _ => ?_) (fun h => absurd h hnz)
  refine lv_iload_n hx hb dX2_add_18 rfl (lv_at hl 0 rfl) ?_
  have hP := hP.part (cx := [(h, .inr (2, [.ref rw, .ref pr, .int at_, .int bad, .int bh, .int tl, .long rl, .long rh, .int le, .int mo])), (pr, .inr (1, [.ref na, .int (nI (j + 1)), .int fi, .int gr, .long aq])), (na, .inl (G.2 4, 32, .inr (.inr (.inr (.inr (nf ad 32))))))]) [0, 1, 2] rfl
  have hD := hD.part (cx := [(h, .inr (2, [.ref rw, .ref pr, .int at_, .int bad, .int bh, .int tl, .long rl, .long rh, .int le, .int mo])), (pr, .inr (1, [.ref na, .int (nI (j + 1)), .int fi, .int gr, .long aq])), (na, .inl (G.2 4, 32, .inr (.inr (.inr (.inr (nf ad 32))))))]) [0, 1, 2] (by decide) rfl
  exact en_i F hS (a j 0) () (by rfl) rfl hP hD (by omega) (by omega) dX2_add_19

theorem dX2_isSequenceOver_0 : decode cX2_isSequenceOver 0 = .ok (.aload_n 0, 1) := by decide +kernel
theorem dX2_isSequenceOver_1 : decode cX2_isSequenceOver 1 = .ok (.getfield 40, 3) := by decide +kernel
theorem dX2_isSequenceOver_4 : decode cX2_isSequenceOver 4 = .ok (.aload_n 0, 1) := by decide +kernel
theorem dX2_isSequenceOver_5 : decode cX2_isSequenceOver 5 = .ok (.getfield 9, 3) := by decide +kernel
theorem dX2_isSequenceOver_8 : decode cX2_isSequenceOver 8 = .ok (.invokevirtual 43, 3) := by decide +kernel
theorem dX2_isSequenceOver_11 : decode cX2_isSequenceOver 11 = .ok (.if_icmp .ge 35, 3) := by decide +kernel
theorem dX2_isSequenceOver_46 : decode cX2_isSequenceOver 46 = .ok (.iconst 1, 1) := by decide +kernel
theorem dX2_isSequenceOver_47 : decode cX2_isSequenceOver 47 = .ok (.goto 4, 3) := by decide +kernel
theorem dX2_isSequenceOver_51 : decode cX2_isSequenceOver 51 = .ok (.ireturn, 1) := by decide +kernel
set_option maxHeartbeats 4000000 in
set_option maxRecDepth 100000 in
theorem c_rd_over (l : Launch) (G : PG) (h rw pr : Nat) (at_ bad bh tl le mo : Int32) (rl rh : Int64) (rc jr : Nat) (g : Nat → Int32) (hov : nI jr ≤ at_) : Ci l yX2_isSequenceOver (Cond.code yX2_isSequenceOver cX2_isSequenceOver 1 (some .boolean) :: aW) { frames := 1, cells := 0, slots := 0, locals := 20 } G [(h, .inr (2, [.ref rw, .ref pr, .int at_, .int bad, .int bh, .int tl, .long rl, .long rh, .int le, .int mo])), (rw, .inr (3, [.ref rc, .int (nI jr)])), (rc, .inl (G.2 2, 14, .inl g))] [.ref h] (S := Unit) (fun (r9 : Int32) (_ : Unit) => r9 = 1) (fun (_ : Unit) => [(h, .inr (2, [.ref rw, .ref pr, .int at_, .int bad, .int bh, .int tl, .long rl, .long rh, .int le, .int mo])), (rw, .inr (3, [.ref rc, .int (nI jr)])), (rc, .inl (G.2 2, 14, .inl g))]) 0 0 := by
  refine ofB (y := yX2_isSequenceOver) (G := G) (cc := cX2_isSequenceOver) (maxL := 1) (ret := (some .boolean)) (Qc := fun A => va_Qi (fun (r9 : Int32) (_ : Unit) => r9 = 1) (oB G A (fun (_ : Unit) => [(h, .inr (2, [.ref rw, .ref pr, .int at_, .int bad, .int bh, .int tl, .long rl, .long rh, .int le, .int mo])), (rw, .inr (3, [.ref rc, .int (nI jr)])), (rc, .inl (G.2 2, 14, .inl g))])) A) (by decide) rfl ?_
  intro p e s m below meth c A F hK hA hP hD
  have hx := F.1.1; have hb := F.1.2.1; have hml := F.1.2.2.1; have hts := F.1.2.2.2.2
  have hown : s.vm.findClass RX2 = some m.cls := F.1.2.2.2.1
  have hS : va_S A s.heap s.heap [] := va_S.rf
  have hl := lv_entry ([.ref h]) (n := 1) (Nat.le_of_ble_eq_true rfl)
  rw [lg_entry_eq]
  generalize (lg_sl ([.ref h]) ++ List.replicate (1 - (lg_sl ([.ref h])).length) Slot.unset).toArray = ls at hl ⊢
  have hl : lv_has ls 1 [(0, .ref h)] := hl
  refine lv_aload_n hx hb dX2_isSequenceOver_0 rfl (lv_at hl 0 rfl) ?_
  refine va_get (D := G.1) (ci := 2) (v := .int at_) (C := RX2) (T := TX2) (N := 10) hx hb hts inX2 hown hK.1 hP 0 rfl rfl 2 (by decide) (hts _ w_277) (fun _ h9 => h9) rfl dX2_isSequenceOver_1 ?_
  refine lv_aload_n hx hb dX2_isSequenceOver_4 rfl (lv_at hl 0 rfl) ?_
  refine va_get (D := G.1) (ci := 2) (v := .ref rw) (C := RX2) (T := TX2) (N := 10) hx hb hts inX2 hown hK.1 hP 0 rfl rfl 0 (by decide) (hts _ w_275) (fun _ h9 => h9) rfl dX2_isSequenceOver_5 ?_
  have hPc := hP.sub (ws' := [(rw, .inr (3, [.ref rc, .int (nI jr)])), (rc, .inl (G.2 2, 14, .inl g))]) [1, 2] rfl
  have hDc := hD.sub (ws' := [(rw, .inr (3, [.ref rc, .int (nI jr)])), (rc, .inl (G.2 2, 14, .inl g))]) [1, 2] (by decide) rfl
  have hqc : 0 + 0 ≤ 0 ∧ 0 + 0 ≤ 0 := ⟨by omega, by omega⟩
  refine kl_i (wr := [(h, .inr (2, [.ref rw, .ref pr, .int at_, .int bad, .int bh, .int tl, .long rl, .long rh, .int le, .int mo]))]) (va_runV (As := []) (rest := [.int at_]) F.1 (c_row_size l G _ _ _ _ _ _) (cwV 0 hts (aw_V w_334 w_258 w_259 w_3 w_260) rfl rfl rfl (by decide +kernel) ⟨by decide, by decide⟩) ⟨cS_blind, va_recv (q := (RX3, TX3, 2)) (ci := 3) (q0 := 0) hK.1 hPc rfl rfl, cS_pre hPc hDc hK⟩ rfl rfl hl.1 rfl (lv_room (Nat.le_of_ble_eq_true rfl)) dX2_isSequenceOver_8 hqc) hP hD hS hA [1, 2] [0] rfl rfl (by decide) (by decide) (fun r u H locs hp hP hD hS => ?_)
  subst hp
  have hP : va_P G.1 vwCl [(h, .inr (2, [.ref rw, .ref pr, .int at_, .int bad, .int bh, .int tl, .long rl, .long rh, .int le, .int mo])), (rw, .inr (3, [.ref rc, .int (nI jr)])), (rc, .inl (G.2 2, 14, .inl g))] H := hP
  have hD : va_D A [(h, .inr (2, [.ref rw, .ref pr, .int at_, .int bad, .int bh, .int tl, .long rl, .long rh, .int le, .int mo])), (rw, .inr (3, [.ref rc, .int (nI jr)])), (rc, .inl (G.2 2, 14, .inl g))] := hD
  refine lv_icmp_ge (tgt := 46) hx hb dX2_isSequenceOver_11 (by decide) (fun _ => ?_) (fun h => absurd hov h)
  refine lv_iconst (v := 1) hx hb dX2_isSequenceOver_46 (by decide) ?_
  refine lv_goto (tgt := 51) hx hb dX2_isSequenceOver_47 (by decide) ?_
  exact en_i F hS 1 () (by rfl) rfl hP hD (by omega) (by omega) dX2_isSequenceOver_51

theorem dX2_sequence_0 : decode cX2_sequence 0 = .ok (.aload_n 0, 1) := by decide +kernel
theorem dX2_sequence_1 : decode cX2_sequence 1 = .ok (.bipush 10, 2) := by decide +kernel
theorem dX2_sequence_3 : decode cX2_sequence 3 = .ok (.invokevirtual 24, 3) := by decide +kernel
theorem dX2_sequence_6 : decode cX2_sequence 6 = .ok (.istore_n 3, 1) := by decide +kernel
theorem dX2_sequence_7 : decode cX2_sequence 7 = .ok (.iload_n 3, 1) := by decide +kernel
theorem dX2_sequence_8 : decode cX2_sequence 8 = .ok (.istore 4, 2) := by decide +kernel
theorem dX2_sequence_10 : decode cX2_sequence 10 = .ok (.iconst 0, 1) := by decide +kernel
theorem dX2_sequence_11 : decode cX2_sequence 11 = .ok (.istore 5, 2) := by decide +kernel
theorem dX2_sequence_13 : decode cX2_sequence 13 = .ok (.iload 5, 2) := by decide +kernel
theorem dX2_sequence_15 : decode cX2_sequence 15 = .ok (.bipush 14, 2) := by decide +kernel
theorem dX2_sequence_17 : decode cX2_sequence 17 = .ok (.if_icmp .ge 46, 3) := by decide +kernel
theorem dX2_sequence_20 : decode cX2_sequence 20 = .ok (.aload_n 0, 1) := by decide +kernel
theorem dX2_sequence_21 : decode cX2_sequence 21 = .ok (.getfield 36, 3) := by decide +kernel
theorem dX2_sequence_24 : decode cX2_sequence 24 = .ok (.ifCond .ne 39, 3) := by decide +kernel
theorem dX2_sequence_27 : decode cX2_sequence 27 = .ok (.aload_n 0, 1) := by decide +kernel
theorem dX2_sequence_28 : decode cX2_sequence 28 = .ok (.invokevirtual 64, 3) := by decide +kernel
theorem dX2_sequence_31 : decode cX2_sequence 31 = .ok (.ifCond .ne 32, 3) := by decide +kernel
theorem dX2_sequence_63 : decode cX2_sequence 63 = .ok (.aload_n 0, 1) := by decide +kernel
theorem dX2_sequence_64 : decode cX2_sequence 64 = .ok (.getfield 15, 3) := by decide +kernel
theorem dX2_sequence_67 : decode cX2_sequence 67 = .ok (.iload 4, 2) := by decide +kernel
theorem dX2_sequence_69 : decode cX2_sequence 69 = .ok (.invokevirtual 55, 3) := by decide +kernel
theorem dX2_sequence_72 : decode cX2_sequence 72 = .ok (.iload_n 1, 1) := by decide +kernel
theorem dX2_sequence_73 : decode cX2_sequence 73 = .ok (.putfield 71, 3) := by decide +kernel
theorem dX2_sequence_76 : decode cX2_sequence 76 = .ok (.iload_n 3, 1) := by decide +kernel
theorem dX2_sequence_77 : decode cX2_sequence 77 = .ok (.ireturn, 1) := by decide +kernel
set_option maxHeartbeats 4000000 in
set_option maxRecDepth 100000 in
theorem c_rd_seq0 (l : Launch) (G : PG) (h rw pr : Nat) (at_ bh tl le mo : Int32) (rl rh : Int64) (rc jr : Nat) (g : Nat → Int32) (na j : Nat) (fi gr : Int32) (aq : Int64) (ad : Nat → Nat) (a : Nat → Nat → Int32) (lo hi : Nat → Int64) (ex dp : Int32) (hov : nI jr ≤ at_) (hj : j < 32) (h0 : 0 < j) (hnum : a j 0 = nI j) : Ci l yX2_sequence (Cond.code yX2_sequence cX2_sequence 6 (some .int) :: aW) { frames := 2, cells := 0, slots := 0, locals := 44 } G (([(h, .inr (2, [.ref rw, .ref pr, .int at_, .int 0, .int bh, .int tl, .long rl, .long rh, .int le, .int mo])), (rw, .inr (3, [.ref rc, .int (nI jr)])), (rc, .inl (G.2 2, 14, .inl g)), (pr, .inr (1, [.ref na, .int (nI j), .int fi, .int gr, .long aq])), (na, .inl (G.2 4, 32, .inr (.inr (.inr (.inr (nf ad 32))))))] : va_W) ++ np ad a lo hi 32) [.ref h, .int ex, .int dp] (S := Unit) (fun (r9 : Int32) (_ : Unit) => r9 = nI j) (fun (_ : Unit) => (([(h, .inr (2, [.ref rw, .ref pr, .int at_, .int 0, .int bh, .int tl, .long rl, .long rh, .int le, .int mo])), (rw, .inr (3, [.ref rc, .int (nI jr)])), (rc, .inl (G.2 2, 14, .inl g)), (pr, .inr (1, [.ref na, .int (nI (j + 1)), .int fi, .int gr, .long aq])), (na, .inl (G.2 4, 32, .inr (.inr (.inr (.inr (nf ad 32))))))] : va_W) ++ np ad (va_up a j (upd (upd (upd (upd (a j) 1 10) 2 0) 3 0) 2 ex)) lo hi 32)) 0 0 := by
  refine ofB (y := yX2_sequence) (G := G) (cc := cX2_sequence) (maxL := 6) (ret := (some .int)) (Qc := fun A => va_Qi (fun (r9 : Int32) (_ : Unit) => r9 = nI j) (oB G A (fun (_ : Unit) => (([(h, .inr (2, [.ref rw, .ref pr, .int at_, .int 0, .int bh, .int tl, .long rl, .long rh, .int le, .int mo])), (rw, .inr (3, [.ref rc, .int (nI jr)])), (rc, .inl (G.2 2, 14, .inl g)), (pr, .inr (1, [.ref na, .int (nI (j + 1)), .int fi, .int gr, .long aq])), (na, .inl (G.2 4, 32, .inr (.inr (.inr (.inr (nf ad 32))))))] : va_W) ++ np ad (va_up a j (upd (upd (upd (upd (a j) 1 10) 2 0) 3 0) 2 ex)) lo hi 32))) A) (by decide) rfl ?_
  intro p e s m below meth c A F hK hA hP hD
  have hx := F.1.1; have hb := F.1.2.1; have hml := F.1.2.2.1; have hts := F.1.2.2.2.2
  have hown : s.vm.findClass RX2 = some m.cls := F.1.2.2.2.1
  have hS : va_S A s.heap s.heap [] := va_S.rf
  have hl := lv_entry ([.ref h, .int ex, .int dp]) (n := 6) (Nat.le_of_ble_eq_true rfl)
  rw [lg_entry_eq]
  generalize (lg_sl ([.ref h, .int ex, .int dp]) ++ List.replicate (6 - (lg_sl ([.ref h, .int ex, .int dp])).length) Slot.unset).toArray = ls at hl ⊢
  have hl : lv_has ls 6 [(0, .ref h), (1, .int ex), (2, .int dp)] := hl
  refine lv_aload_n hx hb dX2_sequence_0 rfl (lv_at hl 0 rfl) ?_
  refine lv_bipush (v := 10) hx hb dX2_sequence_1 (by decide) ?_
  have hPc := hP.part (cx := [(h, .inr (2, [.ref rw, .ref pr, .int at_, .int 0, .int bh, .int tl, .long rl, .long rh, .int le, .int mo])), (pr, .inr (1, [.ref na, .int (nI j), .int fi, .int gr, .long aq])), (na, .inl (G.2 4, 32, .inr (.inr (.inr (.inr (nf ad 32))))))]) [0, 3, 4] rfl
  have hDc := hD.part (cx := [(h, .inr (2, [.ref rw, .ref pr, .int at_, .int 0, .int bh, .int tl, .long rl, .long rh, .int le, .int mo])), (pr, .inr (1, [.ref na, .int (nI j), .int fi, .int gr, .long aq])), (na, .inl (G.2 4, 32, .inr (.inr (.inr (.inr (nf ad 32))))))]) [0, 3, 4] (by decide) rfl
  have hqc : 0 + 0 ≤ 0 ∧ 0 + 0 ≤ 0 := ⟨by omega, by omega⟩
  refine kl_iP (wr := [(rw, .inr (3, [.ref rc, .int (nI jr)])), (rc, .inl (G.2 2, 14, .inl g))]) (va_runV (As := [.int 10]) (rest := []) F.1 (c_rd_add l G _ _ _ _ 0 _ _ _ _ _ _ _ j _ _ _ ad a lo hi 10 hj (by rw [hnum]; exact nI_ne0 h0 (by omega)) _) (cwV 1 hts (aw_V w_314 w_316 ws_X2_add w_7 w_317) rfl rfl rfl (by decide +kernel) ⟨by decide, by decide⟩) ⟨cS_blind, va_recv (q := (RX2, TX2, 10)) (ci := 2) (q0 := 0) hK.1 hPc rfl rfl, cS_pre hPc hDc hK⟩ rfl rfl hl.1 rfl (lv_room (Nat.le_of_ble_eq_true rfl)) dX2_sequence_3 hqc) hP hD hS hA [0, 3, 4] [1, 2] rfl rfl (by decide) (by decide) (fun r u H locs hp hP hD hS => ?_)
  rw [hnum] at hp
  subst hp
  have hP : va_P G.1 vwCl (([(rw, .inr (3, [.ref rc, .int (nI jr)])), (rc, .inl (G.2 2, 14, .inl g)), (h, .inr (2, [.ref rw, .ref pr, .int at_, .int 0, .int bh, .int tl, .long rl, .long rh, .int le, .int mo])), (pr, .inr (1, [.ref na, .int (nI (j + 1)), .int fi, .int gr, .long aq])), (na, .inl (G.2 4, 32, .inr (.inr (.inr (.inr (nf ad 32))))))] : va_W) ++ np ad (va_up a j (upd (upd (upd (a j) 1 10) 2 0) 3 0)) lo hi 32) H := hP
  have hD : va_D A (([(rw, .inr (3, [.ref rc, .int (nI jr)])), (rc, .inl (G.2 2, 14, .inl g)), (h, .inr (2, [.ref rw, .ref pr, .int at_, .int 0, .int bh, .int tl, .long rl, .long rh, .int le, .int mo])), (pr, .inr (1, [.ref na, .int (nI (j + 1)), .int fi, .int gr, .long aq])), (na, .inl (G.2 4, 32, .inr (.inr (.inr (.inr (nf ad 32))))))] : va_W) ++ np ad (va_up a j (upd (upd (upd (a j) 1 10) 2 0) 3 0)) lo hi 32) := hD
  refine lv_istore_n hx hb dX2_sequence_6 rfl hl (by decide) rfl (fun ls hl => ?_)
  have hl : lv_has ls 6 [(3, .int (nI j)), (0, .ref h), (1, .int ex), (2, .int dp)] := hl
  refine lv_iload_n hx hb dX2_sequence_7 rfl (lv_at hl 0 rfl) ?_
  refine lv_istore hx hb dX2_sequence_8 hl (by decide) rfl (fun ls hl => ?_)
  have hl : lv_has ls 6 [(4, .int (nI j)), (3, .int (nI j)), (0, .ref h), (1, .int ex), (2, .int dp)] := hl
  refine lv_iconst (v := 0) hx hb dX2_sequence_10 (by decide) ?_
  refine lv_istore hx hb dX2_sequence_11 hl (by decide) rfl (fun ls hl => ?_)
  have hl : lv_has ls 6 [(5, .int 0), (4, .int (nI j)), (3, .int (nI j)), (0, .ref h), (1, .int ex), (2, .int dp)] := hl
  refine lv_iload hx hb dX2_sequence_13 (lv_at hl 0 rfl) ?_
  refine lv_bipush (v := 14) hx hb dX2_sequence_15 (by decide) ?_
  refine lv_icmp_ge (tgt := 63) hx hb dX2_sequence_17 (by decide) (fun h => absurd h (by decide : ¬ (14 : Int32) ≤ 0)) (fun _ => ?_)
  refine lv_aload_n hx hb dX2_sequence_20 rfl (lv_at hl 3 rfl) ?_
  refine va_get (D := G.1) (ci := 2) (v := .int 0) (C := RX2) (T := TX2) (N := 10) hx hb hts inX2 hown hK.1 hP 2 rfl rfl 3 (by decide) (hts _ w_278) (fun _ h9 => h9) rfl dX2_sequence_21 ?_
  refine lv_if_ne (tgt := 63) hx hb dX2_sequence_24 (by decide) (fun h => absurd rfl h) (fun _ => ?_)
  refine lv_aload_n hx hb dX2_sequence_27 rfl (lv_at hl 3 rfl) ?_
  have hPc := hP.sub (ws' := [(h, .inr (2, [.ref rw, .ref pr, .int at_, .int 0, .int bh, .int tl, .long rl, .long rh, .int le, .int mo])), (rw, .inr (3, [.ref rc, .int (nI jr)])), (rc, .inl (G.2 2, 14, .inl g))]) [2, 0, 1] rfl
  have hDc := hD.sub (ws' := [(h, .inr (2, [.ref rw, .ref pr, .int at_, .int 0, .int bh, .int tl, .long rl, .long rh, .int le, .int mo])), (rw, .inr (3, [.ref rc, .int (nI jr)])), (rc, .inl (G.2 2, 14, .inl g))]) [2, 0, 1] (by decide) rfl
  have hqc : 0 + 0 ≤ 0 ∧ 0 + 0 ≤ 0 := ⟨by omega, by omega⟩
  refine kl_iQ (wr := [(pr, .inr (1, [.ref na, .int (nI (j + 1)), .int fi, .int gr, .long aq])), (na, .inl (G.2 4, 32, .inr (.inr (.inr (.inr (nf ad 32))))))]) (va_runV (As := []) (rest := []) F.1 (c_rd_over l G _ _ _ _ _ _ _ _ _ _ _ _ _ _ hov _) (cwV 0 hts (aw_V w_330 w_332 ws_X2_isSequenceOver w_7 w_333) rfl rfl rfl (by decide +kernel) ⟨by decide, by decide⟩) ⟨cS_blind, va_recv (q := (RX2, TX2, 10)) (ci := 2) (q0 := 0) hK.1 hPc rfl rfl, cS_pre hPc hDc hK⟩ rfl rfl hl.1 rfl (lv_room (Nat.le_of_ble_eq_true rfl)) dX2_sequence_28 hqc) hP hD hS hA [2, 0, 1] [3, 4] rfl rfl (by decide) (by decide) (fun r u H locs hp hP hD hS => ?_)
  subst hp
  have hP : va_P G.1 vwCl (([(pr, .inr (1, [.ref na, .int (nI (j + 1)), .int fi, .int gr, .long aq])), (na, .inl (G.2 4, 32, .inr (.inr (.inr (.inr (nf ad 32)))))), (h, .inr (2, [.ref rw, .ref pr, .int at_, .int 0, .int bh, .int tl, .long rl, .long rh, .int le, .int mo])), (rw, .inr (3, [.ref rc, .int (nI jr)])), (rc, .inl (G.2 2, 14, .inl g))] : va_W) ++ np ad (va_up a j (upd (upd (upd (a j) 1 10) 2 0) 3 0)) lo hi 32) H := hP
  have hD : va_D A (([(pr, .inr (1, [.ref na, .int (nI (j + 1)), .int fi, .int gr, .long aq])), (na, .inl (G.2 4, 32, .inr (.inr (.inr (.inr (nf ad 32)))))), (h, .inr (2, [.ref rw, .ref pr, .int at_, .int 0, .int bh, .int tl, .long rl, .long rh, .int le, .int mo])), (rw, .inr (3, [.ref rc, .int (nI jr)])), (rc, .inl (G.2 2, 14, .inl g))] : va_W) ++ np ad (va_up a j (upd (upd (upd (a j) 1 10) 2 0) 3 0)) lo hi 32) := hD
  refine lv_if_ne (tgt := 63) hx hb dX2_sequence_31 (by decide) (fun _ => ?_) (fun h => absurd h (by decide : ¬ (1 : Int32) = 0))
  refine lv_aload_n hx hb dX2_sequence_63 rfl (lv_at hl 3 rfl) ?_
  refine va_get (D := G.1) (ci := 2) (v := .ref pr) (C := RX2) (T := TX2) (N := 10) hx hb hts inX2 hown hK.1 hP 2 rfl rfl 1 (by decide) (hts _ w_276) (fun _ h9 => h9) rfl dX2_sequence_64 ?_
  refine lv_iload hx hb dX2_sequence_67 (lv_at hl 1 rfl) ?_
  have hPc := hP.part (cx := [(pr, .inr (1, [.ref na, .int (nI (j + 1)), .int fi, .int gr, .long aq])), (na, .inl (G.2 4, 32, .inr (.inr (.inr (.inr (nf ad 32))))))]) [0, 1] rfl
  have hDc := hD.part (cx := [(pr, .inr (1, [.ref na, .int (nI (j + 1)), .int fi, .int gr, .long aq])), (na, .inl (G.2 4, 32, .inr (.inr (.inr (.inr (nf ad 32))))))]) [0, 1] (by decide) rfl
  have hqc : 0 + 0 ≤ 0 ∧ 0 + 0 ≤ 0 := ⟨by omega, by omega⟩
  refine kl_rP (wr := [(h, .inr (2, [.ref rw, .ref pr, .int at_, .int 0, .int bh, .int tl, .long rl, .long rh, .int le, .int mo])), (rw, .inr (3, [.ref rc, .int (nI jr)])), (rc, .inl (G.2 2, 14, .inl g))]) (va_runV (As := [.int (nI j)]) (rest := []) F.1 (c_prog_node l G _ _ (j + 1) _ _ _ ad _ lo hi (nI j) (by omega) (by omega) _) (cwV 1 hts (aw_V w_339 w_340 w_341 w_4 w_342) rfl rfl rfl (by decide +kernel) ⟨by decide, by decide⟩) ⟨cS_blind, va_recv (q := (RX1, TX1, 5)) (ci := 1) (q0 := 0) hK.1 hPc rfl rfl, cS_pre hPc hDc hK⟩ rfl rfl hl.1 rfl (lv_room (Nat.le_of_ble_eq_true rfl)) dX2_sequence_69 hqc) hP hD hS hA [0, 1] [2, 3, 4] rfl rfl (by decide) (by decide) (fun u ra H locs hp ha hP hD hS => ?_)
  rw [pn_self (by omega)] at ha
  subst ha
  have hP : va_P G.1 vwCl (([(h, .inr (2, [.ref rw, .ref pr, .int at_, .int 0, .int bh, .int tl, .long rl, .long rh, .int le, .int mo])), (rw, .inr (3, [.ref rc, .int (nI jr)])), (rc, .inl (G.2 2, 14, .inl g)), (pr, .inr (1, [.ref na, .int (nI (j + 1)), .int fi, .int gr, .long aq])), (na, .inl (G.2 4, 32, .inr (.inr (.inr (.inr (nf ad 32))))))] : va_W) ++ np ad (va_up a j (upd (upd (upd (a j) 1 10) 2 0) 3 0)) lo hi 32) H := hP
  have hD : va_D A (([(h, .inr (2, [.ref rw, .ref pr, .int at_, .int 0, .int bh, .int tl, .long rl, .long rh, .int le, .int mo])), (rw, .inr (3, [.ref rc, .int (nI jr)])), (rc, .inl (G.2 2, 14, .inl g)), (pr, .inr (1, [.ref na, .int (nI (j + 1)), .int fi, .int gr, .long aq])), (na, .inl (G.2 4, 32, .inr (.inr (.inr (.inr (nf ad 32))))))] : va_W) ++ np ad (va_up a j (upd (upd (upd (a j) 1 10) 2 0) 3 0)) lo hi 32) := hD
  refine lv_iload_n hx hb dX2_sequence_72 rfl (lv_at hl 4 rfl) ?_
  refine va_putN (D := G.1) (ci := 0) (v := .int ex) (ty := .int) (C := RX0) (T := TX0) (N := 13) hx hb hts inX0 tyX0 tyX0_ok nmX0 hown hK.1 hP hD hS (5 + j) (np_at 5 rfl hj (va_up_self _ _ _)) rfl 2 (by decide) (hK.2.1.use w_67) (fun _ h9 => h9) rfl (by decide +kernel) rfl rfl (Nat.le_of_ble_eq_true rfl) dX2_sequence_73 (fun H locs hP hD hS => ?_)
  have hP : va_P G.1 vwCl ((([(h, .inr (2, [.ref rw, .ref pr, .int at_, .int 0, .int bh, .int tl, .long rl, .long rh, .int le, .int mo])), (rw, .inr (3, [.ref rc, .int (nI jr)])), (rc, .inl (G.2 2, 14, .inl g)), (pr, .inr (1, [.ref na, .int (nI (j + 1)), .int fi, .int gr, .long aq])), (na, .inl (G.2 4, 32, .inr (.inr (.inr (.inr (nf ad 32))))))] : va_W) ++ np ad (va_up a j (upd (upd (upd (a j) 1 10) 2 0) 3 0)) lo hi 32).set (5 + j) (ad j, .inr (0, ndF (upd (upd (upd (upd (a j) 1 10) 2 0) 3 0) 2 ex) (lo j) (hi j)))) H := hP
  have hD : va_D A ((([(h, .inr (2, [.ref rw, .ref pr, .int at_, .int 0, .int bh, .int tl, .long rl, .long rh, .int le, .int mo])), (rw, .inr (3, [.ref rc, .int (nI jr)])), (rc, .inl (G.2 2, 14, .inl g)), (pr, .inr (1, [.ref na, .int (nI (j + 1)), .int fi, .int gr, .long aq])), (na, .inl (G.2 4, 32, .inr (.inr (.inr (.inr (nf ad 32))))))] : va_W) ++ np ad (va_up a j (upd (upd (upd (a j) 1 10) 2 0) 3 0)) lo hi 32).set (5 + j) (ad j, .inr (0, ndF (upd (upd (upd (upd (a j) 1 10) 2 0) 3 0) 2 ex) (lo j) (hi j)))) := hD
  rw [np_up 5 rfl hj, bx_uu] at hP hD
  have hP : va_P G.1 vwCl (([(h, .inr (2, [.ref rw, .ref pr, .int at_, .int 0, .int bh, .int tl, .long rl, .long rh, .int le, .int mo])), (rw, .inr (3, [.ref rc, .int (nI jr)])), (rc, .inl (G.2 2, 14, .inl g)), (pr, .inr (1, [.ref na, .int (nI (j + 1)), .int fi, .int gr, .long aq])), (na, .inl (G.2 4, 32, .inr (.inr (.inr (.inr (nf ad 32))))))] : va_W) ++ np ad (va_up a j (upd (upd (upd (upd (a j) 1 10) 2 0) 3 0) 2 ex)) lo hi 32) H := hP
  have hD : va_D A (([(h, .inr (2, [.ref rw, .ref pr, .int at_, .int 0, .int bh, .int tl, .long rl, .long rh, .int le, .int mo])), (rw, .inr (3, [.ref rc, .int (nI jr)])), (rc, .inl (G.2 2, 14, .inl g)), (pr, .inr (1, [.ref na, .int (nI (j + 1)), .int fi, .int gr, .long aq])), (na, .inl (G.2 4, 32, .inr (.inr (.inr (.inr (nf ad 32))))))] : va_W) ++ np ad (va_up a j (upd (upd (upd (upd (a j) 1 10) 2 0) 3 0) 2 ex)) lo hi 32) := hD
  refine lv_iload_n hx hb dX2_sequence_76 rfl (lv_at hl 2 rfl) ?_
  have hP := hP.part (cx := [(h, .inr (2, [.ref rw, .ref pr, .int at_, .int 0, .int bh, .int tl, .long rl, .long rh, .int le, .int mo])), (rw, .inr (3, [.ref rc, .int (nI jr)])), (rc, .inl (G.2 2, 14, .inl g)), (pr, .inr (1, [.ref na, .int (nI (j + 1)), .int fi, .int gr, .long aq])), (na, .inl (G.2 4, 32, .inr (.inr (.inr (.inr (nf ad 32))))))]) [0, 1, 2, 3, 4] rfl
  have hD := hD.part (cx := [(h, .inr (2, [.ref rw, .ref pr, .int at_, .int 0, .int bh, .int tl, .long rl, .long rh, .int le, .int mo])), (rw, .inr (3, [.ref rc, .int (nI jr)])), (rc, .inl (G.2 2, 14, .inl g)), (pr, .inr (1, [.ref na, .int (nI (j + 1)), .int fi, .int gr, .long aq])), (na, .inl (G.2 4, 32, .inr (.inr (.inr (.inr (nf ad 32))))))]) [0, 1, 2, 3, 4] (by decide) rfl
  exact en_i F hS (nI j) () (by rfl) rfl hP hD (by omega) (by omega) dX2_sequence_77

theorem dX2_choice_0 : decode cX2_choice 0 = .ok (.aload_n 0, 1) := by decide +kernel
theorem dX2_choice_1 : decode cX2_choice 1 = .ok (.iload_n 1, 1) := by decide +kernel
theorem dX2_choice_2 : decode cX2_choice 2 = .ok (.iload_n 2, 1) := by decide +kernel
theorem dX2_choice_3 : decode cX2_choice 3 = .ok (.invokevirtual 49, 3) := by decide +kernel
theorem dX2_choice_6 : decode cX2_choice 6 = .ok (.istore_n 3, 1) := by decide +kernel
theorem dX2_choice_7 : decode cX2_choice 7 = .ok (.iload_n 3, 1) := by decide +kernel
theorem dX2_choice_8 : decode cX2_choice 8 = .ok (.istore 4, 2) := by decide +kernel
theorem dX2_choice_10 : decode cX2_choice 10 = .ok (.iconst 0, 1) := by decide +kernel
theorem dX2_choice_11 : decode cX2_choice 11 = .ok (.istore 5, 2) := by decide +kernel
theorem dX2_choice_13 : decode cX2_choice 13 = .ok (.iload 5, 2) := by decide +kernel
theorem dX2_choice_15 : decode cX2_choice 15 = .ok (.bipush 14, 2) := by decide +kernel
theorem dX2_choice_17 : decode cX2_choice 17 = .ok (.if_icmp .ge 68, 3) := by decide +kernel
theorem dX2_choice_20 : decode cX2_choice 20 = .ok (.aload_n 0, 1) := by decide +kernel
theorem dX2_choice_21 : decode cX2_choice 21 = .ok (.getfield 36, 3) := by decide +kernel
theorem dX2_choice_24 : decode cX2_choice 24 = .ok (.ifCond .ne 61, 3) := by decide +kernel
theorem dX2_choice_27 : decode cX2_choice 27 = .ok (.aload_n 0, 1) := by decide +kernel
theorem dX2_choice_28 : decode cX2_choice 28 = .ok (.getfield 9, 3) := by decide +kernel
theorem dX2_choice_31 : decode cX2_choice 31 = .ok (.aload_n 0, 1) := by decide +kernel
theorem dX2_choice_32 : decode cX2_choice 32 = .ok (.getfield 40, 3) := by decide +kernel
theorem dX2_choice_35 : decode cX2_choice 35 = .ok (.invokevirtual 52, 3) := by decide +kernel
theorem dX2_choice_38 : decode cX2_choice 38 = .ok (.bipush 124, 2) := by decide +kernel
theorem dX2_choice_40 : decode cX2_choice 40 = .ok (.if_icmp .ne 45, 3) := by decide +kernel
theorem dX2_choice_85 : decode cX2_choice 85 = .ok (.iload_n 3, 1) := by decide +kernel
theorem dX2_choice_86 : decode cX2_choice 86 = .ok (.ireturn, 1) := by decide +kernel
set_option maxHeartbeats 4000000 in
set_option maxRecDepth 100000 in
theorem c_rd_choice0 (l : Launch) (G : PG) (h rw pr : Nat) (at_ bh tl le mo : Int32) (rl rh : Int64) (rc jr : Nat) (g : Nat → Int32) (na j : Nat) (fi gr : Int32) (aq : Int64) (ad : Nat → Nat) (a : Nat → Nat → Int32) (lo hi : Nat → Int64) (ex dp : Int32) (hov : nI jr ≤ at_) (hjr : jr ≤ 14) (hg : ∀ k, narrow .char (.int (g k)) = .int (g k)) (hj : j < 32) (h0 : 0 < j) (hnum : a j 0 = nI j) : Ci l yX2_choice (Cond.code yX2_choice cX2_choice 7 (some .int) :: aW) { frames := 3, cells := 0, slots := 0, locals := 69 } G (([(h, .inr (2, [.ref rw, .ref pr, .int at_, .int 0, .int bh, .int tl, .long rl, .long rh, .int le, .int mo])), (rw, .inr (3, [.ref rc, .int (nI jr)])), (rc, .inl (G.2 2, 14, .inl g)), (pr, .inr (1, [.ref na, .int (nI j), .int fi, .int gr, .long aq])), (na, .inl (G.2 4, 32, .inr (.inr (.inr (.inr (nf ad 32))))))] : va_W) ++ np ad a lo hi 32) [.ref h, .int ex, .int dp] (S := Unit) (fun (r9 : Int32) (_ : Unit) => r9 = nI j) (fun (_ : Unit) => (([(h, .inr (2, [.ref rw, .ref pr, .int at_, .int 0, .int bh, .int tl, .long rl, .long rh, .int le, .int mo])), (rw, .inr (3, [.ref rc, .int (nI jr)])), (rc, .inl (G.2 2, 14, .inl g)), (pr, .inr (1, [.ref na, .int (nI (j + 1)), .int fi, .int gr, .long aq])), (na, .inl (G.2 4, 32, .inr (.inr (.inr (.inr (nf ad 32))))))] : va_W) ++ np ad (va_up a j (upd (upd (upd (upd (a j) 1 10) 2 0) 3 0) 2 ex)) lo hi 32)) 0 0 := by
  refine ofB (y := yX2_choice) (G := G) (cc := cX2_choice) (maxL := 7) (ret := (some .int)) (Qc := fun A => va_Qi (fun (r9 : Int32) (_ : Unit) => r9 = nI j) (oB G A (fun (_ : Unit) => (([(h, .inr (2, [.ref rw, .ref pr, .int at_, .int 0, .int bh, .int tl, .long rl, .long rh, .int le, .int mo])), (rw, .inr (3, [.ref rc, .int (nI jr)])), (rc, .inl (G.2 2, 14, .inl g)), (pr, .inr (1, [.ref na, .int (nI (j + 1)), .int fi, .int gr, .long aq])), (na, .inl (G.2 4, 32, .inr (.inr (.inr (.inr (nf ad 32))))))] : va_W) ++ np ad (va_up a j (upd (upd (upd (upd (a j) 1 10) 2 0) 3 0) 2 ex)) lo hi 32))) A) (by decide) rfl ?_
  intro p e s m below meth c A F hK hA hP hD
  have hx := F.1.1; have hb := F.1.2.1; have hml := F.1.2.2.1; have hts := F.1.2.2.2.2
  have hown : s.vm.findClass RX2 = some m.cls := F.1.2.2.2.1
  have hS : va_S A s.heap s.heap [] := va_S.rf
  have hl := lv_entry ([.ref h, .int ex, .int dp]) (n := 7) (Nat.le_of_ble_eq_true rfl)
  rw [lg_entry_eq]
  generalize (lg_sl ([.ref h, .int ex, .int dp]) ++ List.replicate (7 - (lg_sl ([.ref h, .int ex, .int dp])).length) Slot.unset).toArray = ls at hl ⊢
  have hl : lv_has ls 7 [(0, .ref h), (1, .int ex), (2, .int dp)] := hl
  refine lv_aload_n hx hb dX2_choice_0 rfl (lv_at hl 0 rfl) ?_
  refine lv_iload_n hx hb dX2_choice_1 rfl (lv_at hl 1 rfl) ?_
  refine lv_iload_n hx hb dX2_choice_2 rfl (lv_at hl 2 rfl) ?_
  have hPc := hP.part (cx := [(h, .inr (2, [.ref rw, .ref pr, .int at_, .int 0, .int bh, .int tl, .long rl, .long rh, .int le, .int mo])), (rw, .inr (3, [.ref rc, .int (nI jr)])), (rc, .inl (G.2 2, 14, .inl g)), (pr, .inr (1, [.ref na, .int (nI j), .int fi, .int gr, .long aq])), (na, .inl (G.2 4, 32, .inr (.inr (.inr (.inr (nf ad 32))))))]) [0, 1, 2, 3, 4] rfl
  have hDc := hD.part (cx := [(h, .inr (2, [.ref rw, .ref pr, .int at_, .int 0, .int bh, .int tl, .long rl, .long rh, .int le, .int mo])), (rw, .inr (3, [.ref rc, .int (nI jr)])), (rc, .inl (G.2 2, 14, .inl g)), (pr, .inr (1, [.ref na, .int (nI j), .int fi, .int gr, .long aq])), (na, .inl (G.2 4, 32, .inr (.inr (.inr (.inr (nf ad 32))))))]) [0, 1, 2, 3, 4] (by decide) rfl
  have hqc : 0 + 0 ≤ 0 ∧ 0 + 0 ≤ 0 := ⟨by omega, by omega⟩
  refine kl_iP (wr := []) (va_runV (As := [.int ex, .int dp]) (rest := []) F.1 (c_rd_seq0 l G _ _ _ _ _ _ _ _ _ _ _ _ _ _ j _ _ _ ad a lo hi ex dp hov hj h0 hnum _) (cwV 2 hts (aw_V w_326 w_328 ws_X2_sequence w_7 w_329) rfl rfl rfl (by decide +kernel) ⟨by decide, by decide⟩) ⟨cS_blind, va_recv (q := (RX2, TX2, 10)) (ci := 2) (q0 := 0) hK.1 hPc rfl rfl, cS_pre hPc hDc hK⟩ rfl rfl hl.1 rfl (lv_room (Nat.le_of_ble_eq_true rfl)) dX2_choice_3 hqc) hP hD hS hA [0, 1, 2, 3, 4] [] rfl rfl (by decide) (by decide) (fun r u H locs hp hP hD hS => ?_)
  subst hp
  have hP : va_P G.1 vwCl (([(h, .inr (2, [.ref rw, .ref pr, .int at_, .int 0, .int bh, .int tl, .long rl, .long rh, .int le, .int mo])), (rw, .inr (3, [.ref rc, .int (nI jr)])), (rc, .inl (G.2 2, 14, .inl g)), (pr, .inr (1, [.ref na, .int (nI (j + 1)), .int fi, .int gr, .long aq])), (na, .inl (G.2 4, 32, .inr (.inr (.inr (.inr (nf ad 32))))))] : va_W) ++ np ad (va_up a j (upd (upd (upd (upd (a j) 1 10) 2 0) 3 0) 2 ex)) lo hi 32) H := hP
  have hD : va_D A (([(h, .inr (2, [.ref rw, .ref pr, .int at_, .int 0, .int bh, .int tl, .long rl, .long rh, .int le, .int mo])), (rw, .inr (3, [.ref rc, .int (nI jr)])), (rc, .inl (G.2 2, 14, .inl g)), (pr, .inr (1, [.ref na, .int (nI (j + 1)), .int fi, .int gr, .long aq])), (na, .inl (G.2 4, 32, .inr (.inr (.inr (.inr (nf ad 32))))))] : va_W) ++ np ad (va_up a j (upd (upd (upd (upd (a j) 1 10) 2 0) 3 0) 2 ex)) lo hi 32) := hD
  refine lv_istore_n hx hb dX2_choice_6 rfl hl (by decide) rfl (fun ls hl => ?_)
  have hl : lv_has ls 7 [(3, .int (nI j)), (0, .ref h), (1, .int ex), (2, .int dp)] := hl
  refine lv_iload_n hx hb dX2_choice_7 rfl (lv_at hl 0 rfl) ?_
  refine lv_istore hx hb dX2_choice_8 hl (by decide) rfl (fun ls hl => ?_)
  have hl : lv_has ls 7 [(4, .int (nI j)), (3, .int (nI j)), (0, .ref h), (1, .int ex), (2, .int dp)] := hl
  refine lv_iconst (v := 0) hx hb dX2_choice_10 (by decide) ?_
  refine lv_istore hx hb dX2_choice_11 hl (by decide) rfl (fun ls hl => ?_)
  have hl : lv_has ls 7 [(5, .int 0), (4, .int (nI j)), (3, .int (nI j)), (0, .ref h), (1, .int ex), (2, .int dp)] := hl
  refine lv_iload hx hb dX2_choice_13 (lv_at hl 0 rfl) ?_
  refine lv_bipush (v := 14) hx hb dX2_choice_15 (by decide) ?_
  refine lv_icmp_ge (tgt := 85) hx hb dX2_choice_17 (by decide) (fun h => absurd h (by decide : ¬ (14 : Int32) ≤ 0)) (fun _ => ?_)
  refine lv_aload_n hx hb dX2_choice_20 rfl (lv_at hl 3 rfl) ?_
  refine va_get (D := G.1) (ci := 2) (v := .int 0) (C := RX2) (T := TX2) (N := 10) hx hb hts inX2 hown hK.1 hP 0 rfl rfl 3 (by decide) (hts _ w_278) (fun _ h9 => h9) rfl dX2_choice_21 ?_
  refine lv_if_ne (tgt := 85) hx hb dX2_choice_24 (by decide) (fun h => absurd rfl h) (fun _ => ?_)
  refine lv_aload_n hx hb dX2_choice_27 rfl (lv_at hl 3 rfl) ?_
  refine va_get (D := G.1) (ci := 2) (v := .ref rw) (C := RX2) (T := TX2) (N := 10) hx hb hts inX2 hown hK.1 hP 0 rfl rfl 0 (by decide) (hts _ w_275) (fun _ h9 => h9) rfl dX2_choice_28 ?_
  refine lv_aload_n hx hb dX2_choice_31 rfl (lv_at hl 3 rfl) ?_
  refine va_get (D := G.1) (ci := 2) (v := .int at_) (C := RX2) (T := TX2) (N := 10) hx hb hts inX2 hown hK.1 hP 0 rfl rfl 2 (by decide) (hts _ w_277) (fun _ h9 => h9) rfl dX2_choice_32 ?_
  have hPc := hP.sub (ws' := [(rw, .inr (3, [.ref rc, .int (nI jr)])), (rc, .inl (G.2 2, 14, .inl g))]) [1, 2] rfl
  have hDc := hD.sub (ws' := [(rw, .inr (3, [.ref rc, .int (nI jr)])), (rc, .inl (G.2 2, 14, .inl g))]) [1, 2] (by decide) rfl
  have hqc : 0 + 0 ≤ 0 ∧ 0 + 0 ≤ 0 := ⟨by omega, by omega⟩
  refine kl_iQ (wr := [(h, .inr (2, [.ref rw, .ref pr, .int at_, .int 0, .int bh, .int tl, .long rl, .long rh, .int le, .int mo])), (pr, .inr (1, [.ref na, .int (nI (j + 1)), .int fi, .int gr, .long aq])), (na, .inl (G.2 4, 32, .inr (.inr (.inr (.inr (nf ad 32))))))]) (va_runV (As := [.int at_]) (rest := []) F.1 (c_row_at l G _ _ 14 jr g at_ hjr (by decide) hg _) (cwV 1 hts (aw_V w_335 w_336 w_337 w_3 w_338) rfl rfl rfl (by decide +kernel) ⟨by decide, by decide⟩) ⟨cS_blind, va_recv (q := (RX3, TX3, 2)) (ci := 3) (q0 := 0) hK.1 hPc rfl rfl, cS_pre hPc hDc hK⟩ rfl rfl hl.1 rfl (lv_room (Nat.le_of_ble_eq_true rfl)) dX2_choice_35 hqc) hP hD hS hA [1, 2] [0, 3, 4] rfl rfl (by decide) (by decide) (fun r u H locs hp hP hD hS => ?_)
  rw [show rw_at jr g at_ = 0 from if_pos (Or.inr hov)] at hp
  subst hp
  have hP : va_P G.1 vwCl (([(h, .inr (2, [.ref rw, .ref pr, .int at_, .int 0, .int bh, .int tl, .long rl, .long rh, .int le, .int mo])), (pr, .inr (1, [.ref na, .int (nI (j + 1)), .int fi, .int gr, .long aq])), (na, .inl (G.2 4, 32, .inr (.inr (.inr (.inr (nf ad 32)))))), (rw, .inr (3, [.ref rc, .int (nI jr)])), (rc, .inl (G.2 2, 14, .inl g))] : va_W) ++ np ad (va_up a j (upd (upd (upd (upd (a j) 1 10) 2 0) 3 0) 2 ex)) lo hi 32) H := hP
  have hD : va_D A (([(h, .inr (2, [.ref rw, .ref pr, .int at_, .int 0, .int bh, .int tl, .long rl, .long rh, .int le, .int mo])), (pr, .inr (1, [.ref na, .int (nI (j + 1)), .int fi, .int gr, .long aq])), (na, .inl (G.2 4, 32, .inr (.inr (.inr (.inr (nf ad 32)))))), (rw, .inr (3, [.ref rc, .int (nI jr)])), (rc, .inl (G.2 2, 14, .inl g))] : va_W) ++ np ad (va_up a j (upd (upd (upd (upd (a j) 1 10) 2 0) 3 0) 2 ex)) lo hi 32) := hD
  refine lv_bipush (v := 124) hx hb dX2_choice_38 (by decide) ?_
  refine lv_icmp_ne (tgt := 85) hx hb dX2_choice_40 (by decide) (fun _ => ?_) (fun h => absurd h (by decide : ¬ (0 : Int32) = 124))
  refine lv_iload_n hx hb dX2_choice_85 rfl (lv_at hl 2 rfl) ?_
  have hP := hP.part (cx := [(h, .inr (2, [.ref rw, .ref pr, .int at_, .int 0, .int bh, .int tl, .long rl, .long rh, .int le, .int mo])), (rw, .inr (3, [.ref rc, .int (nI jr)])), (rc, .inl (G.2 2, 14, .inl g)), (pr, .inr (1, [.ref na, .int (nI (j + 1)), .int fi, .int gr, .long aq])), (na, .inl (G.2 4, 32, .inr (.inr (.inr (.inr (nf ad 32))))))]) [0, 3, 4, 1, 2] rfl
  have hD := hD.part (cx := [(h, .inr (2, [.ref rw, .ref pr, .int at_, .int 0, .int bh, .int tl, .long rl, .long rh, .int le, .int mo])), (rw, .inr (3, [.ref rc, .int (nI jr)])), (rc, .inl (G.2 2, 14, .inl g)), (pr, .inr (1, [.ref na, .int (nI (j + 1)), .int fi, .int gr, .long aq])), (na, .inl (G.2 4, 32, .inr (.inr (.inr (.inr (nf ad 32))))))]) [0, 3, 4, 1, 2] (by decide) rfl
  exact en_i F hS (nI j) () (by rfl) rfl hP hD (by omega) (by omega) dX2_choice_86

theorem dX2_readPattern_0 : decode cX2_readPattern 0 = .ok (.aload_n 0, 1) := by decide +kernel
theorem dX2_readPattern_1 : decode cX2_readPattern 1 = .ok (.getfield 15, 3) := by decide +kernel
theorem dX2_readPattern_4 : decode cX2_readPattern 4 = .ok (.invokevirtual 19, 3) := by decide +kernel
theorem dX2_readPattern_7 : decode cX2_readPattern 7 = .ok (.aload_n 0, 1) := by decide +kernel
theorem dX2_readPattern_8 : decode cX2_readPattern 8 = .ok (.getfield 15, 3) := by decide +kernel
theorem dX2_readPattern_11 : decode cX2_readPattern 11 = .ok (.aload_n 0, 1) := by decide +kernel
theorem dX2_readPattern_12 : decode cX2_readPattern 12 = .ok (.aload_n 0, 1) := by decide +kernel
theorem dX2_readPattern_13 : decode cX2_readPattern 13 = .ok (.iconst 1, 1) := by decide +kernel
theorem dX2_readPattern_14 : decode cX2_readPattern 14 = .ok (.invokevirtual 24, 3) := by decide +kernel
theorem dX2_readPattern_17 : decode cX2_readPattern 17 = .ok (.iconst 0, 1) := by decide +kernel
theorem dX2_readPattern_18 : decode cX2_readPattern 18 = .ok (.invokevirtual 28, 3) := by decide +kernel
theorem dX2_readPattern_21 : decode cX2_readPattern 21 = .ok (.putfield 32, 3) := by decide +kernel
theorem dX2_readPattern_24 : decode cX2_readPattern 24 = .ok (.aload_n 0, 1) := by decide +kernel
theorem dX2_readPattern_25 : decode cX2_readPattern 25 = .ok (.getfield 36, 3) := by decide +kernel
theorem dX2_readPattern_28 : decode cX2_readPattern 28 = .ok (.ifCond .ne 21, 3) := by decide +kernel
theorem dX2_readPattern_31 : decode cX2_readPattern 31 = .ok (.aload_n 0, 1) := by decide +kernel
theorem dX2_readPattern_32 : decode cX2_readPattern 32 = .ok (.getfield 40, 3) := by decide +kernel
theorem dX2_readPattern_35 : decode cX2_readPattern 35 = .ok (.aload_n 0, 1) := by decide +kernel
theorem dX2_readPattern_36 : decode cX2_readPattern 36 = .ok (.getfield 9, 3) := by decide +kernel
theorem dX2_readPattern_39 : decode cX2_readPattern 39 = .ok (.invokevirtual 43, 3) := by decide +kernel
theorem dX2_readPattern_42 : decode cX2_readPattern 42 = .ok (.if_icmp .ne 7, 3) := by decide +kernel
theorem dX2_readPattern_45 : decode cX2_readPattern 45 = .ok (.iconst 1, 1) := by decide +kernel
theorem dX2_readPattern_46 : decode cX2_readPattern 46 = .ok (.goto 4, 3) := by decide +kernel
theorem dX2_readPattern_50 : decode cX2_readPattern 50 = .ok (.ireturn, 1) := by decide +kernel
set_option maxHeartbeats 4000000 in
set_option maxRecDepth 100000 in
theorem c_rd_read0 (l : Launch) (G : PG) (h rw pr : Nat) (bh tl le mo : Int32) (rl rh : Int64) (rc : Nat) (g : Nat → Int32) (hg : ∀ k, narrow .char (.int (g k)) = .int (g k)) (na : Nat) (ct fi gr : Int32) (aq : Int64) (ad : Nat → Nat) (a : Nat → Nat → Int32) (lo hi : Nat → Int64) (hnum : ∀ i, i < 32 → a i 0 = nI i) : Ci l yX2_readPattern (Cond.code yX2_readPattern cX2_readPattern 1 (some .boolean) :: aW) { frames := 4, cells := 0, slots := 0, locals := 95 } G (([(h, .inr (2, [.ref rw, .ref pr, .int 0, .int 0, .int bh, .int tl, .long rl, .long rh, .int le, .int mo])), (rw, .inr (3, [.ref rc, .int (nI 0)])), (rc, .inl (G.2 2, 14, .inl g)), (pr, .inr (1, [.ref na, .int ct, .int fi, .int gr, .long aq])), (na, .inl (G.2 4, 32, .inr (.inr (.inr (.inr (nf ad 32))))))] : va_W) ++ np ad a lo hi 32) [.ref h] (S := Unit) (fun (r9 : Int32) (_ : Unit) => r9 = 1) (fun (_ : Unit) => (([(h, .inr (2, [.ref rw, .ref pr, .int 0, .int 0, .int bh, .int tl, .long rl, .long rh, .int le, .int mo])), (rw, .inr (3, [.ref rc, .int (nI 0)])), (rc, .inl (G.2 2, 14, .inl g)), (pr, .inr (1, [.ref na, .int 3, .int 2, .int 0, .long 0])), (na, .inl (G.2 4, 32, .inr (.inr (.inr (.inr (nf ad 32))))))] : va_W) ++ np ad (va_up (va_up a 1 (upd (upd (upd (a 1) 1 1) 2 0) 3 0)) 2 (upd (upd (upd (upd (a 2) 1 10) 2 0) 3 0) 2 1)) lo hi 32)) 0 0 := by
  refine ofB (y := yX2_readPattern) (G := G) (cc := cX2_readPattern) (maxL := 1) (ret := (some .boolean)) (Qc := fun A => va_Qi (fun (r9 : Int32) (_ : Unit) => r9 = 1) (oB G A (fun (_ : Unit) => (([(h, .inr (2, [.ref rw, .ref pr, .int 0, .int 0, .int bh, .int tl, .long rl, .long rh, .int le, .int mo])), (rw, .inr (3, [.ref rc, .int (nI 0)])), (rc, .inl (G.2 2, 14, .inl g)), (pr, .inr (1, [.ref na, .int 3, .int 2, .int 0, .long 0])), (na, .inl (G.2 4, 32, .inr (.inr (.inr (.inr (nf ad 32))))))] : va_W) ++ np ad (va_up (va_up a 1 (upd (upd (upd (a 1) 1 1) 2 0) 3 0)) 2 (upd (upd (upd (upd (a 2) 1 10) 2 0) 3 0) 2 1)) lo hi 32))) A) (by decide) rfl ?_
  intro p e s m below meth c A F hK hA hP hD
  have hx := F.1.1; have hb := F.1.2.1; have hml := F.1.2.2.1; have hts := F.1.2.2.2.2
  have hown : s.vm.findClass RX2 = some m.cls := F.1.2.2.2.1
  have hS : va_S A s.heap s.heap [] := va_S.rf
  have hl := lv_entry ([.ref h]) (n := 1) (Nat.le_of_ble_eq_true rfl)
  rw [lg_entry_eq]
  generalize (lg_sl ([.ref h]) ++ List.replicate (1 - (lg_sl ([.ref h])).length) Slot.unset).toArray = ls at hl ⊢
  have hl : lv_has ls 1 [(0, .ref h)] := hl
  refine lv_aload_n hx hb dX2_readPattern_0 rfl (lv_at hl 0 rfl) ?_
  refine va_get (D := G.1) (ci := 2) (v := .ref pr) (C := RX2) (T := TX2) (N := 10) hx hb hts inX2 hown hK.1 hP 0 rfl rfl 1 (by decide) (hts _ w_276) (fun _ h9 => h9) rfl dX2_readPattern_1 ?_
  have hPc := hP.part (cx := [(pr, .inr (1, [.ref na, .int ct, .int fi, .int gr, .long aq])), (na, .inl (G.2 4, 32, .inr (.inr (.inr (.inr (nf ad 32))))))]) [3, 4] rfl
  have hDc := hD.part (cx := [(pr, .inr (1, [.ref na, .int ct, .int fi, .int gr, .long aq])), (na, .inl (G.2 4, 32, .inr (.inr (.inr (.inr (nf ad 32))))))]) [3, 4] (by decide) rfl
  have hqc : 0 + 0 ≤ 0 ∧ 0 + 0 ≤ 0 := ⟨by omega, by omega⟩
  refine kl_vP (wr := [(h, .inr (2, [.ref rw, .ref pr, .int 0, .int 0, .int bh, .int tl, .long rl, .long rh, .int le, .int mo])), (rw, .inr (3, [.ref rc, .int (nI 0)])), (rc, .inl (G.2 2, 14, .inl g))]) (va_runV (As := []) (rest := []) F.1 (c_prog_restart l G _ _ _ _ _ _ _ _ _ _ _) (cwV 0 hts (aw_V w_310 w_311 w_312 w_4 w_313) rfl rfl rfl (by decide +kernel) ⟨by decide, by decide⟩) ⟨cS_blind, va_recv (q := (RX1, TX1, 5)) (ci := 1) (q0 := 0) hK.1 hPc rfl rfl, cS_pre hPc hDc hK⟩ rfl rfl hl.1 rfl (lv_room (Nat.le_of_ble_eq_true rfl)) dX2_readPattern_4 hqc) hP hD hS hA [3, 4] [0, 1, 2] rfl rfl (by decide) (by decide) (fun u H locs hp hP hD hS => ?_)
  have hP : va_P G.1 vwCl (([(h, .inr (2, [.ref rw, .ref pr, .int 0, .int 0, .int bh, .int tl, .long rl, .long rh, .int le, .int mo])), (rw, .inr (3, [.ref rc, .int (nI 0)])), (rc, .inl (G.2 2, 14, .inl g)), (pr, .inr (1, [.ref na, .int (nI 1), .int 0, .int 0, .long 0])), (na, .inl (G.2 4, 32, .inr (.inr (.inr (.inr (nf ad 32))))))] : va_W) ++ np ad a lo hi 32) H := hP
  have hD : va_D A (([(h, .inr (2, [.ref rw, .ref pr, .int 0, .int 0, .int bh, .int tl, .long rl, .long rh, .int le, .int mo])), (rw, .inr (3, [.ref rc, .int (nI 0)])), (rc, .inl (G.2 2, 14, .inl g)), (pr, .inr (1, [.ref na, .int (nI 1), .int 0, .int 0, .long 0])), (na, .inl (G.2 4, 32, .inr (.inr (.inr (.inr (nf ad 32))))))] : va_W) ++ np ad a lo hi 32) := hD
  refine lv_aload_n hx hb dX2_readPattern_7 rfl (lv_at hl 0 rfl) ?_
  refine va_get (D := G.1) (ci := 2) (v := .ref pr) (C := RX2) (T := TX2) (N := 10) hx hb hts inX2 hown hK.1 hP 0 rfl rfl 1 (by decide) (hts _ w_276) (fun _ h9 => h9) rfl dX2_readPattern_8 ?_
  refine lv_aload_n hx hb dX2_readPattern_11 rfl (lv_at hl 0 rfl) ?_
  refine lv_aload_n hx hb dX2_readPattern_12 rfl (lv_at hl 0 rfl) ?_
  refine lv_iconst (v := 1) hx hb dX2_readPattern_13 (by decide) ?_
  have hPc := hP.part (cx := [(h, .inr (2, [.ref rw, .ref pr, .int 0, .int 0, .int bh, .int tl, .long rl, .long rh, .int le, .int mo])), (pr, .inr (1, [.ref na, .int (nI 1), .int 0, .int 0, .long 0])), (na, .inl (G.2 4, 32, .inr (.inr (.inr (.inr (nf ad 32))))))]) [0, 3, 4] rfl
  have hDc := hD.part (cx := [(h, .inr (2, [.ref rw, .ref pr, .int 0, .int 0, .int bh, .int tl, .long rl, .long rh, .int le, .int mo])), (pr, .inr (1, [.ref na, .int (nI 1), .int 0, .int 0, .long 0])), (na, .inl (G.2 4, 32, .inr (.inr (.inr (.inr (nf ad 32))))))]) [0, 3, 4] (by decide) rfl
  have hqc : 0 + 0 ≤ 0 ∧ 0 + 0 ≤ 0 := ⟨by omega, by omega⟩
  refine kl_iP (wr := [(rw, .inr (3, [.ref rc, .int (nI 0)])), (rc, .inl (G.2 2, 14, .inl g))]) (va_runV (As := [.int 1]) (rest := [.ref h, .ref pr]) F.1 (c_rd_add l G _ _ _ _ 0 _ _ _ _ _ _ _ 1 _ _ _ ad a lo hi 1 (by decide) (by rw [hnum 1 (by decide)]; decide) _) (cwV 1 hts (aw_V w_314 w_316 ws_X2_add w_7 w_317) rfl rfl rfl (by decide +kernel) ⟨by decide, by decide⟩) ⟨cS_blind, va_recv (q := (RX2, TX2, 10)) (ci := 2) (q0 := 0) hK.1 hPc rfl rfl, cS_pre hPc hDc hK⟩ rfl rfl hl.1 rfl (lv_room (Nat.le_of_ble_eq_true rfl)) dX2_readPattern_14 hqc) hP hD hS hA [0, 3, 4] [1, 2] rfl rfl (by decide) (by decide) (fun r u H locs hp hP hD hS => ?_)
  rw [hnum 1 (by decide)] at hp
  subst hp
  have hP : va_P G.1 vwCl (([(rw, .inr (3, [.ref rc, .int (nI 0)])), (rc, .inl (G.2 2, 14, .inl g)), (h, .inr (2, [.ref rw, .ref pr, .int 0, .int 0, .int bh, .int tl, .long rl, .long rh, .int le, .int mo])), (pr, .inr (1, [.ref na, .int (nI 2), .int 0, .int 0, .long 0])), (na, .inl (G.2 4, 32, .inr (.inr (.inr (.inr (nf ad 32))))))] : va_W) ++ np ad (va_up a 1 (upd (upd (upd (a 1) 1 1) 2 0) 3 0)) lo hi 32) H := hP
  have hD : va_D A (([(rw, .inr (3, [.ref rc, .int (nI 0)])), (rc, .inl (G.2 2, 14, .inl g)), (h, .inr (2, [.ref rw, .ref pr, .int 0, .int 0, .int bh, .int tl, .long rl, .long rh, .int le, .int mo])), (pr, .inr (1, [.ref na, .int (nI 2), .int 0, .int 0, .long 0])), (na, .inl (G.2 4, 32, .inr (.inr (.inr (.inr (nf ad 32))))))] : va_W) ++ np ad (va_up a 1 (upd (upd (upd (a 1) 1 1) 2 0) 3 0)) lo hi 32) := hD
  refine lv_iconst (v := 0) hx hb dX2_readPattern_17 (by decide) ?_
  have hPc := hP.part (cx := [(h, .inr (2, [.ref rw, .ref pr, .int 0, .int 0, .int bh, .int tl, .long rl, .long rh, .int le, .int mo])), (rw, .inr (3, [.ref rc, .int (nI 0)])), (rc, .inl (G.2 2, 14, .inl g)), (pr, .inr (1, [.ref na, .int (nI 2), .int 0, .int 0, .long 0])), (na, .inl (G.2 4, 32, .inr (.inr (.inr (.inr (nf ad 32))))))]) [2, 0, 1, 3, 4] rfl
  have hDc := hD.part (cx := [(h, .inr (2, [.ref rw, .ref pr, .int 0, .int 0, .int bh, .int tl, .long rl, .long rh, .int le, .int mo])), (rw, .inr (3, [.ref rc, .int (nI 0)])), (rc, .inl (G.2 2, 14, .inl g)), (pr, .inr (1, [.ref na, .int (nI 2), .int 0, .int 0, .long 0])), (na, .inl (G.2 4, 32, .inr (.inr (.inr (.inr (nf ad 32))))))]) [2, 0, 1, 3, 4] (by decide) rfl
  have hqc : 0 + 0 ≤ 0 ∧ 0 + 0 ≤ 0 := ⟨by omega, by omega⟩
  refine kl_iP (wr := []) (va_runV (As := [.int (nI 1), .int 0]) (rest := [.ref pr]) F.1 (c_rd_choice0 l G _ _ _ 0 _ _ _ _ _ _ _ 0 g _ 2 _ _ _ ad (va_up a 1 (upd (upd (upd (a 1) 1 1) 2 0) 3 0)) lo hi (nI 1) 0 (by decide) (by decide) hg (by decide) (by decide) (hnum 2 (by decide)) _) (cwV 2 hts (aw_V w_322 w_324 ws_X2_choice w_7 w_325) rfl rfl rfl (by decide +kernel) ⟨by decide, by decide⟩) ⟨cS_blind, va_recv (q := (RX2, TX2, 10)) (ci := 2) (q0 := 0) hK.1 hPc rfl rfl, cS_pre hPc hDc hK⟩ rfl rfl hl.1 rfl (lv_room (Nat.le_of_ble_eq_true rfl)) dX2_readPattern_18 hqc) hP hD hS hA [2, 0, 1, 3, 4] [] rfl rfl (by decide) (by decide) (fun r u H locs hp hP hD hS => ?_)
  subst hp
  have hP : va_P G.1 vwCl (([(h, .inr (2, [.ref rw, .ref pr, .int 0, .int 0, .int bh, .int tl, .long rl, .long rh, .int le, .int mo])), (rw, .inr (3, [.ref rc, .int (nI 0)])), (rc, .inl (G.2 2, 14, .inl g)), (pr, .inr (1, [.ref na, .int (nI 3), .int 0, .int 0, .long 0])), (na, .inl (G.2 4, 32, .inr (.inr (.inr (.inr (nf ad 32))))))] : va_W) ++ np ad (va_up (va_up a 1 (upd (upd (upd (a 1) 1 1) 2 0) 3 0)) 2 (upd (upd (upd (upd ((va_up a 1 (upd (upd (upd (a 1) 1 1) 2 0) 3 0)) 2) 1 10) 2 0) 3 0) 2 1)) lo hi 32) H := hP
  have hD : va_D A (([(h, .inr (2, [.ref rw, .ref pr, .int 0, .int 0, .int bh, .int tl, .long rl, .long rh, .int le, .int mo])), (rw, .inr (3, [.ref rc, .int (nI 0)])), (rc, .inl (G.2 2, 14, .inl g)), (pr, .inr (1, [.ref na, .int (nI 3), .int 0, .int 0, .long 0])), (na, .inl (G.2 4, 32, .inr (.inr (.inr (.inr (nf ad 32))))))] : va_W) ++ np ad (va_up (va_up a 1 (upd (upd (upd (a 1) 1 1) 2 0) 3 0)) 2 (upd (upd (upd (upd ((va_up a 1 (upd (upd (upd (a 1) 1 1) 2 0) 3 0)) 2) 1 10) 2 0) 3 0) 2 1)) lo hi 32) := hD
  refine va_putN (D := G.1) (ci := 1) (v := .int (nI 2)) (ty := .int) (C := RX1) (T := TX1) (N := 5) hx hb hts inX1 tyX1 tyX1_ok nmX1 hown hK.1 hP hD hS 3 rfl rfl 2 (by decide) (hK.2.1.use w_120) (fun _ h9 => h9) rfl (by decide +kernel) rfl rfl (Nat.le_of_ble_eq_true rfl) dX2_readPattern_21 (fun H locs hP hD hS => ?_)
  have hP : va_P G.1 vwCl (([(h, .inr (2, [.ref rw, .ref pr, .int 0, .int 0, .int bh, .int tl, .long rl, .long rh, .int le, .int mo])), (rw, .inr (3, [.ref rc, .int (nI 0)])), (rc, .inl (G.2 2, 14, .inl g)), (pr, .inr (1, [.ref na, .int (nI 3), .int (nI 2), .int 0, .long 0])), (na, .inl (G.2 4, 32, .inr (.inr (.inr (.inr (nf ad 32))))))] : va_W) ++ np ad (va_up (va_up a 1 (upd (upd (upd (a 1) 1 1) 2 0) 3 0)) 2 (upd (upd (upd (upd ((va_up a 1 (upd (upd (upd (a 1) 1 1) 2 0) 3 0)) 2) 1 10) 2 0) 3 0) 2 1)) lo hi 32) H := hP
  have hD : va_D A (([(h, .inr (2, [.ref rw, .ref pr, .int 0, .int 0, .int bh, .int tl, .long rl, .long rh, .int le, .int mo])), (rw, .inr (3, [.ref rc, .int (nI 0)])), (rc, .inl (G.2 2, 14, .inl g)), (pr, .inr (1, [.ref na, .int (nI 3), .int (nI 2), .int 0, .long 0])), (na, .inl (G.2 4, 32, .inr (.inr (.inr (.inr (nf ad 32))))))] : va_W) ++ np ad (va_up (va_up a 1 (upd (upd (upd (a 1) 1 1) 2 0) 3 0)) 2 (upd (upd (upd (upd ((va_up a 1 (upd (upd (upd (a 1) 1 1) 2 0) 3 0)) 2) 1 10) 2 0) 3 0) 2 1)) lo hi 32) := hD
  refine lv_aload_n hx hb dX2_readPattern_24 rfl (lv_at hl 0 rfl) ?_
  refine va_get (D := G.1) (ci := 2) (v := .int 0) (C := RX2) (T := TX2) (N := 10) hx hb hts inX2 hown hK.1 hP 0 rfl rfl 3 (by decide) (hts _ w_278) (fun _ h9 => h9) rfl dX2_readPattern_25 ?_
  refine lv_if_ne (tgt := 49) hx hb dX2_readPattern_28 (by decide) (fun h => absurd rfl h) (fun _ => ?_)
  refine lv_aload_n hx hb dX2_readPattern_31 rfl (lv_at hl 0 rfl) ?_
  refine va_get (D := G.1) (ci := 2) (v := .int 0) (C := RX2) (T := TX2) (N := 10) hx hb hts inX2 hown hK.1 hP 0 rfl rfl 2 (by decide) (hts _ w_277) (fun _ h9 => h9) rfl dX2_readPattern_32 ?_
  refine lv_aload_n hx hb dX2_readPattern_35 rfl (lv_at hl 0 rfl) ?_
  refine va_get (D := G.1) (ci := 2) (v := .ref rw) (C := RX2) (T := TX2) (N := 10) hx hb hts inX2 hown hK.1 hP 0 rfl rfl 0 (by decide) (hts _ w_275) (fun _ h9 => h9) rfl dX2_readPattern_36 ?_
  have hPc := hP.sub (ws' := [(rw, .inr (3, [.ref rc, .int (nI 0)])), (rc, .inl (G.2 2, 14, .inl g))]) [1, 2] rfl
  have hDc := hD.sub (ws' := [(rw, .inr (3, [.ref rc, .int (nI 0)])), (rc, .inl (G.2 2, 14, .inl g))]) [1, 2] (by decide) rfl
  have hqc : 0 + 0 ≤ 0 ∧ 0 + 0 ≤ 0 := ⟨by omega, by omega⟩
  refine kl_iQ (wr := [(h, .inr (2, [.ref rw, .ref pr, .int 0, .int 0, .int bh, .int tl, .long rl, .long rh, .int le, .int mo])), (pr, .inr (1, [.ref na, .int (nI 3), .int (nI 2), .int 0, .long 0])), (na, .inl (G.2 4, 32, .inr (.inr (.inr (.inr (nf ad 32))))))]) (va_runV (As := []) (rest := [.int 0]) F.1 (c_row_size l G _ _ _ _ _ _) (cwV 0 hts (aw_V w_334 w_258 w_259 w_3 w_260) rfl rfl rfl (by decide +kernel) ⟨by decide, by decide⟩) ⟨cS_blind, va_recv (q := (RX3, TX3, 2)) (ci := 3) (q0 := 0) hK.1 hPc rfl rfl, cS_pre hPc hDc hK⟩ rfl rfl hl.1 rfl (lv_room (Nat.le_of_ble_eq_true rfl)) dX2_readPattern_39 hqc) hP hD hS hA [1, 2] [0, 3, 4] rfl rfl (by decide) (by decide) (fun r u H locs hp hP hD hS => ?_)
  subst hp
  have hP : va_P G.1 vwCl (([(h, .inr (2, [.ref rw, .ref pr, .int 0, .int 0, .int bh, .int tl, .long rl, .long rh, .int le, .int mo])), (pr, .inr (1, [.ref na, .int (nI 3), .int (nI 2), .int 0, .long 0])), (na, .inl (G.2 4, 32, .inr (.inr (.inr (.inr (nf ad 32)))))), (rw, .inr (3, [.ref rc, .int (nI 0)])), (rc, .inl (G.2 2, 14, .inl g))] : va_W) ++ np ad (va_up (va_up a 1 (upd (upd (upd (a 1) 1 1) 2 0) 3 0)) 2 (upd (upd (upd (upd ((va_up a 1 (upd (upd (upd (a 1) 1 1) 2 0) 3 0)) 2) 1 10) 2 0) 3 0) 2 1)) lo hi 32) H := hP
  have hD : va_D A (([(h, .inr (2, [.ref rw, .ref pr, .int 0, .int 0, .int bh, .int tl, .long rl, .long rh, .int le, .int mo])), (pr, .inr (1, [.ref na, .int (nI 3), .int (nI 2), .int 0, .long 0])), (na, .inl (G.2 4, 32, .inr (.inr (.inr (.inr (nf ad 32)))))), (rw, .inr (3, [.ref rc, .int (nI 0)])), (rc, .inl (G.2 2, 14, .inl g))] : va_W) ++ np ad (va_up (va_up a 1 (upd (upd (upd (a 1) 1 1) 2 0) 3 0)) 2 (upd (upd (upd (upd ((va_up a 1 (upd (upd (upd (a 1) 1 1) 2 0) 3 0)) 2) 1 10) 2 0) 3 0) 2 1)) lo hi 32) := hD
  refine lv_icmp_ne (tgt := 49) hx hb dX2_readPattern_42 (by decide) (fun h => absurd rfl h) (fun _ => ?_)
  refine lv_iconst (v := 1) hx hb dX2_readPattern_45 (by decide) ?_
  refine lv_goto (tgt := 50) hx hb dX2_readPattern_46 (by decide) ?_
  have hP := hP.part (cx := [(h, .inr (2, [.ref rw, .ref pr, .int 0, .int 0, .int bh, .int tl, .long rl, .long rh, .int le, .int mo])), (rw, .inr (3, [.ref rc, .int (nI 0)])), (rc, .inl (G.2 2, 14, .inl g)), (pr, .inr (1, [.ref na, .int 3, .int 2, .int 0, .long 0])), (na, .inl (G.2 4, 32, .inr (.inr (.inr (.inr (nf ad 32))))))]) [0, 3, 4, 1, 2] rfl
  have hD := hD.part (cx := [(h, .inr (2, [.ref rw, .ref pr, .int 0, .int 0, .int bh, .int tl, .long rl, .long rh, .int le, .int mo])), (rw, .inr (3, [.ref rc, .int (nI 0)])), (rc, .inl (G.2 2, 14, .inl g)), (pr, .inr (1, [.ref na, .int 3, .int 2, .int 0, .long 0])), (na, .inl (G.2 4, 32, .inr (.inr (.inr (.inr (nf ad 32))))))]) [0, 3, 4, 1, 2] (by decide) rfl
  exact en_i F hS 1 () (by rfl) rfl hP hD (by omega) (by omega) dX2_readPattern_50
end
section
/-! exceptions: out of a method by 'throw new E()', into a handler of the caller -/
section TH1
variable {e : Env} {s₀ : State} {f : JFrame} {a : Addr} {cell : Cell}
/-- one row of a table, its class linked by now or not: taken or passed by what the object is -/
theorem ct_one {S : State} {y : ExceptionTableEntry} {t : List ExceptionTableEntry} {k : ClassId} (hy : covers y f.pc = true) (h0 : y.catchType ≠ 0) (hl : S.vm.ClassLinks e.platform f.method.cls y.catchType k) (hcell : S.heap[a]? = some cell) (hobj : ∀ k, cell.vm ≠ .statics k)
    (hk : ∃ k, S.vm.classes[cell.cls]? = some k) (hc : ∃ k', S.vm.classes[k]? = some k') (Q : Handler → Pre) (E : CtlPost) (d : Bool) (acts : List Action) :
    wp (findHandler.go f a (y :: t)) Q E e d acts S ↔ (if S.vm.assignable cell.cls k = true then Q (.found y.handlerPc) d acts (S.setVm (S.vm.noted f.method.cls y.catchType (.cls k))) else wp (findHandler.go f a t) Q E e d acts (S.setVm (S.vm.noted f.method.cls y.catchType (.cls k)))) := by
  simp only [covers] at hy
  obtain ⟨ha, ht⟩ := (resolveClass_links e.toSetting hl).op (op := VmOp.resolveClass f.method.cls y.catchType) rfl
  have hal : S.vm.Alike (S.vm.noted f.method.cls y.catchType (.cls k)) := (Vm.Alike.refl S.vm).noted _ _ _
  obtain ⟨k1, hk1⟩ := hk
  obtain ⟨k2, hk2⟩ := hc
  obtain ⟨k1', hk1', -⟩ := hal.2.2 _ _ hk1
  obtain ⟨k2', hk2', -⟩ := hal.2.2 _ _ hk2
  have hsame : (S.vm.noted f.method.cls y.catchType (.cls k)).assignable cell.cls k = S.vm.assignable cell.cls k := hal.assignable ..
  cases hfit : S.vm.assignable cell.cls k <;> rw [hfit] at hsame <;>
    simp [findHandler.go, hy, h0, ha, ht, hcell, hobj, hk1', hk2', hsame, VmOp.dirties, VmOp.acts]
/-- a row that the object passes, and one that takes it, said at the method's entry -/
def ctR (pl : Platform) (s₀ : State) (d : ClassId) (pc : Nat) (th : ClassId) (v : Bool) (y : ExceptionTableEntry) : Prop :=
  covers y pc = true ∧ y.catchType ≠ 0 ∧ ∃ c, s₀.vm.ClassLinks pl d y.catchType c ∧ s₀.vm.assignable th c = v
theorem ct_go (hobj : ∀ k, cell.vm ≠ .statics k) (hk0 : ∃ k, s₀.vm.classes[cell.cls]? = some k) (x : ExceptionTableEntry) (rest : List ExceptionTableEntry) (hx : ctR e.platform s₀ f.method.cls f.pc cell.cls true x) :
    ∀ (pre : List ExceptionTableEntry) (S : State), s₀.WarmedH S.vm → S.heap[a]? = some cell → (∀ y ∈ pre, ctR e.platform s₀ f.method.cls f.pc cell.cls false y) →
      ∃ vm', s₀.WarmedH vm' ∧ ∀ (Q : Handler → Pre) (E : CtlPost) (d : Bool) (acts : List Action), wp (findHandler.go f a (pre ++ x :: rest)) Q E e d acts S ↔ Q (.found x.handlerPc) d acts (S.setVm vm') := by
  have step : ∀ (y : ExceptionTableEntry) (v : Bool) (S : State), s₀.WarmedH S.vm → S.heap[a]? = some cell → ctR e.platform s₀ f.method.cls f.pc cell.cls v y → ∃ k, s₀.WarmedH (S.vm.noted f.method.cls y.catchType (.cls k)) ∧
      ∀ (t : List ExceptionTableEntry) (Q : Handler → Pre) (E : CtlPost) (d : Bool) (acts : List Action), wp (findHandler.go f a (y :: t)) Q E e d acts S ↔ (if v = true then Q (.found y.handlerPc) d acts (S.setVm (S.vm.noted f.method.cls y.catchType (.cls k))) else wp (findHandler.go f a t) Q E e d acts (S.setVm (S.vm.noted f.method.cls y.catchType (.cls k)))) := by
    intro y v S hW hcell ⟨hy, h0, k, hl, hv⟩
    obtain ⟨k0, hk0⟩ := hk0
    obtain ⟨k0', hk0', -⟩ := hW.alike.2.2 _ _ hk0
    obtain ⟨dk, _, _, kt, hd, _, _, _, _, hkt, _, hopen⟩ := hl.here
    obtain ⟨kt', hkt', -⟩ := hW.alike.2.2 _ _ hkt
    refine ⟨k, hW.noted hd hopen (State.rightAt_cls hl), fun t Q E d acts => ?_⟩
    rw [ct_one hy h0 (hW.classLinks hl) hcell hobj ⟨k0', hk0'⟩ ⟨kt', hkt'⟩ Q E d acts, hW.alike.assignable, hv]
  intro pre
  induction pre with
  | nil =>
    intro S hW hcell _
    obtain ⟨k, h1, h2⟩ := step x true S hW hcell hx
    exact ⟨_, h1, fun Q E d acts => by rw [List.nil_append, h2, if_pos rfl]⟩
  | cons y ys ih =>
    intro S hW hcell hp
    obtain ⟨k, h1, h2⟩ := step y false S hW hcell (hp y List.mem_cons_self)
    obtain ⟨vm', h3, h4⟩ := ih (S.setVm (S.vm.noted f.method.cls y.catchType (.cls k))) h1 hcell (fun z hz => hp z (List.mem_cons_of_mem _ hz))
    exact ⟨vm', h3, fun Q E d acts => by rw [List.cons_append, h2, if_neg (by decide), h4]; rfl⟩
end TH1
section TH2
variable {p : Program} {l : Launch} {e : Env} {R : Room} {s : State} {m : MethodId} {args : Array Value} {below : List Frame} {meth : Method} {c : Code} {T : State} {locs : List Loc} {cells slots : Nat}
/-- from the note of a throw over the frame g to g at its handler -/
theorem ct_to (X : Stand p l e R s m args below meth c T locs cells slots) (a : Addr) {g : JFrame} (hg : g.method = m) {cell : Cell} (hcell : T.heap[a]? = some cell) (hobj : cell.vm = .none) (hk0 : ∃ k, s.vm.classes[cell.cls]? = some k)
    (pre : List ExceptionTableEntry) (x : ExceptionTableEntry) (rest : List ExceptionTableEntry) (hsplit : c.exceptionTable.toList = pre ++ x :: rest) (hp : ∀ y ∈ pre, ctR e.platform s m.cls g.pc cell.cls false y) (hx : ctR e.platform s m.cls g.pc cell.cls true x) :
    ∃ vm', Stand p l e R s m args below meth c (T.setVm vm') locs cells slots ∧ ∀ target, Steps p.tables e below ((T.setVm vm').setTop { g with pc := x.handlerPc, stack := [.ref a] }) target → Steps p.tables e below ((T.setTop g).pushFrame (.throwing a)) target := by
  subst hg
  obtain ⟨vm', hW', hq⟩ := ct_go (e := e) (s₀ := s) (f := g) (a := a) (cell := cell) (fun k => by rw [hobj]; exact fun h => by cases h) hk0 x rest hx pre ((T.setTop g).pushFrame (.throwing a)) X.warmed hcell hp
  have hm' : ((T.setTop g).pushFrame (.throwing a)).vm.method? g.method = some meth := X.method'
  have hfind : ∀ (Q : Handler → Pre) (E : CtlPost) (d : Bool) (acts : List Action), wp (findHandler g a) Q E e d acts ((T.setTop g).pushFrame (.throwing a)) ↔ Q (.found x.handlerPc) d acts (((T.setTop g).pushFrame (.throwing a)).setVm vm') := fun Q E d acts => by
    rw [W.findHandler_eq hm' X.code, hsplit]; exact hq Q E d acts
  refine ⟨vm', X.noted hW', fun target hrest => ?_⟩
  obtain ⟨hgo, hw⟩ := X.here.throwing (s := T) a
  refine Steps.head hgo hw ?_
  have hst : (stepThrowing e ((T.setTop g).pushFrame (.throwing a)) a (.java g :: T.frames.tail)).1 = (((T.setTop g).pushFrame (.throwing a)).setVm vm').setFrames (.java { g with pc := x.handlerPc, stack := [.ref a] } :: T.frames.tail) := by
    simp only [stepThrowing, searchFrame, vmDo]
    generalize hr : Sem.go _ e false [] ((T.setTop g).pushFrame (.throwing a)) = res
    obtain ⟨as, rfl, ha⟩ := Sem.eq_ok_of hr (a := Handler.found x.handlerPc) (s' := ((T.setTop g).pushFrame (.throwing a)).setVm vm') (acts' := []) (by simp [hfind _ _ _ _])
    rfl
  rw [stepThread_throwing (frames_entered X.here.top _), hst]
  obtain ⟨g₀, hg0⟩ := Option.isSome_iff_exists.mp X.here.top
  obtain ⟨r, hr⟩ := State.topJava?_eq_some.mp hg0
  have hr' : (T.setVm vm').frames = .java g₀ :: r := hr
  rw [State.setTop_of_frames _ hr'] at hrest
  have e1 : (((T.setTop g).pushFrame (.throwing a)).setVm vm') = (T.setVm vm').setFrames (.throwing a :: .java g :: r) := by
    have h1 : (T.setTop g).pushFrame (.throwing a) = T.setFrames (.throwing a :: .java g :: r) := by
      rw [State.pushFrame, State.frames_setTop _ hr, State.setTop_of_frames _ hr, State.setFrames_setFrames]
    rw [h1]; rfl
  rw [e1, State.setFrames_setFrames, hr, List.tail_cons]
  exact hrest
end TH2
end
section
/-! methods that change nothing; methods that throw; calls of them -/
def pQ (post : Int32 → Prop) : Array Value → State → Outcome → State → Prop := fun _ st oc t => (∃ r : Int32, oc = .returned (some (.int r)) ∧ post r) ∧ t.heap = st.heap
def Pi (l : Launch) (y : MethodName) (ws : List Cond) (rm : Room) (G : PG) (wc : va_W) (av : List Value) (post : Int32 → Prop) : Prop := ∀ sz, Met l y ws rm (cS G wc sz av) (pQ post) 0 0 (fun _ => False)
section TX1
variable {l : Launch} {y : MethodName} {ws : List Cond} {rm : Room} {G : PG} {wc : va_W} {av : List Value} {cc : ByteArray} {maxL : Nat} {ret : Option FieldType}
theorem ofP {post : Int32 → Prop} (hy : plainName y.cls = true) (hw : ws = Cond.code y cc maxL ret :: aW)
    (body : ∀ (p : Program) (e : Env) (s : State) (m : MethodId) (below : List Frame) (meth : Method) (c : Code), bF p s m meth c cc maxL ret av.toArray y → pg_K G s → va_P G.1 vwCl wc s.heap → va_D (fun _ => True) wc →
      W p l e rm s m av.toArray below meth c s.heap [] 0 0 (MQ below (pQ post) av.toArray s 0 0 (fun _ => False)) (entryFrame m av.toArray maxL)) : Pi l y ws rm G wc av post := by
  intro sz
  refine Met.ofW (cc := cc) (maxL := maxL) (ret := ret) hy hw ?_
  intro p e s m args below meth c s₁ B hml hv
  obtain ⟨rfl, hsz, hP, hD0, hK⟩ := hv
  exact body p e s m below meth c (bF_of hw B hml) hK hP hD0
end TX1
section TX2
variable {p : Program} {l : Launch} {e : Env} {R : Room} {s : State} {m : MethodId} {args : Array Value} {below : List Frame} {meth : Method} {c : Code} {H : Heap} {locs : List Loc} {cells slots : Nat} {Q : State → Prop} {pc maxL : Nat} {cc : ByteArray} {y : MethodName} {ls : Array Slot}
theorem en_p {post : Int32 → Prop} {ty : FieldType} (F : bF p s m meth c cc maxL (some ty) args y) (r : Int32) (hn : narrow ty (.int r) = .int r) (hp : post r) (hdg : decode cc pc = .ok (.ireturn, 1)) :
    W p l e R s m args below meth c s.heap [] 0 0 (MQ below (pQ post) args s 0 0 (fun _ => False)) (F0 m pc ls [.int r]) := by
  obtain ⟨⟨hx, hb, -⟩, hr, hk, -⟩ := F
  exact W.zret (v := r) (ty := ty) hx hb hr hn (fun t ht hW => ⟨⟨r, rfl, hp⟩, ht⟩) (fun _ h => by cases h) hdg (hlocks := hk)
theorem kp_i {post : Int32 → Prop} {st0 rest : List Value} {a : Array Value} (hr : va_Run p l e R s m args below meth c H locs cells slots 0 0 (F0 m pc ls st0) rest (pQ post a) (fun _ => False))
    (kk : ∀ r : Int32, post r → W p l e R s m args below meth c H locs cells slots Q (F0 m (pc + 3) ls (.int r :: rest))) : W p l e R s m args below meth c H locs cells slots Q (F0 m pc ls st0) := by
  intro T hT X
  obtain ⟨v, st₀, t, T', L, h0, X', hL, e1, e2, ⟨⟨r, hv, hp⟩, hh⟩, st⟩ := hr T hT X
  cases hv
  have hLn : L = [] := by
    cases L with
    | nil => rfl
    | cons q L => exact (hL q List.mem_cons_self).elim
  subst hLn
  rw [List.append_nil] at X'
  obtain ⟨t2, a1, b1⟩ := kk r hp T' (e1.trans (hh.trans h0)) X'
  exact ⟨t2, st t2 a1, b1⟩
end TX2
/-! what a throw asks of the tables and of Throwable's two statics -/
def xISE : String := "java/lang/IllegalStateException"
def xIAE : String := "java/lang/IllegalArgumentException"
def xIOO : String := "java/lang/IndexOutOfBoundsException"
def xUp : List String := ["java/lang/RuntimeException", "java/lang/Exception"]
def thC : List Cond := [.castable xISE xISE, .castable xIAE xIAE, .castable xIOO xIOO, .declares (Bundle.init0 "java/lang/RuntimeException"), .declares (Bundle.init0 "java/lang/Exception"), .declares (Bundle.init0 Bundle.tN)]
def thK : Cond → Bool
  | .castable .. => true
  | .declares _ => true
  | _ => false
theorem th_tab {w : Cond} (h : thK w = true) : w.onTables = true := by
  cases w <;> first | rfl | exact absurd h (by simp [thK])
theorem th_warm {w : Cond} (hk : thK w = true) {s U : State} (hW : s.WarmedH U.vm) (h : va_Nw w s) : va_Nw w U := by
  cases w <;> first | exact va_Nw.warmC hW h | exact va_Nw.warmD hW h | exact absurd hk (by simp [thK])
theorem thC_K : ∀ w ∈ thC, thK w = true := by
  intro w h
  simp only [thC, List.mem_cons, List.not_mem_nil, or_false] at h
  rcases h with rfl | rfl | rfl | rfl | rfl | rfl <;> rfl
/-- a static of references: where it lies, and that its cell holds one -/
def zL (C n d : String) (U : State) : Prop := (Cond.laysStatic C n d).before #[] U = true ∧ (Cond.isRef (.static C n d)).before #[] U = true
theorem zL.kept {C n d : String} {s U : State} (h : zL C n d s) (hW : s.WarmedH U.vm) (hq : ∀ q : Nat, q < s.heap.size → U.heap[q]? = s.heap[q]?) : zL C n d U := by
  obtain ⟨hl, hr⟩ := h
  obtain ⟨c, k, i, f, a, cell, h1, h2, h3, h4, h5, h6, h7, h8, h9⟩ := Cond.laysStatic_spec hl
  obtain ⟨k', hi', he⟩ := State.fieldFound?_setVm (s := s) hW.alike h2
  have hf : U.fieldFound? C n d = some (c, k', i, f) := hi'
  have hc : U.vm.findClass C = some c := by rw [hW.alike.findClass]; exact h1
  have h5' : U.heap[a]? = some cell := by rw [hq a (Array.getElem?_eq_some_iff.mp h5).1]; exact h5
  refine ⟨?_, ?_⟩
  · show (Cond.laysStatic C n d).holds #[] U none U [] = true
    exact Cond.laysStatic_of hc hf h3 (by rw [he]; exact h4) h5' h6 h7 h8 (by rw [he]; exact h9)
  · have e1 : (Term.static C n d).eval #[] s none [] s = cell.slots[f.slot]? := by
      simp [Term.eval, State.fieldNamed?, h2, h3, h4, h5, h6]
    have hs' : k'.statics = some a := by rw [he]; exact h4
    have e2 : (Term.static C n d).eval #[] U none [] U = cell.slots[f.slot]? := by
      simp [Term.eval, State.fieldNamed?, hf, h3, hs', h5', h6]
    simp only [Cond.before, Cond.holds, Cond.value, e1] at hr
    simp only [Cond.before, Cond.holds, Cond.value, e2]
    exact hr
def pg_T (U : State) : Prop := (∀ w ∈ thC, va_Nw w U) ∧ zL Bundle.tN "UNASSIGNED_STACK" Bundle.steD U ∧ zL Bundle.tN "SUPPRESSED_SENTINEL" Bundle.listD U
theorem pg_T.kept {s U : State} (h : pg_T s) (hW : s.WarmedH U.vm) (hq : ∀ q : Nat, q < s.heap.size → U.heap[q]? = s.heap[q]?) : pg_T U :=
  ⟨fun w hw => th_warm (thC_K w hw) hW (h.1 w hw), h.2.1.kept hW hq, h.2.2.kept hW hq⟩
end
section
/-! a method that throws: what it promises; 'throw new E()'; its call -/
def xQ (XC : String → Prop) : Array Value → State → Outcome → State → Prop := fun _ st o t =>
  ∃ (q : Addr) (E : String) (ce : Cell), o = .threw q ∧ XC E ∧ t.heap[q]? = some ce ∧ ce.vm = .none ∧ st.vm.findClass E = some ce.cls ∧ st.WarmedH t.vm ∧ st.sameButNew ({ t with vm := st.vm } : State) [] 1 6
def xS (G : PG) (wc : va_W) (sz : Nat) (av : List Value) : Array Value → State → Prop := fun v U => cS G wc sz av v U ∧ pg_T U
def Xt (l : Launch) (y : MethodName) (ws : List Cond) (rm : Room) (G : PG) (wc : va_W) (av : List Value) (XC : String → Prop) : Prop := ∀ sz, MetFree l y (headSpec ws rm) (xS G wc sz av) (fun _ _ _ _ _ => True) (xQ XC)
def xMQ (below : List Frame) (XC : String → Prop) (a : Array Value) (s : State) : State → Prop := fun t => ∃ o, t.status = .running ∧ Ended t below o ∧ xQ XC a s o t
section TY1
variable {l : Launch} {y : MethodName} {ws : List Cond} {rm : Room} {G : PG} {wc : va_W} {av : List Value} {cc : ByteArray} {maxL : Nat} {ret : Option FieldType} {XC : String → Prop}
theorem ofX (hy : plainName y.cls = true) (hw : ws = Cond.code y cc maxL ret :: aW)
    (body : ∀ (p : Program) (e : Env) (s : State) (m : MethodId) (below : List Frame) (meth : Method) (c : Code), bF p s m meth c cc maxL ret av.toArray y → pg_K G s → pg_T s → c.exceptionTable.isEmpty = true → va_P G.1 vwCl wc s.heap → va_D (fun _ => True) wc →
      W p l e rm s m av.toArray below meth c s.heap [] 0 0 (xMQ below XC av.toArray s) (entryFrame m av.toArray maxL)) : Xt l y ws rm G wc av XC := by
  intro sz
  refine MetFree.of_bodyS (code := cc) (maxLocals := maxL) (ret := ret) hy ?_ ?_
  · intro args s m h hn
    obtain ⟨meth, c, h1, h2, h3, h4, h5, h6, -, -⟩ := Cond.code_spec hn (atoms_spec (ws := ws) h _ (by rw [hw]; exact List.mem_cons_self))
    exact ⟨meth, c, h1, h2, h3, h4, h5, h6⟩
  · intro p e s m args below meth c s₁ B hml hP _
    obtain ⟨⟨rfl, hsz, hP, hD0, hK⟩, hT⟩ := hP
    have hh0 : s₁.heap = s.heap := by rw [B.state]; rfl
    have hcd : (Cond.code y cc maxL ret).before av.toArray s = true := atoms_spec (ws := ws) B.pre _ (by rw [hw]; exact List.mem_cons_self)
    obtain ⟨t, a1, o, b1, b2, b3⟩ := body p e s m below meth c (bF_of hw B hml) hK hT (B.noHandlers hcd) hP hD0 s₁ hh0 (Stand.of_body B)
    exact ⟨t, o, a1, b1, b2, b3⟩
end TY1
section TY2
variable {p : Program} {l : Launch} {e : Env} {R : Room} {s : State} {m : MethodId} {args : Array Value} {below : List Frame} {meth : Method} {c : Code} {H : Heap} {locs : List Loc} {cells slots : Nat} {Q : State → Prop} {pc maxL : Nat} {cc : ByteArray} {y : MethodName} {ls : Array Slot} {ret : Option FieldType} {XC : String → Prop} {rest : List Value}
theorem th_0 (F : bF p s m meth c cc maxL ret args y) (hl : l.stackTraces = false) {E : String} {names : List String} {ik ic : Nat} (hcls : Bundle.fit E = true) (hnames : ∀ n ∈ names, Bundle.fit n = true)
    (hk : (Cond.classLink y.cls ik E).before args s = true) (hins : (Cond.instantiable E 6).before args s = true) (hini : (Cond.initialized E).before args s = true) (h : ∀ a ∈ Bundle.ownAtoms0 y.cls ic E names, a.before args s = true) (hex : c.exceptionTable.isEmpty = true) (hsize : ls.size = maxL)
    (d0 : decode cc pc = .ok (.new ik, 3)) (d3 : decode cc (pc + 3) = .ok (.dup, 1)) (d4 : decode cc (pc + 4) = .ok (.invokespecial ic, 3)) (d7 : decode cc (pc + 7) = .ok (.athrow, 1))
    (hRf : names.length + 3 < R.frames) (hRl : (rest.map fun v => v.category).sum + (13 * (names.length + 1) + 42) ≤ R.locals) (hRc : 1 ≤ R.cells) (hRs : 6 ≤ R.slots) (hE : XC E) :
    W p l e R s m args below meth c s.heap [] 0 0 (xMQ below XC args s) (F0 m pc ls rest) := by
  obtain ⟨⟨hx, hb, hml, hown, -⟩, -, hlk, -⟩ := F
  refine W.newc hx hb hown hk hins hini rfl d0 (by omega) (by omega) (fun cC kC h1 h2 h3 h4 => ?_)
  refine lv_dup hx hb d3 rfl ?_
  intro T hT X
  have htr : e.platform.stackTraces = false := by rw [X.admits.platform]; exact hl
  have hcell : T.heap[s.heap.size]? = some (freshCell cC kC) := by rw [hT]; exact Array.getElem?_push_size
  subst hb
  obtain ⟨U, st, hrun, hend, hW, hsame, ce, hce, hoc⟩ := X.ctorThrow0 hx htr hown hcls hnames h (fun x hx => by cases hx) h1 h2 hcell (Nat.le_refl _) (g := F0 m (pc + 3 + 1) ls (.ref s.heap.size :: .ref s.heap.size :: rest)) rfl (hsize.trans hml.symm) rfl rfl rfl d4 d7 (fun x hx => by rw [Array.isEmpty_iff] at hex; rw [hex] at hx; cases hx) hRf (by
    have e1 : ((Value.ref s.heap.size :: rest).map fun v => v.category).sum = 1 + (rest.map fun v => v.category).sum := rfl
    rw [e1]
    have : 2 * (F0 m (pc + 3 + 1) ls (.ref s.heap.size :: .ref s.heap.size :: rest)).monitorRoom = 0 := rfl
    omega) hlk
  exact ⟨U, st, .threw _, hrun, hend, _, E, ce, rfl, hE, hce, hoc.vm, hoc.cls, hW, hsame.mono (by omega) (by omega)⟩
end TY2
/-- the frame g of a method, q thrown over it -/
def xW (p : Program) (l : Launch) (e : Env) (R : Room) (s : State) (m : MethodId) (args : Array Value) (below : List Frame) (meth : Method) (c : Code) (H : Heap) (locs : List Loc) (cells slots : Nat) (Q : State → Prop) (g : JFrame) (q : Addr) : Prop :=
  ∀ T : State, T.heap = H → Stand p l e R s m args below meth c T locs cells slots → ∃ t, Steps p.tables e below ((T.setTop g).pushFrame (.throwing q)) t ∧ Q t
section TY3
variable {p : Program} {l : Launch} {e : Env} {R : Room} {s : State} {m : MethodId} {args : Array Value} {below : List Frame} {meth : Method} {c : Code} {H : Heap} {locs : List Loc} {cells slots : Nat} {Q : State → Prop} {pc maxL : Nat} {ls : Array Slot} {XC : String → Prop} {rest : List Value}
/-- a virtual call of a method that throws -/
theorem xc_V {cc : ByteArray} {nL n : Nat} {own C : String} {index : Nat} {y : MethodName} {bytes : ByteArray} {maxL : Nat} {ret : Option FieldType} {ws : List Cond} {rm : Room} {Pc : Array Value → State → Prop} {b : Addr} {As : List Value}
    (S : CallFix p m c cc nL s args aW own) (hM : MetFree l y (headSpec ws rm) Pc (fun _ _ _ _ _ => True) (xQ XC)) (cw : CallW R s args own C index y bytes maxL ret ws rm 1 6 n) (hp : PreV s H C b Pc As)
    (hn : As.length = n) (hsize : ls.size = nL) (hW : 2 * (F0 m pc ls rest).monitorRoom + (rest.map fun v => v.category).sum ≤ 8) (hdg : decode cc pc = .ok (.invokevirtual index, 3)) (hf : cells + 1 ≤ R.cells ∧ slots + 6 ≤ R.slots)
    (kk : ∀ (E : String) (q : Addr) (ce : Cell) (H1 : Heap), XC E → H1[q]? = some ce → ce.vm = .none → s.vm.findClass E = some ce.cls → H.size ≤ H1.size → (∀ i : Nat, i < H.size → H1[i]? = H[i]?) → xW p l e R s m args below meth c H1 locs (cells + 1) (slots + 6) Q (F0 m pc ls rest) q) :
    W p l e R s m args below meth c H locs cells slots Q (F0 m pc ls (As.reverse ++ .ref b :: rest)) := by
  obtain ⟨⟨hrc, hrs, hfr, hlo, hws, hcw, hcode, hini, hy, hlen, hl⟩, hin, hse⟩ := cw
  obtain ⟨hx, hb, hml, ho, -⟩ := S
  obtain ⟨hbl, ⟨cellB, hcB, hoB, hclB⟩, hPc⟩ := hp
  subst hb
  intro T hT X
  obtain ⟨mk, methM, hnamed, hmethM, hstM, habM⟩ := Cond.instanceMethod_spec hin
  obtain ⟨methM', cM, hmethM', hcM, -, hlM, -, -, -, hsigM⟩ := Cond.code_spec hnamed hcode
  cases hmethM.symm.trans hmethM'
  obtain ⟨c2, r2, m2, q1, q2, q3, q4, kP, hkP, hkPi⟩ := Cond.selects_spec hse
  cases hclB.symm.trans q1
  cases (State.methodFound?_of_named hnamed hy).symm.trans q2
  cases hnamed.symm.trans q3
  have hselP : selectMethod e.platform s.vm cellB.cls mk = .method mk := by rw [Launch.admits_selectMethod X.admits]; exact q4
  obtain ⟨vm₁, X₁, hstep₁⟩ := X.invokevirtual hx ho hl hnamed hmethM hstM hkP hkPi hy (a := b) (cell := cellB) (by rw [hT]; exact hcB)
    (fun z h => by rw [h] at hoB; cases hoB) hselP hmethM habM hkP hkPi (g := F0 m pc ls (As.reverse ++ .ref b :: rest)) rfl (argsL := As) (rest := rest) (hn.trans (hlen _ hsigM)) rfl hdg
  have hn1 : (T.setVm vm₁).methodNamed? y = some mk := X₁.named hnamed
  have h2 : (Cond.code y bytes maxL ret).before (Value.ref b :: As).toArray (T.setVm vm₁) = true := hws _ hcw _ _ X₁.warmed
  have h3 : (Cond.initialized y.cls).before (Value.ref b :: As).toArray (T.setVm vm₁) = true := word_at X₁.warmed (Or.inl (by first | rfl | simp [Cond.onTables, Cond.keeps, Cond.steady])) hini
  obtain ⟨methY, cY, hmY, hcY, -, hlY, -, -, -, -⟩ := Cond.code_spec hn1 h2
  obtain ⟨kY, hkY, -⟩ := className_of_methodNamed hn1
  have hinitY : kY.init = .initialized := Cond.initialized_spec (findClass_of_methodNamed hn1) hkY h3
  have hW' : 2 * (F0 m pc ls rest).monitorRoom + ((F0 m pc ls rest).stack.map fun v => v.category).sum ≤ 8 := hW
  have happ : (headSpec ws rm).appliesLoose y e.platform ((T.setVm vm₁).calling (F0 m pc ls rest) mk (Value.ref b :: As).toArray) = true :=
    Spec.appliesLoose_calling (g := F0 m pc ls rest) X₁.here hdg hn1 hkY hinitY
      (X₁.room_calling (g := F0 m pc ls rest) (R' := (headSpec ws rm).room) (hsize.trans hml.symm) hmY hcY hfr (by rw [hlY]; show _ + rm.locals ≤ _; omega) (by show cells + rm.cells ≤ _; rw [hrc]; exact hf.1) (by show slots + rm.slots ≤ _; rw [hrs]; exact hf.2)) (atoms_intro fun w hw => hws w hw _ _ X₁.warmed)
  obtain ⟨g₀, hfr0⟩ := X₁.frames_eq
  have hfrm : ((T.setVm vm₁).setTop (F0 m pc ls rest)).frames = [.java (F0 m pc ls rest)] ++ below := by rw [State.frames_setTop _ hfr0]; rfl
  obtain ⟨o, s₂, hsteps, -, hend, hq⟩ := Steps.callFree hM p X₁.admits X₁.cas X₁.clock (acts := []) hfrm happ (hbl _ _ _ _ (hPc (T.setVm vm₁) hT X₁.warmed)) trivial
  obtain ⟨q, E, ce, rfl, hE, hce, hcv, hcl, hW2, hsm⟩ := hq
  rw [hfrm] at hend
  obtain ⟨T', X', hTW, hTs, ht⟩ := X₁.outOfThrown (g := F0 m pc ls rest) rfl hend hW2 hsm
  rw [List.append_nil] at X'
  have hheap : T'.heap = s₂.heap := by rw [ht]; exact (Stand.throwing_heap T' _ q).symm
  have hsz := hTs.2.1
  have hkeep : ∀ i : Nat, i < H.size → T'.heap[i]? = H[i]? := fun i hi => by
    obtain ⟨-, -, -, -, -, h6⟩ := hTs
    have hi' : i < (T.setVm vm₁).heap.size := by show i < T.heap.size; rw [hT]; exact hi
    obtain ⟨c9, e1, e2, e3, e4⟩ := h6 i _ (Array.getElem?_eq_getElem hi')
    have hs : c9.slots = ((T.setVm vm₁).heap[i]).slots := Array.ext_getElem? fun j => e4 j (fun hm => by cases hm)
    have h9 : c9 = (T.setVm vm₁).heap[i] := by rw [hs] at e2; exact e2
    have e5 : T'.heap[i]? = some c9 := e1
    rw [e5, h9, ← Array.getElem?_eq_getElem hi']
    show T.heap[i]? = _
    rw [hT]
  obtain ⟨t2, a1, b1⟩ := kk E q ce T'.heap hE (by rw [hheap]; exact hce) hcv (by
      have : (T.setVm vm₁).vm.findClass E = some ce.cls := hcl
      rw [X₁.warmed.alike.findClass] at this; exact this) (by have h9 : T.heap.size ≤ T'.heap.size := hsz; rw [hT] at h9; exact h9) hkeep T' rfl X'
  refine ⟨t2, hstep₁ _ (fun acts => ?_), b1⟩
  rw [doInvoke_state]
  rw [ht] at hsteps
  exact hsteps.trans a1
/-- .. caught in a method with a table of handlers -/
theorem xc_catch {own name E : String} {ce : Cell} {q : Addr} (hown : s.vm.findClass own = some m.cls) (pre : List ExceptionTableEntry) (x : ExceptionTableEntry) (suf : List ExceptionTableEntry) (hsplit : c.exceptionTable.toList = pre ++ x :: suf)
    (hpass : ∀ z ∈ pre, covers z pc = true ∧ z.catchType ≠ 0 ∧ ∃ nm : String, (Cond.classLink own z.catchType nm).before args s = true ∧ (Cond.not (.castable E nm)).before args s = true) (hx : covers x pc = true) (h0 : x.catchType ≠ 0)
    (hlink : (Cond.classLink own x.catchType name).before args s = true) (hcast : (Cond.castable E name).before args s = true) (hcell : H[q]? = some ce) (hv : ce.vm = .none) (hcl : s.vm.findClass E = some ce.cls)
    (kk : W p l e R s m args below meth c H locs cells slots Q (F0 m x.handlerPc ls [.ref q])) : xW p l e R s m args below meth c H locs cells slots Q (F0 m pc ls rest) q := by
  intro T hT X
  have hpl : e.platform.magicAccessors = ({} : Platform).magicAccessors := by rw [X.admits.platform]
  obtain ⟨c3, c4, hc3, hc4, hasg⟩ := Cond.castable_spec hcast
  cases Option.some.inj (hc3.symm.trans hcl)
  obtain ⟨c5, hc5, hcl5⟩ := Cond.classLink_spec hown hlink e.platform hpl
  cases Option.some.inj (hc4.symm.trans hc5)
  obtain ⟨vm', X', st⟩ := ct_to X q (g := F0 m pc ls rest) rfl (by rw [hT]; exact hcell) hv (by obtain ⟨k9, h9, -⟩ := Vm.findClass_spec hcl; exact ⟨k9, h9⟩) pre x suf hsplit (fun z hz => by
    obtain ⟨z1, z2, nm, z3, z4⟩ := hpass z hz
    obtain ⟨c6, hc6, hcl6⟩ := Cond.classLink_spec hown z3 e.platform hpl
    have hv9 := Cond.holds_not_iff.mp z4
    simp only [Cond.value, hcl, hc6] at hv9
    exact ⟨z1, z2, c6, hcl6, Option.some.inj hv9⟩) ⟨hx, h0, c4, hcl5, hasg⟩
  obtain ⟨t, a1, b1⟩ := kk (T.setVm vm') hT X'
  exact ⟨t, st t a1, b1⟩
end TY3
end
section
/-! what the class throws on a new object; compile of an empty row -/
set_option maxRecDepth 100000 in
theorem at_ISE {args : Array Value} {s : State} (hts : ∀ w ∈ aW, w.before args s = true) (hT : pg_T s) : ∀ a ∈ Bundle.ownAtoms0 yX5_compile.cls 89 xISE xUp, a.before args s = true :=
  List.forall_mem_cons.mpr ⟨hts _ (aw_t (ti_1 (List.mem_of_getElem? (i := 14) rfl)) rfl), List.forall_mem_cons.mpr ⟨hts _ (aw_t (ti_3 (List.mem_of_getElem? (i := 72) rfl)) rfl), List.forall_mem_cons.mpr ⟨hts _ (aw_t (ti_3 (List.mem_of_getElem? (i := 81) rfl)) rfl), List.forall_mem_cons.mpr ⟨hts _ (aw_t (ti_3 (List.mem_of_getElem? (i := 85) rfl)) rfl), List.forall_mem_cons.mpr ⟨hts _ (aw_t (ti_3 (List.mem_of_getElem? (i := 88) rfl)) rfl), List.forall_mem_cons.mpr ⟨hts _ (aw_t (ti_3 (List.mem_of_getElem? (i := 90) rfl)) rfl), List.forall_mem_cons.mpr ⟨hts _ (aw_t (ti_3 (List.mem_of_getElem? (i := 73) rfl)) rfl), List.forall_mem_cons.mpr ⟨hts _ (aw_t (ti_3 (List.mem_of_getElem? (i := 74) rfl)) rfl), List.forall_mem_cons.mpr ⟨hts _ (aw_t (ti_1 (List.mem_of_getElem? (i := 26) rfl)) rfl), List.forall_mem_cons.mpr ⟨hts _ (aw_t (ti_1 (List.mem_of_getElem? (i := 27) rfl)) rfl), List.forall_mem_cons.mpr ⟨hts _ (aw_t (ti_3 (List.mem_of_getElem? (i := 75) rfl)) rfl), List.forall_mem_cons.mpr ⟨hts _ (aw_t (ti_3 (List.mem_of_getElem? (i := 80) rfl)) rfl), List.forall_mem_cons.mpr ⟨hts _ (aw_t (ti_3 (List.mem_of_getElem? (i := 86) rfl)) rfl), List.forall_mem_cons.mpr ⟨hts _ (aw_t (ti_3 (List.mem_of_getElem? (i := 102) rfl)) rfl), List.forall_mem_cons.mpr ⟨hts _ (aw_t (ti_3 (List.mem_of_getElem? (i := 62) rfl)) rfl), List.forall_mem_cons.mpr ⟨hts _ (aw_t (ti_3 (List.mem_of_getElem? (i := 103) rfl)) rfl), List.forall_mem_cons.mpr ⟨hts _ (aw_t (ti_3 (List.mem_of_getElem? (i := 64) rfl)) rfl), List.forall_mem_cons.mpr ⟨hts _ (aw_t (ti_3 (List.mem_of_getElem? (i := 104) rfl)) rfl), List.forall_mem_cons.mpr ⟨hts _ (aw_t (ti_3 (List.mem_of_getElem? (i := 66) rfl)) rfl), List.forall_mem_cons.mpr ⟨hts _ (aw_t (ti_3 (List.mem_of_getElem? (i := 76) rfl)) rfl), List.forall_mem_cons.mpr ⟨hT.2.1.1, List.forall_mem_cons.mpr ⟨hts _ (aw_t (ti_3 (List.mem_of_getElem? (i := 78) rfl)) rfl), List.forall_mem_cons.mpr ⟨hT.2.2.1, List.forall_mem_cons.mpr ⟨hts _ (aw_t (ti_3 (List.mem_of_getElem? (i := 68) rfl)) rfl), List.forall_mem_cons.mpr ⟨hts _ (aw_t (ti_3 (List.mem_of_getElem? (i := 132) rfl)) rfl), List.forall_mem_cons.mpr ⟨hts _ (aw_t (ti_3 (List.mem_of_getElem? (i := 133) rfl)) rfl), List.forall_mem_cons.mpr ⟨hts _ (aw_t (ti_3 (List.mem_of_getElem? (i := 134) rfl)) rfl), List.forall_mem_cons.mpr ⟨hts _ (aw_t (ti_3 (List.mem_of_getElem? (i := 95) rfl)) rfl), List.forall_mem_cons.mpr ⟨va_Nw.use rfl (hT.1 _ (List.mem_of_getElem? (i := 3) rfl)), List.forall_mem_cons.mpr ⟨hts _ (aw_t (ti_3 (List.mem_of_getElem? (i := 95) rfl)) rfl), List.forall_mem_cons.mpr ⟨hts _ (aw_t (ti_3 (List.mem_of_getElem? (i := 96) rfl)) rfl), List.forall_mem_cons.mpr ⟨hts _ (aw_t (ti_3 (List.mem_of_getElem? (i := 97) rfl)) rfl), List.forall_mem_cons.mpr ⟨hts _ (aw_t (ti_3 (List.mem_of_getElem? (i := 98) rfl)) rfl), List.forall_mem_cons.mpr ⟨va_Nw.use rfl (hT.1 _ (List.mem_of_getElem? (i := 4) rfl)), List.forall_mem_cons.mpr ⟨hts _ (aw_t (ti_3 (List.mem_of_getElem? (i := 98) rfl)) rfl), List.forall_mem_cons.mpr ⟨hts _ (aw_t (ti_3 (List.mem_of_getElem? (i := 99) rfl)) rfl), List.forall_mem_cons.mpr ⟨hts _ (aw_t (ti_3 (List.mem_of_getElem? (i := 100) rfl)) rfl), List.forall_mem_cons.mpr ⟨hts _ (aw_t (ti_3 (List.mem_of_getElem? (i := 73) rfl)) rfl), List.forall_mem_cons.mpr ⟨va_Nw.use rfl (hT.1 _ (List.mem_of_getElem? (i := 5) rfl)), List.forall_mem_cons.mpr ⟨hts _ (aw_t (ti_3 (List.mem_of_getElem? (i := 131) rfl)) rfl), List.forall_mem_cons.mpr ⟨hts _ (aw_t (ti_3 (List.mem_of_getElem? (i := 123) rfl)) rfl), List.forall_mem_cons.mpr ⟨va_Nw.use rfl (hT.1 _ (List.mem_of_getElem? (i := 0) rfl)), List.forall_mem_cons.mpr ⟨hts _ (aw_t (ti_3 (List.mem_of_getElem? (i := 125) rfl)) rfl), List.forall_mem_cons.mpr ⟨hts _ (aw_t (ti_3 (List.mem_of_getElem? (i := 83) rfl)) rfl), List.forall_mem_cons.mpr ⟨hts _ (aw_t (ti_3 (List.mem_of_getElem? (i := 126) rfl)) rfl), List.forall_mem_cons.mpr ⟨hts _ (aw_t (ti_3 (List.mem_of_getElem? (i := 127) rfl)) rfl), List.forall_mem_cons.mpr ⟨hts _ (aw_t (ti_3 (List.mem_of_getElem? (i := 128) rfl)) rfl), List.forall_mem_cons.mpr ⟨hts _ (aw_t (ti_3 (List.mem_of_getElem? (i := 129) rfl)) rfl), List.forall_mem_cons.mpr ⟨hT.2.1.2, List.forall_mem_cons.mpr ⟨hT.2.2.2, List.forall_mem_cons.mpr ⟨hts _ (aw_t (ti_3 (List.mem_of_getElem? (i := 71) rfl)) rfl), List.forall_mem_cons.mpr ⟨hts _ (aw_t (ti_3 (List.mem_of_getElem? (i := 70) rfl)) rfl), List.forall_mem_cons.mpr ⟨hts _ (aw_t (ti_3 (List.mem_of_getElem? (i := 130) rfl)) rfl), fun _ h => absurd h List.not_mem_nil⟩⟩⟩⟩⟩⟩⟩⟩⟩⟩⟩⟩⟩⟩⟩⟩⟩⟩⟩⟩⟩⟩⟩⟩⟩⟩⟩⟩⟩⟩⟩⟩⟩⟩⟩⟩⟩⟩⟩⟩⟩⟩⟩⟩⟩⟩⟩⟩⟩⟩⟩⟩⟩
set_option maxRecDepth 100000 in
theorem at_IAE {args : Array Value} {s : State} (hts : ∀ w ∈ aW, w.before args s = true) (hT : pg_T s) : ∀ a ∈ Bundle.ownAtoms0 yX5_compile.cls 72 xIAE xUp, a.before args s = true :=
  List.forall_mem_cons.mpr ⟨hts _ (aw_t (ti_1 (List.mem_of_getElem? (i := 14) rfl)) rfl), List.forall_mem_cons.mpr ⟨hts _ (aw_t (ti_3 (List.mem_of_getElem? (i := 72) rfl)) rfl), List.forall_mem_cons.mpr ⟨hts _ (aw_t (ti_3 (List.mem_of_getElem? (i := 81) rfl)) rfl), List.forall_mem_cons.mpr ⟨hts _ (aw_t (ti_3 (List.mem_of_getElem? (i := 85) rfl)) rfl), List.forall_mem_cons.mpr ⟨hts _ (aw_t (ti_3 (List.mem_of_getElem? (i := 88) rfl)) rfl), List.forall_mem_cons.mpr ⟨hts _ (aw_t (ti_3 (List.mem_of_getElem? (i := 90) rfl)) rfl), List.forall_mem_cons.mpr ⟨hts _ (aw_t (ti_3 (List.mem_of_getElem? (i := 73) rfl)) rfl), List.forall_mem_cons.mpr ⟨hts _ (aw_t (ti_3 (List.mem_of_getElem? (i := 74) rfl)) rfl), List.forall_mem_cons.mpr ⟨hts _ (aw_t (ti_1 (List.mem_of_getElem? (i := 26) rfl)) rfl), List.forall_mem_cons.mpr ⟨hts _ (aw_t (ti_1 (List.mem_of_getElem? (i := 27) rfl)) rfl), List.forall_mem_cons.mpr ⟨hts _ (aw_t (ti_3 (List.mem_of_getElem? (i := 75) rfl)) rfl), List.forall_mem_cons.mpr ⟨hts _ (aw_t (ti_3 (List.mem_of_getElem? (i := 80) rfl)) rfl), List.forall_mem_cons.mpr ⟨hts _ (aw_t (ti_3 (List.mem_of_getElem? (i := 86) rfl)) rfl), List.forall_mem_cons.mpr ⟨hts _ (aw_t (ti_3 (List.mem_of_getElem? (i := 102) rfl)) rfl), List.forall_mem_cons.mpr ⟨hts _ (aw_t (ti_3 (List.mem_of_getElem? (i := 62) rfl)) rfl), List.forall_mem_cons.mpr ⟨hts _ (aw_t (ti_3 (List.mem_of_getElem? (i := 103) rfl)) rfl), List.forall_mem_cons.mpr ⟨hts _ (aw_t (ti_3 (List.mem_of_getElem? (i := 64) rfl)) rfl), List.forall_mem_cons.mpr ⟨hts _ (aw_t (ti_3 (List.mem_of_getElem? (i := 104) rfl)) rfl), List.forall_mem_cons.mpr ⟨hts _ (aw_t (ti_3 (List.mem_of_getElem? (i := 66) rfl)) rfl), List.forall_mem_cons.mpr ⟨hts _ (aw_t (ti_3 (List.mem_of_getElem? (i := 76) rfl)) rfl), List.forall_mem_cons.mpr ⟨hT.2.1.1, List.forall_mem_cons.mpr ⟨hts _ (aw_t (ti_3 (List.mem_of_getElem? (i := 78) rfl)) rfl), List.forall_mem_cons.mpr ⟨hT.2.2.1, List.forall_mem_cons.mpr ⟨hts _ (aw_t (ti_3 (List.mem_of_getElem? (i := 68) rfl)) rfl), List.forall_mem_cons.mpr ⟨hts _ (aw_t (ti_3 (List.mem_of_getElem? (i := 92) rfl)) rfl), List.forall_mem_cons.mpr ⟨hts _ (aw_t (ti_3 (List.mem_of_getElem? (i := 93) rfl)) rfl), List.forall_mem_cons.mpr ⟨hts _ (aw_t (ti_3 (List.mem_of_getElem? (i := 94) rfl)) rfl), List.forall_mem_cons.mpr ⟨hts _ (aw_t (ti_3 (List.mem_of_getElem? (i := 95) rfl)) rfl), List.forall_mem_cons.mpr ⟨va_Nw.use rfl (hT.1 _ (List.mem_of_getElem? (i := 3) rfl)), List.forall_mem_cons.mpr ⟨hts _ (aw_t (ti_3 (List.mem_of_getElem? (i := 95) rfl)) rfl), List.forall_mem_cons.mpr ⟨hts _ (aw_t (ti_3 (List.mem_of_getElem? (i := 96) rfl)) rfl), List.forall_mem_cons.mpr ⟨hts _ (aw_t (ti_3 (List.mem_of_getElem? (i := 97) rfl)) rfl), List.forall_mem_cons.mpr ⟨hts _ (aw_t (ti_3 (List.mem_of_getElem? (i := 98) rfl)) rfl), List.forall_mem_cons.mpr ⟨va_Nw.use rfl (hT.1 _ (List.mem_of_getElem? (i := 4) rfl)), List.forall_mem_cons.mpr ⟨hts _ (aw_t (ti_3 (List.mem_of_getElem? (i := 98) rfl)) rfl), List.forall_mem_cons.mpr ⟨hts _ (aw_t (ti_3 (List.mem_of_getElem? (i := 99) rfl)) rfl), List.forall_mem_cons.mpr ⟨hts _ (aw_t (ti_3 (List.mem_of_getElem? (i := 100) rfl)) rfl), List.forall_mem_cons.mpr ⟨hts _ (aw_t (ti_3 (List.mem_of_getElem? (i := 73) rfl)) rfl), List.forall_mem_cons.mpr ⟨va_Nw.use rfl (hT.1 _ (List.mem_of_getElem? (i := 5) rfl)), List.forall_mem_cons.mpr ⟨hts _ (aw_t (ti_3 (List.mem_of_getElem? (i := 91) rfl)) rfl), List.forall_mem_cons.mpr ⟨hts _ (aw_t (ti_3 (List.mem_of_getElem? (i := 51) rfl)) rfl), List.forall_mem_cons.mpr ⟨va_Nw.use rfl (hT.1 _ (List.mem_of_getElem? (i := 1) rfl)), List.forall_mem_cons.mpr ⟨hts _ (aw_t (ti_3 (List.mem_of_getElem? (i := 59) rfl)) rfl), List.forall_mem_cons.mpr ⟨hts _ (aw_t (ti_3 (List.mem_of_getElem? (i := 60) rfl)) rfl), List.forall_mem_cons.mpr ⟨hts _ (aw_t (ti_3 (List.mem_of_getElem? (i := 61) rfl)) rfl), List.forall_mem_cons.mpr ⟨hts _ (aw_t (ti_3 (List.mem_of_getElem? (i := 63) rfl)) rfl), List.forall_mem_cons.mpr ⟨hts _ (aw_t (ti_3 (List.mem_of_getElem? (i := 65) rfl)) rfl), List.forall_mem_cons.mpr ⟨hts _ (aw_t (ti_3 (List.mem_of_getElem? (i := 67) rfl)) rfl), List.forall_mem_cons.mpr ⟨hT.2.1.2, List.forall_mem_cons.mpr ⟨hT.2.2.2, List.forall_mem_cons.mpr ⟨hts _ (aw_t (ti_3 (List.mem_of_getElem? (i := 71) rfl)) rfl), List.forall_mem_cons.mpr ⟨hts _ (aw_t (ti_3 (List.mem_of_getElem? (i := 70) rfl)) rfl), List.forall_mem_cons.mpr ⟨hts _ (aw_t (ti_3 (List.mem_of_getElem? (i := 69) rfl)) rfl), fun _ h => absurd h List.not_mem_nil⟩⟩⟩⟩⟩⟩⟩⟩⟩⟩⟩⟩⟩⟩⟩⟩⟩⟩⟩⟩⟩⟩⟩⟩⟩⟩⟩⟩⟩⟩⟩⟩⟩⟩⟩⟩⟩⟩⟩⟩⟩⟩⟩⟩⟩⟩⟩⟩⟩⟩⟩⟩⟩
set_option maxRecDepth 100000 in
theorem at_IOO {args : Array Value} {s : State} (hts : ∀ w ∈ aW, w.before args s = true) (hT : pg_T s) : ∀ a ∈ Bundle.ownAtoms0 yX5_compile.cls 100 xIOO xUp, a.before args s = true :=
  List.forall_mem_cons.mpr ⟨hts _ (aw_t (ti_1 (List.mem_of_getElem? (i := 14) rfl)) rfl), List.forall_mem_cons.mpr ⟨hts _ (aw_t (ti_3 (List.mem_of_getElem? (i := 72) rfl)) rfl), List.forall_mem_cons.mpr ⟨hts _ (aw_t (ti_3 (List.mem_of_getElem? (i := 81) rfl)) rfl), List.forall_mem_cons.mpr ⟨hts _ (aw_t (ti_3 (List.mem_of_getElem? (i := 85) rfl)) rfl), List.forall_mem_cons.mpr ⟨hts _ (aw_t (ti_3 (List.mem_of_getElem? (i := 88) rfl)) rfl), List.forall_mem_cons.mpr ⟨hts _ (aw_t (ti_3 (List.mem_of_getElem? (i := 90) rfl)) rfl), List.forall_mem_cons.mpr ⟨hts _ (aw_t (ti_3 (List.mem_of_getElem? (i := 73) rfl)) rfl), List.forall_mem_cons.mpr ⟨hts _ (aw_t (ti_3 (List.mem_of_getElem? (i := 74) rfl)) rfl), List.forall_mem_cons.mpr ⟨hts _ (aw_t (ti_1 (List.mem_of_getElem? (i := 26) rfl)) rfl), List.forall_mem_cons.mpr ⟨hts _ (aw_t (ti_1 (List.mem_of_getElem? (i := 27) rfl)) rfl), List.forall_mem_cons.mpr ⟨hts _ (aw_t (ti_3 (List.mem_of_getElem? (i := 75) rfl)) rfl), List.forall_mem_cons.mpr ⟨hts _ (aw_t (ti_3 (List.mem_of_getElem? (i := 80) rfl)) rfl), List.forall_mem_cons.mpr ⟨hts _ (aw_t (ti_3 (List.mem_of_getElem? (i := 86) rfl)) rfl), List.forall_mem_cons.mpr ⟨hts _ (aw_t (ti_3 (List.mem_of_getElem? (i := 102) rfl)) rfl), List.forall_mem_cons.mpr ⟨hts _ (aw_t (ti_3 (List.mem_of_getElem? (i := 62) rfl)) rfl), List.forall_mem_cons.mpr ⟨hts _ (aw_t (ti_3 (List.mem_of_getElem? (i := 103) rfl)) rfl), List.forall_mem_cons.mpr ⟨hts _ (aw_t (ti_3 (List.mem_of_getElem? (i := 64) rfl)) rfl), List.forall_mem_cons.mpr ⟨hts _ (aw_t (ti_3 (List.mem_of_getElem? (i := 104) rfl)) rfl), List.forall_mem_cons.mpr ⟨hts _ (aw_t (ti_3 (List.mem_of_getElem? (i := 66) rfl)) rfl), List.forall_mem_cons.mpr ⟨hts _ (aw_t (ti_3 (List.mem_of_getElem? (i := 76) rfl)) rfl), List.forall_mem_cons.mpr ⟨hT.2.1.1, List.forall_mem_cons.mpr ⟨hts _ (aw_t (ti_3 (List.mem_of_getElem? (i := 78) rfl)) rfl), List.forall_mem_cons.mpr ⟨hT.2.2.1, List.forall_mem_cons.mpr ⟨hts _ (aw_t (ti_3 (List.mem_of_getElem? (i := 68) rfl)) rfl), List.forall_mem_cons.mpr ⟨hts _ (aw_t (ti_4 (List.mem_of_getElem? (i := 33) rfl)) rfl), List.forall_mem_cons.mpr ⟨hts _ (aw_t (ti_4 (List.mem_of_getElem? (i := 34) rfl)) rfl), List.forall_mem_cons.mpr ⟨hts _ (aw_t (ti_4 (List.mem_of_getElem? (i := 35) rfl)) rfl), List.forall_mem_cons.mpr ⟨hts _ (aw_t (ti_3 (List.mem_of_getElem? (i := 95) rfl)) rfl), List.forall_mem_cons.mpr ⟨va_Nw.use rfl (hT.1 _ (List.mem_of_getElem? (i := 3) rfl)), List.forall_mem_cons.mpr ⟨hts _ (aw_t (ti_3 (List.mem_of_getElem? (i := 95) rfl)) rfl), List.forall_mem_cons.mpr ⟨hts _ (aw_t (ti_3 (List.mem_of_getElem? (i := 96) rfl)) rfl), List.forall_mem_cons.mpr ⟨hts _ (aw_t (ti_3 (List.mem_of_getElem? (i := 97) rfl)) rfl), List.forall_mem_cons.mpr ⟨hts _ (aw_t (ti_3 (List.mem_of_getElem? (i := 98) rfl)) rfl), List.forall_mem_cons.mpr ⟨va_Nw.use rfl (hT.1 _ (List.mem_of_getElem? (i := 4) rfl)), List.forall_mem_cons.mpr ⟨hts _ (aw_t (ti_3 (List.mem_of_getElem? (i := 98) rfl)) rfl), List.forall_mem_cons.mpr ⟨hts _ (aw_t (ti_3 (List.mem_of_getElem? (i := 99) rfl)) rfl), List.forall_mem_cons.mpr ⟨hts _ (aw_t (ti_3 (List.mem_of_getElem? (i := 100) rfl)) rfl), List.forall_mem_cons.mpr ⟨hts _ (aw_t (ti_3 (List.mem_of_getElem? (i := 73) rfl)) rfl), List.forall_mem_cons.mpr ⟨va_Nw.use rfl (hT.1 _ (List.mem_of_getElem? (i := 5) rfl)), List.forall_mem_cons.mpr ⟨hts _ (aw_t (ti_4 (List.mem_of_getElem? (i := 32) rfl)) rfl), List.forall_mem_cons.mpr ⟨hts _ (aw_t (ti_4 (List.mem_of_getElem? (i := 24) rfl)) rfl), List.forall_mem_cons.mpr ⟨va_Nw.use rfl (hT.1 _ (List.mem_of_getElem? (i := 2) rfl)), List.forall_mem_cons.mpr ⟨hts _ (aw_t (ti_4 (List.mem_of_getElem? (i := 26) rfl)) rfl), List.forall_mem_cons.mpr ⟨hts _ (aw_t (ti_3 (List.mem_of_getElem? (i := 84) rfl)) rfl), List.forall_mem_cons.mpr ⟨hts _ (aw_t (ti_4 (List.mem_of_getElem? (i := 27) rfl)) rfl), List.forall_mem_cons.mpr ⟨hts _ (aw_t (ti_4 (List.mem_of_getElem? (i := 28) rfl)) rfl), List.forall_mem_cons.mpr ⟨hts _ (aw_t (ti_4 (List.mem_of_getElem? (i := 29) rfl)) rfl), List.forall_mem_cons.mpr ⟨hts _ (aw_t (ti_4 (List.mem_of_getElem? (i := 30) rfl)) rfl), List.forall_mem_cons.mpr ⟨hT.2.1.2, List.forall_mem_cons.mpr ⟨hT.2.2.2, List.forall_mem_cons.mpr ⟨hts _ (aw_t (ti_3 (List.mem_of_getElem? (i := 71) rfl)) rfl), List.forall_mem_cons.mpr ⟨hts _ (aw_t (ti_3 (List.mem_of_getElem? (i := 70) rfl)) rfl), List.forall_mem_cons.mpr ⟨hts _ (aw_t (ti_4 (List.mem_of_getElem? (i := 31) rfl)) rfl), fun _ h => absurd h List.not_mem_nil⟩⟩⟩⟩⟩⟩⟩⟩⟩⟩⟩⟩⟩⟩⟩⟩⟩⟩⟩⟩⟩⟩⟩⟩⟩⟩⟩⟩⟩⟩⟩⟩⟩⟩⟩⟩⟩⟩⟩⟩⟩⟩⟩⟩⟩⟩⟩⟩⟩⟩⟩⟩⟩

set_option maxHeartbeats 4000000 in
set_option maxRecDepth 100000 in
theorem p_row_size (l : Launch) (G : PG) (h a n : Nat) (k : Int32) (f : Nat → Int32) : Pi l yX3_size (Cond.code yX3_size cX3_size 1 (some .int) :: aW) { frames := 0, cells := 0, slots := 0, locals := 0 } G [(h, .inr (3, [.ref a, .int k])), (a, .inl (G.2 2, n, .inl f))] [.ref h] (fun (r9 : Int32) => r9 = k) := by
  refine ofP (y := yX3_size) (G := G) (cc := cX3_size) (maxL := 1) (ret := (some .int)) (by decide) rfl ?_
  intro p e s m below meth c F hK hP hD
  have hx := F.1.1; have hb := F.1.2.1; have hml := F.1.2.2.1; have hts := F.1.2.2.2.2
  have hown : s.vm.findClass RX3 = some m.cls := F.1.2.2.2.1
  have hl := lv_entry ([.ref h]) (n := 1) (Nat.le_of_ble_eq_true rfl)
  rw [lg_entry_eq]
  generalize (lg_sl ([.ref h]) ++ List.replicate (1 - (lg_sl ([.ref h])).length) Slot.unset).toArray = ls at hl ⊢
  have hl : lv_has ls 1 [(0, .ref h)] := hl
  refine lv_aload_n hx hb dX3_size_0 rfl (lv_at hl 0 rfl) ?_
  refine va_get (D := G.1) (ci := 3) (v := .int k) (C := RX3) (T := TX3) (N := 2) hx hb hts inX3 hown hK.1 hP 0 rfl rfl 1 (by decide) (hts _ w_41) (fun _ h9 => h9) rfl dX3_size_1 ?_
  exact en_p F k (by rfl) rfl dX3_size_4

theorem dX5_matches_0 : decode cX5_matches 0 = .ok (.aload_n 0, 1) := by decide +kernel
theorem dX5_matches_1 : decode cX5_matches 1 = .ok (.getfield 76, 3) := by decide +kernel
theorem dX5_matches_4 : decode cX5_matches 4 = .ok (.ifCond .ne 11, 3) := by decide +kernel
theorem dX5_matches_7 : decode cX5_matches 7 = .ok (.new 87, 3) := by decide +kernel
theorem dX5_matches_10 : decode cX5_matches 10 = .ok (.dup, 1) := by decide +kernel
theorem dX5_matches_11 : decode cX5_matches 11 = .ok (.invokespecial 89, 3) := by decide +kernel
theorem dX5_matches_14 : decode cX5_matches 14 = .ok (.athrow, 1) := by decide +kernel
set_option maxHeartbeats 4000000 in
set_option maxRecDepth 100000 in
theorem x_matches (l : Launch) (G : PG) (hst : l.stackTraces = false) (h se tx rs sp md pf pt : Nat) (mt mf mo pcs : Int32) (msp : Int64) : Xt l yX5_matches (Cond.code yX5_matches cX5_matches 1 (some .boolean) :: aW) { frames := 6, cells := 1, slots := 6, locals := 100 } G [(h, .inr (5, [.ref se, .ref tx, .ref rs, .ref sp, .int 0, .int mt, .int mf, .int mo, .long msp, .ref md, .ref pf, .ref pt, .int pcs]))] [.ref h] (fun E => E = xISE) := by
  refine ofX (y := yX5_matches) (G := G) (cc := cX5_matches) (maxL := 1) (ret := (some .boolean)) (by decide) rfl ?_
  intro p e s m below meth c F hK hT hex hP hD
  have hx := F.1.1; have hb := F.1.2.1; have hml := F.1.2.2.1; have hts := F.1.2.2.2.2
  have hown : s.vm.findClass RX5 = some m.cls := F.1.2.2.2.1
  have hl := lv_entry ([.ref h]) (n := 1) (Nat.le_of_ble_eq_true rfl)
  rw [lg_entry_eq]
  generalize (lg_sl ([.ref h]) ++ List.replicate (1 - (lg_sl ([.ref h])).length) Slot.unset).toArray = ls at hl ⊢
  have hl : lv_has ls 1 [(0, .ref h)] := hl
  refine lv_aload_n hx hb dX5_matches_0 rfl (lv_at hl 0 rfl) ?_
  refine va_get (D := G.1) (ci := 5) (v := .int 0) (C := RX5) (T := TX5) (N := 13) hx hb hts inX5 hown hK.1 hP 0 rfl rfl 4 (by decide) (hts _ w_194) (fun _ h9 => h9) rfl dX5_matches_1 ?_
  refine lv_if_ne (tgt := 15) hx hb dX5_matches_4 (by decide) (fun h => absurd rfl h) (fun _ => ?_)
  exact th_0 (E := xISE) (names := xUp) (ik := 87) (ic := 89) F hst (by decide +kernel) (by decide +kernel) (hts _ w_602) (hts _ w_603) (hts _ w_18) (at_ISE hts hT) hex hl.1 dX5_matches_7 dX5_matches_10 dX5_matches_11 dX5_matches_14 (by decide) (by decide) (by decide) (by decide) rfl

theorem dX5_looking_0 : decode cX5_looking 0 = .ok (.aload_n 0, 1) := by decide +kernel
theorem dX5_looking_1 : decode cX5_looking 1 = .ok (.getfield 76, 3) := by decide +kernel
theorem dX5_looking_4 : decode cX5_looking 4 = .ok (.ifCond .ne 11, 3) := by decide +kernel
theorem dX5_looking_7 : decode cX5_looking 7 = .ok (.new 87, 3) := by decide +kernel
theorem dX5_looking_10 : decode cX5_looking 10 = .ok (.dup, 1) := by decide +kernel
theorem dX5_looking_11 : decode cX5_looking 11 = .ok (.invokespecial 89, 3) := by decide +kernel
theorem dX5_looking_14 : decode cX5_looking 14 = .ok (.athrow, 1) := by decide +kernel
set_option maxHeartbeats 4000000 in
set_option maxRecDepth 100000 in
theorem x_looking (l : Launch) (G : PG) (hst : l.stackTraces = false) (h se tx rs sp md pf pt : Nat) (mt mf mo pcs : Int32) (msp : Int64) : Xt l yX5_looking (Cond.code yX5_looking cX5_looking 1 (some .boolean) :: aW) { frames := 6, cells := 1, slots := 6, locals := 100 } G [(h, .inr (5, [.ref se, .ref tx, .ref rs, .ref sp, .int 0, .int mt, .int mf, .int mo, .long msp, .ref md, .ref pf, .ref pt, .int pcs]))] [.ref h] (fun E => E = xISE) := by
  refine ofX (y := yX5_looking) (G := G) (cc := cX5_looking) (maxL := 1) (ret := (some .boolean)) (by decide) rfl ?_
  intro p e s m below meth c F hK hT hex hP hD
  have hx := F.1.1; have hb := F.1.2.1; have hml := F.1.2.2.1; have hts := F.1.2.2.2.2
  have hown : s.vm.findClass RX5 = some m.cls := F.1.2.2.2.1
  have hl := lv_entry ([.ref h]) (n := 1) (Nat.le_of_ble_eq_true rfl)
  rw [lg_entry_eq]
  generalize (lg_sl ([.ref h]) ++ List.replicate (1 - (lg_sl ([.ref h])).length) Slot.unset).toArray = ls at hl ⊢
  have hl : lv_has ls 1 [(0, .ref h)] := hl
  refine lv_aload_n hx hb dX5_looking_0 rfl (lv_at hl 0 rfl) ?_
  refine va_get (D := G.1) (ci := 5) (v := .int 0) (C := RX5) (T := TX5) (N := 13) hx hb hts inX5 hown hK.1 hP 0 rfl rfl 4 (by decide) (hts _ w_194) (fun _ h9 => h9) rfl dX5_looking_1 ?_
  refine lv_if_ne (tgt := 15) hx hb dX5_looking_4 (by decide) (fun h => absurd rfl h) (fun _ => ?_)
  exact th_0 (E := xISE) (names := xUp) (ik := 87) (ic := 89) F hst (by decide +kernel) (by decide +kernel) (hts _ w_602) (hts _ w_603) (hts _ w_18) (at_ISE hts hT) hex hl.1 dX5_looking_7 dX5_looking_10 dX5_looking_11 dX5_looking_14 (by decide) (by decide) (by decide) (by decide) rfl

theorem dX5_replace_0 : decode cX5_replace 0 = .ok (.aload_n 0, 1) := by decide +kernel
theorem dX5_replace_1 : decode cX5_replace 1 = .ok (.getfield 76, 3) := by decide +kernel
theorem dX5_replace_4 : decode cX5_replace 4 = .ok (.ifCond .ne 11, 3) := by decide +kernel
theorem dX5_replace_7 : decode cX5_replace 7 = .ok (.new 87, 3) := by decide +kernel
theorem dX5_replace_10 : decode cX5_replace 10 = .ok (.dup, 1) := by decide +kernel
theorem dX5_replace_11 : decode cX5_replace 11 = .ok (.invokespecial 89, 3) := by decide +kernel
theorem dX5_replace_14 : decode cX5_replace 14 = .ok (.athrow, 1) := by decide +kernel
set_option maxHeartbeats 4000000 in
set_option maxRecDepth 100000 in
theorem x_replace (l : Launch) (G : PG) (hst : l.stackTraces = false) (h se tx rs sp md pf pt : Nat) (mt mf mo pcs : Int32) (msp : Int64) : Xt l yX5_replace (Cond.code yX5_replace cX5_replace 5 (some .int) :: aW) { frames := 6, cells := 1, slots := 6, locals := 100 } G [(h, .inr (5, [.ref se, .ref tx, .ref rs, .ref sp, .int 0, .int mt, .int mf, .int mo, .long msp, .ref md, .ref pf, .ref pt, .int pcs]))] [.ref h] (fun E => E = xISE) := by
  refine ofX (y := yX5_replace) (G := G) (cc := cX5_replace) (maxL := 5) (ret := (some .int)) (by decide) rfl ?_
  intro p e s m below meth c F hK hT hex hP hD
  have hx := F.1.1; have hb := F.1.2.1; have hml := F.1.2.2.1; have hts := F.1.2.2.2.2
  have hown : s.vm.findClass RX5 = some m.cls := F.1.2.2.2.1
  have hl := lv_entry ([.ref h]) (n := 5) (Nat.le_of_ble_eq_true rfl)
  rw [lg_entry_eq]
  generalize (lg_sl ([.ref h]) ++ List.replicate (5 - (lg_sl ([.ref h])).length) Slot.unset).toArray = ls at hl ⊢
  have hl : lv_has ls 5 [(0, .ref h)] := hl
  refine lv_aload_n hx hb dX5_replace_0 rfl (lv_at hl 0 rfl) ?_
  refine va_get (D := G.1) (ci := 5) (v := .int 0) (C := RX5) (T := TX5) (N := 13) hx hb hts inX5 hown hK.1 hP 0 rfl rfl 4 (by decide) (hts _ w_194) (fun _ h9 => h9) rfl dX5_replace_1 ?_
  refine lv_if_ne (tgt := 15) hx hb dX5_replace_4 (by decide) (fun h => absurd rfl h) (fun _ => ?_)
  exact th_0 (E := xISE) (names := xUp) (ik := 87) (ic := 89) F hst (by decide +kernel) (by decide +kernel) (hts _ w_602) (hts _ w_603) (hts _ w_18) (at_ISE hts hT) hex hl.1 dX5_replace_7 dX5_replace_10 dX5_replace_11 dX5_replace_14 (by decide) (by decide) (by decide) (by decide) rfl

theorem dX5_split_0 : decode cX5_split 0 = .ok (.aload_n 0, 1) := by decide +kernel
theorem dX5_split_1 : decode cX5_split 1 = .ok (.getfield 76, 3) := by decide +kernel
theorem dX5_split_4 : decode cX5_split 4 = .ok (.ifCond .ne 11, 3) := by decide +kernel
theorem dX5_split_7 : decode cX5_split 7 = .ok (.new 87, 3) := by decide +kernel
theorem dX5_split_10 : decode cX5_split 10 = .ok (.dup, 1) := by decide +kernel
theorem dX5_split_11 : decode cX5_split 11 = .ok (.invokespecial 89, 3) := by decide +kernel
theorem dX5_split_14 : decode cX5_split 14 = .ok (.athrow, 1) := by decide +kernel
set_option maxHeartbeats 4000000 in
set_option maxRecDepth 100000 in
theorem x_split (l : Launch) (G : PG) (hst : l.stackTraces = false) (h se tx rs sp md pf pt : Nat) (mt mf mo pcs : Int32) (msp : Int64) : Xt l yX5_split (Cond.code yX5_split cX5_split 4 (some .int) :: aW) { frames := 6, cells := 1, slots := 6, locals := 100 } G [(h, .inr (5, [.ref se, .ref tx, .ref rs, .ref sp, .int 0, .int mt, .int mf, .int mo, .long msp, .ref md, .ref pf, .ref pt, .int pcs]))] [.ref h] (fun E => E = xISE) := by
  refine ofX (y := yX5_split) (G := G) (cc := cX5_split) (maxL := 4) (ret := (some .int)) (by decide) rfl ?_
  intro p e s m below meth c F hK hT hex hP hD
  have hx := F.1.1; have hb := F.1.2.1; have hml := F.1.2.2.1; have hts := F.1.2.2.2.2
  have hown : s.vm.findClass RX5 = some m.cls := F.1.2.2.2.1
  have hl := lv_entry ([.ref h]) (n := 4) (Nat.le_of_ble_eq_true rfl)
  rw [lg_entry_eq]
  generalize (lg_sl ([.ref h]) ++ List.replicate (4 - (lg_sl ([.ref h])).length) Slot.unset).toArray = ls at hl ⊢
  have hl : lv_has ls 4 [(0, .ref h)] := hl
  refine lv_aload_n hx hb dX5_split_0 rfl (lv_at hl 0 rfl) ?_
  refine va_get (D := G.1) (ci := 5) (v := .int 0) (C := RX5) (T := TX5) (N := 13) hx hb hts inX5 hown hK.1 hP 0 rfl rfl 4 (by decide) (hts _ w_194) (fun _ h9 => h9) rfl dX5_split_1 ?_
  refine lv_if_ne (tgt := 15) hx hb dX5_split_4 (by decide) (fun h => absurd rfl h) (fun _ => ?_)
  exact th_0 (E := xISE) (names := xUp) (ik := 87) (ic := 89) F hst (by decide +kernel) (by decide +kernel) (hts _ w_602) (hts _ w_603) (hts _ w_18) (at_ISE hts hT) hex hl.1 dX5_split_7 dX5_split_10 dX5_split_11 dX5_split_14 (by decide) (by decide) (by decide) (by decide) rfl

theorem dX5_start_0 : decode cX5_start 0 = .ok (.aload_n 0, 1) := by decide +kernel
theorem dX5_start_1 : decode cX5_start 1 = .ok (.getfield 80, 3) := by decide +kernel
theorem dX5_start_4 : decode cX5_start 4 = .ok (.ifCond .ne 11, 3) := by decide +kernel
theorem dX5_start_7 : decode cX5_start 7 = .ok (.new 87, 3) := by decide +kernel
theorem dX5_start_10 : decode cX5_start 10 = .ok (.dup, 1) := by decide +kernel
theorem dX5_start_11 : decode cX5_start 11 = .ok (.invokespecial 89, 3) := by decide +kernel
theorem dX5_start_14 : decode cX5_start 14 = .ok (.athrow, 1) := by decide +kernel
set_option maxHeartbeats 4000000 in
set_option maxRecDepth 100000 in
theorem x_start (l : Launch) (G : PG) (hst : l.stackTraces = false) (h se tx rs sp md pf pt : Nat) (cp mf mo pcs : Int32) (msp : Int64) (g : Int32) : Xt l yX5_start (Cond.code yX5_start cX5_start 2 (some .int) :: aW) { frames := 6, cells := 1, slots := 6, locals := 100 } G [(h, .inr (5, [.ref se, .ref tx, .ref rs, .ref sp, .int cp, .int 0, .int mf, .int mo, .long msp, .ref md, .ref pf, .ref pt, .int pcs]))] [.ref h, .int g] (fun E => E = xISE) := by
  refine ofX (y := yX5_start) (G := G) (cc := cX5_start) (maxL := 2) (ret := (some .int)) (by decide) rfl ?_
  intro p e s m below meth c F hK hT hex hP hD
  have hx := F.1.1; have hb := F.1.2.1; have hml := F.1.2.2.1; have hts := F.1.2.2.2.2
  have hown : s.vm.findClass RX5 = some m.cls := F.1.2.2.2.1
  have hl := lv_entry ([.ref h, .int g]) (n := 2) (Nat.le_of_ble_eq_true rfl)
  rw [lg_entry_eq]
  generalize (lg_sl ([.ref h, .int g]) ++ List.replicate (2 - (lg_sl ([.ref h, .int g])).length) Slot.unset).toArray = ls at hl ⊢
  have hl : lv_has ls 2 [(0, .ref h), (1, .int g)] := hl
  refine lv_aload_n hx hb dX5_start_0 rfl (lv_at hl 0 rfl) ?_
  refine va_get (D := G.1) (ci := 5) (v := .int 0) (C := RX5) (T := TX5) (N := 13) hx hb hts inX5 hown hK.1 hP 0 rfl rfl 5 (by decide) (hts _ w_195) (fun _ h9 => h9) rfl dX5_start_1 ?_
  refine lv_if_ne (tgt := 15) hx hb dX5_start_4 (by decide) (fun h => absurd rfl h) (fun _ => ?_)
  exact th_0 (E := xISE) (names := xUp) (ik := 87) (ic := 89) F hst (by decide +kernel) (by decide +kernel) (hts _ w_602) (hts _ w_603) (hts _ w_18) (at_ISE hts hT) hex hl.1 dX5_start_7 dX5_start_10 dX5_start_11 dX5_start_14 (by decide) (by decide) (by decide) (by decide) rfl

theorem dX5_end_0 : decode cX5_end 0 = .ok (.aload_n 0, 1) := by decide +kernel
theorem dX5_end_1 : decode cX5_end 1 = .ok (.getfield 80, 3) := by decide +kernel
theorem dX5_end_4 : decode cX5_end 4 = .ok (.ifCond .ne 11, 3) := by decide +kernel
theorem dX5_end_7 : decode cX5_end 7 = .ok (.new 87, 3) := by decide +kernel
theorem dX5_end_10 : decode cX5_end 10 = .ok (.dup, 1) := by decide +kernel
theorem dX5_end_11 : decode cX5_end 11 = .ok (.invokespecial 89, 3) := by decide +kernel
theorem dX5_end_14 : decode cX5_end 14 = .ok (.athrow, 1) := by decide +kernel
set_option maxHeartbeats 4000000 in
set_option maxRecDepth 100000 in
theorem x_end (l : Launch) (G : PG) (hst : l.stackTraces = false) (h se tx rs sp md pf pt : Nat) (cp mf mo pcs : Int32) (msp : Int64) (g : Int32) : Xt l yX5_end (Cond.code yX5_end cX5_end 2 (some .int) :: aW) { frames := 6, cells := 1, slots := 6, locals := 100 } G [(h, .inr (5, [.ref se, .ref tx, .ref rs, .ref sp, .int cp, .int 0, .int mf, .int mo, .long msp, .ref md, .ref pf, .ref pt, .int pcs]))] [.ref h, .int g] (fun E => E = xISE) := by
  refine ofX (y := yX5_end) (G := G) (cc := cX5_end) (maxL := 2) (ret := (some .int)) (by decide) rfl ?_
  intro p e s m below meth c F hK hT hex hP hD
  have hx := F.1.1; have hb := F.1.2.1; have hml := F.1.2.2.1; have hts := F.1.2.2.2.2
  have hown : s.vm.findClass RX5 = some m.cls := F.1.2.2.2.1
  have hl := lv_entry ([.ref h, .int g]) (n := 2) (Nat.le_of_ble_eq_true rfl)
  rw [lg_entry_eq]
  generalize (lg_sl ([.ref h, .int g]) ++ List.replicate (2 - (lg_sl ([.ref h, .int g])).length) Slot.unset).toArray = ls at hl ⊢
  have hl : lv_has ls 2 [(0, .ref h), (1, .int g)] := hl
  refine lv_aload_n hx hb dX5_end_0 rfl (lv_at hl 0 rfl) ?_
  refine va_get (D := G.1) (ci := 5) (v := .int 0) (C := RX5) (T := TX5) (N := 13) hx hb hts inX5 hown hK.1 hP 0 rfl rfl 5 (by decide) (hts _ w_195) (fun _ h9 => h9) rfl dX5_end_1 ?_
  refine lv_if_ne (tgt := 15) hx hb dX5_end_4 (by decide) (fun h => absurd rfl h) (fun _ => ?_)
  exact th_0 (E := xISE) (names := xUp) (ik := 87) (ic := 89) F hst (by decide +kernel) (by decide +kernel) (hts _ w_602) (hts _ w_603) (hts _ w_18) (at_ISE hts hT) hex hl.1 dX5_end_7 dX5_end_10 dX5_end_11 dX5_end_14 (by decide) (by decide) (by decide) (by decide) rfl

theorem dX5_find_0 : decode cX5_find 0 = .ok (.iload_n 1, 1) := by decide +kernel
theorem dX5_find_1 : decode cX5_find 1 = .ok (.ifCond .lt 14, 3) := by decide +kernel
theorem dX5_find_4 : decode cX5_find 4 = .ok (.iload_n 1, 1) := by decide +kernel
theorem dX5_find_5 : decode cX5_find 5 = .ok (.aload_n 0, 1) := by decide +kernel
theorem dX5_find_6 : decode cX5_find 6 = .ok (.getfield 20, 3) := by decide +kernel
theorem dX5_find_9 : decode cX5_find 9 = .ok (.invokevirtual 90, 3) := by decide +kernel
theorem dX5_find_12 : decode cX5_find 12 = .ok (.if_icmp .le 11, 3) := by decide +kernel
theorem dX5_find_23 : decode cX5_find 23 = .ok (.aload_n 0, 1) := by decide +kernel
theorem dX5_find_24 : decode cX5_find 24 = .ok (.getfield 76, 3) := by decide +kernel
theorem dX5_find_27 : decode cX5_find 27 = .ok (.ifCond .ne 11, 3) := by decide +kernel
theorem dX5_find_30 : decode cX5_find 30 = .ok (.new 87, 3) := by decide +kernel
theorem dX5_find_33 : decode cX5_find 33 = .ok (.dup, 1) := by decide +kernel
theorem dX5_find_34 : decode cX5_find 34 = .ok (.invokespecial 89, 3) := by decide +kernel
theorem dX5_find_37 : decode cX5_find 37 = .ok (.athrow, 1) := by decide +kernel
set_option maxHeartbeats 4000000 in
set_option maxRecDepth 100000 in
theorem x_find_ise (l : Launch) (G : PG) (hst : l.stackTraces = false) (h se tx rs sp md pf pt : Nat) (mt mf mo pcs : Int32) (msp : Int64) (tc j1 : Nat) (g1 : Nat → Int32) (fr : Int32) (h0 : ¬ fr < 0) (h1 : fr ≤ nI j1) : Xt l yX5_find (Cond.code yX5_find cX5_find 2 (some .int) :: aW) { frames := 6, cells := 1, slots := 6, locals := 100 } G [(h, .inr (5, [.ref se, .ref tx, .ref rs, .ref sp, .int 0, .int mt, .int mf, .int mo, .long msp, .ref md, .ref pf, .ref pt, .int pcs])), (tx, .inr (3, [.ref tc, .int (nI j1)])), (tc, .inl (G.2 2, 8, .inl g1))] [.ref h, .int fr] (fun E => E = xISE) := by
  refine ofX (y := yX5_find) (G := G) (cc := cX5_find) (maxL := 2) (ret := (some .int)) (by decide) rfl ?_
  intro p e s m below meth c F hK hT hex hP hD
  have hx := F.1.1; have hb := F.1.2.1; have hml := F.1.2.2.1; have hts := F.1.2.2.2.2
  have hown : s.vm.findClass RX5 = some m.cls := F.1.2.2.2.1
  have hl := lv_entry ([.ref h, .int fr]) (n := 2) (Nat.le_of_ble_eq_true rfl)
  rw [lg_entry_eq]
  generalize (lg_sl ([.ref h, .int fr]) ++ List.replicate (2 - (lg_sl ([.ref h, .int fr])).length) Slot.unset).toArray = ls at hl ⊢
  have hl : lv_has ls 2 [(0, .ref h), (1, .int fr)] := hl
  refine lv_iload_n hx hb dX5_find_0 rfl (lv_at hl 1 rfl) ?_
  refine lv_if_lt (tgt := 15) hx hb dX5_find_1 (by decide) (fun h => absurd h h0) (fun _ => ?_)
  refine lv_iload_n hx hb dX5_find_4 rfl (lv_at hl 1 rfl) ?_
  refine lv_aload_n hx hb dX5_find_5 rfl (lv_at hl 0 rfl) ?_
  refine va_get (D := G.1) (ci := 5) (v := .ref tx) (C := RX5) (T := TX5) (N := 13) hx hb hts inX5 hown hK.1 hP 0 rfl rfl 1 (by decide) (hts _ w_191) (fun _ h9 => h9) rfl dX5_find_6 ?_
  have hPc := hP.sub (ws' := [(tx, .inr (3, [.ref tc, .int (nI j1)])), (tc, .inl (G.2 2, 8, .inl g1))]) [1, 2] rfl
  have hDc := hD.sub (ws' := [(tx, .inr (3, [.ref tc, .int (nI j1)])), (tc, .inl (G.2 2, 8, .inl g1))]) [1, 2] (by decide) rfl
  have hqc : 0 + 0 ≤ 1 ∧ 0 + 0 ≤ 6 := ⟨by omega, by omega⟩
  refine kp_i (va_runV (As := []) (rest := [.int fr]) F.1 (p_row_size l G _ _ _ _ _ _) (cwV 0 hts (aw_V w_257 w_258 w_259 w_3 w_260) rfl rfl rfl (by decide +kernel) ⟨by decide, by decide⟩) ⟨cS_blind, va_recv (q := (RX3, TX3, 2)) (ci := 3) (q0 := 0) hK.1 hPc rfl rfl, cS_pre hPc hDc hK⟩ rfl rfl hl.1 rfl (lv_room (Nat.le_of_ble_eq_true rfl)) dX5_find_9 hqc) (fun r hp => ?_)
  subst hp
  refine lv_icmp_le (tgt := 23) hx hb dX5_find_12 (by decide) (fun _ => ?_) (fun h => absurd h1 h)
  refine lv_aload_n hx hb dX5_find_23 rfl (lv_at hl 0 rfl) ?_
  refine va_get (D := G.1) (ci := 5) (v := .int 0) (C := RX5) (T := TX5) (N := 13) hx hb hts inX5 hown hK.1 hP 0 rfl rfl 4 (by decide) (hts _ w_194) (fun _ h9 => h9) rfl dX5_find_24 ?_
  refine lv_if_ne (tgt := 38) hx hb dX5_find_27 (by decide) (fun h => absurd rfl h) (fun _ => ?_)
  exact th_0 (E := xISE) (names := xUp) (ik := 87) (ic := 89) F hst (by decide +kernel) (by decide +kernel) (hts _ w_602) (hts _ w_603) (hts _ w_18) (at_ISE hts hT) hex hl.1 dX5_find_30 dX5_find_33 dX5_find_34 dX5_find_37 (by decide) (by decide) (by decide) (by decide) rfl

theorem xf_1 {fr k : Int32} (h : fr < 0 ∨ k < fr) (h0 : ¬ fr < 0) : ¬ fr ≤ k := fun z => h.elim h0 (fun y => pk_nle y z)
theorem dX5_find_15 : decode cX5_find 15 = .ok (.new 98, 3) := by decide +kernel
theorem dX5_find_18 : decode cX5_find 18 = .ok (.dup, 1) := by decide +kernel
theorem dX5_find_19 : decode cX5_find 19 = .ok (.invokespecial 100, 3) := by decide +kernel
theorem dX5_find_22 : decode cX5_find 22 = .ok (.athrow, 1) := by decide +kernel
set_option maxHeartbeats 4000000 in
set_option maxRecDepth 100000 in
theorem x_find_oob (l : Launch) (G : PG) (hst : l.stackTraces = false) (h se tx rs sp md pf pt : Nat) (cp mt mf mo pcs : Int32) (msp : Int64) (tc j1 : Nat) (g1 : Nat → Int32) (fr : Int32) (hb9 : fr < 0 ∨ nI j1 < fr) : Xt l yX5_find (Cond.code yX5_find cX5_find 2 (some .int) :: aW) { frames := 6, cells := 1, slots := 6, locals := 100 } G [(h, .inr (5, [.ref se, .ref tx, .ref rs, .ref sp, .int cp, .int mt, .int mf, .int mo, .long msp, .ref md, .ref pf, .ref pt, .int pcs])), (tx, .inr (3, [.ref tc, .int (nI j1)])), (tc, .inl (G.2 2, 8, .inl g1))] [.ref h, .int fr] (fun E => E = xIOO) := by
  refine ofX (y := yX5_find) (G := G) (cc := cX5_find) (maxL := 2) (ret := (some .int)) (by decide) rfl ?_
  intro p e s m below meth c F hK hT hex hP hD
  have hx := F.1.1; have hb := F.1.2.1; have hml := F.1.2.2.1; have hts := F.1.2.2.2.2
  have hown : s.vm.findClass RX5 = some m.cls := F.1.2.2.2.1
  have hl := lv_entry ([.ref h, .int fr]) (n := 2) (Nat.le_of_ble_eq_true rfl)
  rw [lg_entry_eq]
  generalize (lg_sl ([.ref h, .int fr]) ++ List.replicate (2 - (lg_sl ([.ref h, .int fr])).length) Slot.unset).toArray = ls at hl ⊢
  have hl : lv_has ls 2 [(0, .ref h), (1, .int fr)] := hl
  refine lv_iload_n hx hb dX5_find_0 rfl (lv_at hl 1 rfl) ?_
  refine lv_if_lt (tgt := 15) hx hb dX5_find_1 (by decide) (fun h1 => ?_) (fun h1 => ?_)
  ·
    exact th_0 (E := xIOO) (names := xUp) (ik := 98) (ic := 100) F hst (by decide +kernel) (by decide +kernel) (hts _ w_743) (hts _ w_744) (hts _ w_19) (at_IOO hts hT) hex hl.1 dX5_find_15 dX5_find_18 dX5_find_19 dX5_find_22 (by decide) (by decide) (by decide) (by decide) rfl
  ·
    refine lv_iload_n hx hb dX5_find_4 rfl (lv_at hl 1 rfl) ?_
    refine lv_aload_n hx hb dX5_find_5 rfl (lv_at hl 0 rfl) ?_
    refine va_get (D := G.1) (ci := 5) (v := .ref tx) (C := RX5) (T := TX5) (N := 13) hx hb hts inX5 hown hK.1 hP 0 rfl rfl 1 (by decide) (hts _ w_191) (fun _ h9 => h9) rfl dX5_find_6 ?_
    have hPc := hP.sub (ws' := [(tx, .inr (3, [.ref tc, .int (nI j1)])), (tc, .inl (G.2 2, 8, .inl g1))]) [1, 2] rfl
    have hDc := hD.sub (ws' := [(tx, .inr (3, [.ref tc, .int (nI j1)])), (tc, .inl (G.2 2, 8, .inl g1))]) [1, 2] (by decide) rfl
    have hqc : 0 + 0 ≤ 1 ∧ 0 + 0 ≤ 6 := ⟨by omega, by omega⟩
    refine kp_i (va_runV (As := []) (rest := [.int fr]) F.1 (p_row_size l G _ _ _ _ _ _) (cwV 0 hts (aw_V w_257 w_258 w_259 w_3 w_260) rfl rfl rfl (by decide +kernel) ⟨by decide, by decide⟩) ⟨cS_blind, va_recv (q := (RX3, TX3, 2)) (ci := 3) (q0 := 0) hK.1 hPc rfl rfl, cS_pre hPc hDc hK⟩ rfl rfl hl.1 rfl (lv_room (Nat.le_of_ble_eq_true rfl)) dX5_find_9 hqc) (fun r hp => ?_)
    subst hp
    refine lv_icmp_le (tgt := 23) hx hb dX5_find_12 (by decide) (fun h => absurd h (xf_1 hb9 h1)) (fun _ => ?_)
    exact th_0 (E := xIOO) (names := xUp) (ik := 98) (ic := 100) F hst (by decide +kernel) (by decide +kernel) (hts _ w_743) (hts _ w_744) (hts _ w_19) (at_IOO hts hT) hex hl.1 dX5_find_15 dX5_find_18 dX5_find_19 dX5_find_22 (by decide) (by decide) (by decide) (by decide) rfl

theorem xf_2 {i k : Int32} (h : i < 0 ∨ k ≤ i) (h0 : ¬ i < 0) : ¬ i < k := fun z => h.elim h0 (fun y => pk_nle z y)
theorem dX5_replaced_0 : decode cX5_replaced 0 = .ok (.iload_n 1, 1) := by decide +kernel
theorem dX5_replaced_1 : decode cX5_replaced 1 = .ok (.ifCond .lt 14, 3) := by decide +kernel
theorem dX5_replaced_4 : decode cX5_replaced 4 = .ok (.iload_n 1, 1) := by decide +kernel
theorem dX5_replaced_5 : decode cX5_replaced 5 = .ok (.aload_n 0, 1) := by decide +kernel
theorem dX5_replaced_6 : decode cX5_replaced 6 = .ok (.getfield 37, 3) := by decide +kernel
theorem dX5_replaced_9 : decode cX5_replaced 9 = .ok (.invokevirtual 90, 3) := by decide +kernel
theorem dX5_replaced_12 : decode cX5_replaced 12 = .ok (.if_icmp .lt 11, 3) := by decide +kernel
theorem dX5_replaced_15 : decode cX5_replaced 15 = .ok (.new 98, 3) := by decide +kernel
theorem dX5_replaced_18 : decode cX5_replaced 18 = .ok (.dup, 1) := by decide +kernel
theorem dX5_replaced_19 : decode cX5_replaced 19 = .ok (.invokespecial 100, 3) := by decide +kernel
theorem dX5_replaced_22 : decode cX5_replaced 22 = .ok (.athrow, 1) := by decide +kernel
set_option maxHeartbeats 4000000 in
set_option maxRecDepth 100000 in
theorem x_replaced (l : Launch) (G : PG) (hst : l.stackTraces = false) (h se tx rs sp md pf pt : Nat) (cp mt mf mo pcs : Int32) (msp : Int64) (mc j9 : Nat) (g9 : Nat → Int32) (i : Int32) (hb9 : i < 0 ∨ nI j9 ≤ i) : Xt l yX5_replaced (Cond.code yX5_replaced cX5_replaced 2 (some .char) :: aW) { frames := 6, cells := 1, slots := 6, locals := 100 } G [(h, .inr (5, [.ref se, .ref tx, .ref rs, .ref sp, .int cp, .int mt, .int mf, .int mo, .long msp, .ref md, .ref pf, .ref pt, .int pcs])), (md, .inr (3, [.ref mc, .int (nI j9)])), (mc, .inl (G.2 2, 296, .inl g9))] [.ref h, .int i] (fun E => E = xIOO) := by
  refine ofX (y := yX5_replaced) (G := G) (cc := cX5_replaced) (maxL := 2) (ret := (some .char)) (by decide) rfl ?_
  intro p e s m below meth c F hK hT hex hP hD
  have hx := F.1.1; have hb := F.1.2.1; have hml := F.1.2.2.1; have hts := F.1.2.2.2.2
  have hown : s.vm.findClass RX5 = some m.cls := F.1.2.2.2.1
  have hl := lv_entry ([.ref h, .int i]) (n := 2) (Nat.le_of_ble_eq_true rfl)
  rw [lg_entry_eq]
  generalize (lg_sl ([.ref h, .int i]) ++ List.replicate (2 - (lg_sl ([.ref h, .int i])).length) Slot.unset).toArray = ls at hl ⊢
  have hl : lv_has ls 2 [(0, .ref h), (1, .int i)] := hl
  refine lv_iload_n hx hb dX5_replaced_0 rfl (lv_at hl 1 rfl) ?_
  refine lv_if_lt (tgt := 15) hx hb dX5_replaced_1 (by decide) (fun h1 => ?_) (fun h1 => ?_)
  ·
    exact th_0 (E := xIOO) (names := xUp) (ik := 98) (ic := 100) F hst (by decide +kernel) (by decide +kernel) (hts _ w_743) (hts _ w_744) (hts _ w_19) (at_IOO hts hT) hex hl.1 dX5_replaced_15 dX5_replaced_18 dX5_replaced_19 dX5_replaced_22 (by decide) (by decide) (by decide) (by decide) rfl
  ·
    refine lv_iload_n hx hb dX5_replaced_4 rfl (lv_at hl 1 rfl) ?_
    refine lv_aload_n hx hb dX5_replaced_5 rfl (lv_at hl 0 rfl) ?_
    refine va_get (D := G.1) (ci := 5) (v := .ref md) (C := RX5) (T := TX5) (N := 13) hx hb hts inX5 hown hK.1 hP 0 rfl rfl 9 (by decide) (hts _ w_199) (fun _ h9 => h9) rfl dX5_replaced_6 ?_
    have hPc := hP.sub (ws' := [(md, .inr (3, [.ref mc, .int (nI j9)])), (mc, .inl (G.2 2, 296, .inl g9))]) [1, 2] rfl
    have hDc := hD.sub (ws' := [(md, .inr (3, [.ref mc, .int (nI j9)])), (mc, .inl (G.2 2, 296, .inl g9))]) [1, 2] (by decide) rfl
    have hqc : 0 + 0 ≤ 1 ∧ 0 + 0 ≤ 6 := ⟨by omega, by omega⟩
    refine kp_i (va_runV (As := []) (rest := [.int i]) F.1 (p_row_size l G _ _ _ _ _ _) (cwV 0 hts (aw_V w_257 w_258 w_259 w_3 w_260) rfl rfl rfl (by decide +kernel) ⟨by decide, by decide⟩) ⟨cS_blind, va_recv (q := (RX3, TX3, 2)) (ci := 3) (q0 := 0) hK.1 hPc rfl rfl, cS_pre hPc hDc hK⟩ rfl rfl hl.1 rfl (lv_room (Nat.le_of_ble_eq_true rfl)) dX5_replaced_9 hqc) (fun r hp => ?_)
    subst hp
    refine lv_icmp_lt (tgt := 23) hx hb dX5_replaced_12 (by decide) (fun h => absurd h (xf_2 hb9 h1)) (fun _ => ?_)
    exact th_0 (E := xIOO) (names := xUp) (ik := 98) (ic := 100) F hst (by decide +kernel) (by decide +kernel) (hts _ w_743) (hts _ w_744) (hts _ w_19) (at_IOO hts hT) hex hl.1 dX5_replaced_15 dX5_replaced_18 dX5_replaced_19 dX5_replaced_22 (by decide) (by decide) (by decide) (by decide) rfl

theorem dX5_piece_0 : decode cX5_piece 0 = .ok (.iload_n 1, 1) := by decide +kernel
theorem dX5_piece_1 : decode cX5_piece 1 = .ok (.ifCond .lt 11, 3) := by decide +kernel
theorem dX5_piece_4 : decode cX5_piece 4 = .ok (.iload_n 1, 1) := by decide +kernel
theorem dX5_piece_5 : decode cX5_piece 5 = .ok (.aload_n 0, 1) := by decide +kernel
theorem dX5_piece_6 : decode cX5_piece 6 = .ok (.getfield 134, 3) := by decide +kernel
theorem dX5_piece_9 : decode cX5_piece 9 = .ok (.if_icmp .lt 11, 3) := by decide +kernel
theorem dX5_piece_12 : decode cX5_piece 12 = .ok (.new 98, 3) := by decide +kernel
theorem dX5_piece_15 : decode cX5_piece 15 = .ok (.dup, 1) := by decide +kernel
theorem dX5_piece_16 : decode cX5_piece 16 = .ok (.invokespecial 100, 3) := by decide +kernel
theorem dX5_piece_19 : decode cX5_piece 19 = .ok (.athrow, 1) := by decide +kernel
set_option maxHeartbeats 4000000 in
set_option maxRecDepth 100000 in
theorem x_piece (l : Launch) (G : PG) (hst : l.stackTraces = false) (h se tx rs sp md pf pt : Nat) (cp mt mf mo pcs : Int32) (msp : Int64) (i w : Int32) (hb9 : i < 0 ∨ pcs ≤ i) : Xt l yX5_piece (Cond.code yX5_piece cX5_piece 3 (some .int) :: aW) { frames := 6, cells := 1, slots := 6, locals := 100 } G [(h, .inr (5, [.ref se, .ref tx, .ref rs, .ref sp, .int cp, .int mt, .int mf, .int mo, .long msp, .ref md, .ref pf, .ref pt, .int pcs]))] [.ref h, .int i, .int w] (fun E => E = xIOO) := by
  refine ofX (y := yX5_piece) (G := G) (cc := cX5_piece) (maxL := 3) (ret := (some .int)) (by decide) rfl ?_
  intro p e s m below meth c F hK hT hex hP hD
  have hx := F.1.1; have hb := F.1.2.1; have hml := F.1.2.2.1; have hts := F.1.2.2.2.2
  have hown : s.vm.findClass RX5 = some m.cls := F.1.2.2.2.1
  have hl := lv_entry ([.ref h, .int i, .int w]) (n := 3) (Nat.le_of_ble_eq_true rfl)
  rw [lg_entry_eq]
  generalize (lg_sl ([.ref h, .int i, .int w]) ++ List.replicate (3 - (lg_sl ([.ref h, .int i, .int w])).length) Slot.unset).toArray = ls at hl ⊢
  have hl : lv_has ls 3 [(0, .ref h), (1, .int i), (2, .int w)] := hl
  refine lv_iload_n hx hb dX5_piece_0 rfl (lv_at hl 1 rfl) ?_
  refine lv_if_lt (tgt := 12) hx hb dX5_piece_1 (by decide) (fun h1 => ?_) (fun h1 => ?_)
  ·
    exact th_0 (E := xIOO) (names := xUp) (ik := 98) (ic := 100) F hst (by decide +kernel) (by decide +kernel) (hts _ w_743) (hts _ w_744) (hts _ w_19) (at_IOO hts hT) hex hl.1 dX5_piece_12 dX5_piece_15 dX5_piece_16 dX5_piece_19 (by decide) (by decide) (by decide) (by decide) rfl
  ·
    refine lv_iload_n hx hb dX5_piece_4 rfl (lv_at hl 1 rfl) ?_
    refine lv_aload_n hx hb dX5_piece_5 rfl (lv_at hl 0 rfl) ?_
    refine va_get (D := G.1) (ci := 5) (v := .int pcs) (C := RX5) (T := TX5) (N := 13) hx hb hts inX5 hown hK.1 hP 0 rfl rfl 12 (by decide) (hts _ w_202) (fun _ h9 => h9) rfl dX5_piece_6 ?_
    refine lv_icmp_lt (tgt := 20) hx hb dX5_piece_9 (by decide) (fun h => absurd h (xf_2 hb9 h1)) (fun _ => ?_)
    exact th_0 (E := xIOO) (names := xUp) (ik := 98) (ic := 100) F hst (by decide +kernel) (by decide +kernel) (hts _ w_743) (hts _ w_744) (hts _ w_19) (at_IOO hts hT) hex hl.1 dX5_piece_12 dX5_piece_15 dX5_piece_16 dX5_piece_19 (by decide) (by decide) (by decide) (by decide) rfl
end
